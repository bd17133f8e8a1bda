/-! ===== which cells a call changes ===== -/
theorem two {ω w1 : fOm} {m2 : Int32 × fOm} {T T2 : Nat} {r1 : Int32} (h : RR ω ω T) (hf : Mod lo ω w1) (hm : Mod hi w1 m2.2) (hR : RR ω w1 T → m2.1 = r1 ∧ RR w1 m2.2 T2) : RR ω w1 T ∧ m2.1 = r1 ∧ RR m2.2 m2.2 T2 := by
  have h1 : RR ω w1 T := h.eqv (fun _ _ => rfl) (fun q hq => hf q (by show ¬ q < 647; omega))
  obtain ⟨e, h2⟩ := hR h1
  exact ⟨h1, e, h2.eqv (fun q hq => hm q (by show ¬ 647 ≤ q; omega)) (fun _ _ => rfl)⟩
theorem kd1_le {k : Nat} (h : kd k = 1) : k + 58 ≤ 647 := by
  have key : ∀ k, k < 657 → kd k = 1 → k + 58 ≤ 647 := by decide +kernel
  exact key k (kd_lt h) h
theorem sS_lo {b : Nat} (h : b + 58 ≤ 647) : ∀ q, sS b q → lo q := fun q hq => by
  have hq : b ≤ q ∧ q < b + 58 := hq
  show q < 647
  omega
theorem keepD_M {W : fOm} {R : Int32} : Mod lo W (f_keepD W R) := fun q hq => by
  have hq : ¬ q < 647 := hq
  exact (keepD_c (A := W) (B := W) (a := R) rfl rfl).2 q (by omega) (by omega)
theorem hold_M {C : fOm} (hI : Inv C) : Mod lo C (f_hold C 1) := by
  have hs := Inv_13_1 hI (k := 117) rfl
  have h6 : (C 117 1).toNatClampNeg ≤ 6 := tn_le (n := 6) hs rfl
  have hk : kd (C 118 (C 117 1).toNatClampNeg).toNatClampNeg = 1 := (hI 118 _).2.2.2.2.2.2.2.2.1 rfl (by omega)
  unfold f_hold
  refine (scopy_M (cB_of hI (b := 1) rfl) (fun e => ?_)).mo (sS_lo (kd1_le hk))
  have : (C 118 (C 117 1).toNatClampNeg).toNatClampNeg = 0 := by omega
  rw [this] at hk
  exact absurd hk (by decide)
theorem chg_M {C W : fOm} {R : Int32} (hI : Inv C) (hW : Mod (sS 1) (f_hold C 1) W) : Mod lo C (f_keepD W R) := ((hold_M hI).tr (hW.mo (sS_lo (by omega)))).tr keepD_M
theorem holdcB {C M : fOm} {T : Nat} (h : RR C M T) : cB (f_hold C 1) 1 := h.h1.1.cB
theorem trialW_M {C : fOm} {t : Int32} (hI : Inv C) : Mod lo C (f_passTW (f_scopy C 59 1) 59 t) := by
  have h1 := cB_of hI (b := 1) rfl
  exact ((scopy_M (b := 59) h1 (by decide)).tr (passTW_M (scopy_cB (b := 59) h1 (by decide)))).mo (sS_lo (by omega))
theorem valInW_M {C : fOm} {l p t : Int32} (hI : Inv C) : Mod lo C (f_valInW C l p t) := by
  unfold f_valInW
  split
  · exact Mod.rf
  · split
    · exact Mod.rf
    · exact trialW_M hI
theorem leftW_M {C : fOm} {t : Int32} (hI : Inv C) : Mod lo C (f_leftW C t) := by
  unfold f_leftW
  split
  · exact Mod.rf
  · exact trialW_M hI
theorem firstW_M {C : fOm} {t : Int32} (hI : Inv C) : Mod lo C (f_tlW (f_scopy C 59 1) 59 t) := by
  have h1 := cB_of hI (b := 1) rfl
  exact ((scopy_M (b := 59) h1 (by decide)).tr (tlW_M (scopy_cB (b := 59) h1 (by decide)))).mo (sS_lo (by omega))
theorem bestW_M {C : fOm} {l g s wh : Int32} (hI : Inv C) : Mod lo C (f_best C l g s wh).2 := by
  have h1 := cB_of hI (b := 1) rfl
  unfold f_best
  split
  · exact Mod.rf
  · split
    · exact Mod.rf
    · split
      · exact Mod.rf
      · split
        · exact (bp_M h1 _).mo (sS_lo (by omega))
        · exact Mod.rf
theorem beF_M (n : Nat) : ∀ (j : Nat) (w : fOm), cB w 1 → Mod (sS 59) w (f_beF n j w).2 := by
  induction n with
  | zero => exact fun _ _ _ => Mod.rf
  | succ n ih =>
    intro j w h1
    have m1 := scopy_M (b := 59) h1 (by decide)
    have c1 := scopy_cB (b := 59) h1 (by decide)
    have m2 : Mod (sS 59) (f_scopy w 59 1) (f_chSetW (f_scopy w 59 1) 59 0 (50 - nI j)) := chSetW_M.mo (fun q hq => by have hq : q = 59 + 1 := hq; show 59 ≤ q ∧ q < 59 + 58; omega)
    have c2 : cB (f_chSetW (f_scopy w 59 1) 59 0 (50 - nI j)) 59 := by
      unfold cB
      rw [chSetW_M (b := 59) 59 (by decide)]
      exact c1
    have m3 := (m1.tr m2).tr (tlW_M (t := 100) c2)
    rw [beF_s]
    generalize f_tlR (f_chSetW (f_scopy w 59 1) 59 0 (50 - nI j)) 59 100 = R
    generalize f_tlW (f_chSetW (f_scopy w 59 1) 59 0 (50 - nI j)) 59 100 = w2 at m3 ⊢
    by_cases c : R = -6
    · rw [if_pos c]
      exact m3
    · rw [if_neg c]
      refine m3.tr (ih _ _ ?_)
      unfold cB
      rw [m3 1 (by show ¬ (59 ≤ 1 ∧ _); omega)]
      exact h1
theorem beW_M {C : fOm} (hI : Inv C) : Mod lo C (f_be C).2 := (beF_M 51 0 C (cB_of hI (b := 1) rfl)).mo (sS_lo (by omega))
theorem putW_M {C : fOm} {c : Int64} : Mod lo C (f_put C c).2 := by
  have ap : ∀ (w : fOm) (v : Int32), Mod lo w (f_append w v) := fun w v => by
    unfold f_append
    split
    · exact Mod.rf
    · exact Mod.wu (Mod.wu Mod.rf (by decide)) (by decide)
  have apL : ∀ j, Mod lo C (f_apL c C j) := fun j => by
    induction j with
    | zero => exact Mod.rf
    | succ j ih => exact ih.tr (ap _ _)
  unfold f_put
  split
  · exact Mod.rf
  · split
    · exact apL _
    · exact Mod.rf
theorem wipeW_M {C : fOm} : Mod lo C (wu C 527 1 0) := Mod.wu Mod.rf (by decide)
theorem ffW_M {C : fOm} : Mod lo C (f_ff C).2 := fun q hq => by
  have hq : ¬ q < 647 := hq
  exact p2_ff q (by omega) (by omega)
theorem undoW_M {C : fOm} (hI : Inv C) : Mod lo C (f_undoW C) := by
  have hs := Inv_13_1 hI (k := 117) rfl
  have t : Mod (fun q => q = 117) C (f_takeW C) := by
    unfold f_takeW
    split
    · exact Mod.rf
    · exact Mod.wu Mod.rf rfl
  have tl : Mod lo C (f_takeW C) := t.mo (fun q e => by rw [show q = 117 from e]; decide)
  unfold f_undoW
  cases e : f_takeL C with
  | none => exact tl
  | some k =>
    try dsimp only
    have hk : kd k = 1 := by
      unfold f_takeL at e
      by_cases c : C 117 1 = 0
      · rw [if_pos c] at e
        cases e
      · rw [if_neg c] at e
        have e := Option.some.inj e
        obtain ⟨n, hn, en⟩ := rgN (n := 6) hs rfl
        have n0 : n ≠ 0 := fun z => c (by rw [en, z]; rfl)
        obtain ⟨n, rfl⟩ : ∃ n2, n = n2 + 1 := ⟨n - 1, by omega⟩
        have e1 : f_takeW C 117 1 = nI n := by
          unfold f_takeW
          rw [if_neg c, wu_i, if_pos rfl, en, nI_pred]
        rw [e1, nI_clamp (by omega), t 118 (by decide)] at e
        rw [← e]
        exact (hI 118 n).2.2.2.2.2.2.2.2.1 rfl (by omega)
    have hkn : k ≠ 117 := fun z => by rw [z] at hk; exact absurd hk (by decide)
    have hcB : cB (f_takeW C) k := by
      unfold cB
      rw [t k hkn]
      exact cB_of hI hk
    refine tl.tr ((scopy_M hcB (fun z => ?_)).mo (sS_lo (by omega)))
    rw [z] at hk
    exact absurd hk (by decide)
theorem saveW_M {C : fOm} {s : Int32} (hI : Inv C) : Mod lo C (f_saveW C s) := by
  unfold f_saveW
  cases e : f_slotOf s with
  | none => exact Mod.rf
  | some k =>
    have hk := slotOf_of e
    exact Mod.wu ((scopy_M (cB_of hI (b := 1) rfl) (by omega)).mo (sS_lo (by omega))) (by decide)
theorem restW_M {C M : fOm} {T : Nat} {s : Int32} (h : RR C M T) (hI : Inv C) : Mod lo C (f_restW C s) := by
  unfold f_restW
  cases e : f_slotOf s with
  | none => exact Mod.rf
  | some k =>
    try dsimp only
    have hk := slotOf_of e
    split
    · exact Mod.rf
    · refine chg_M hI ?_
      unfold f_rest0
      refine scopy_M ?_ (by omega)
      obtain ⟨h1, ⟨n, f, g1, g2, g3, g4, g5, g6, g7, g8⟩, -⟩ := h
      obtain ⟨mi, hmi, es⟩ := g6 n (by omega)
      have en : (C 117 1).toNatClampNeg = n := by rw [g3, nI_clamp (by omega)]
      unfold cB f_hold
      rw [en, scopy_M (b := (C 118 n).toNatClampNeg) (b2 := 1) h1.1.cB (by omega) k (by show ¬ (_ ≤ k ∧ k < _ + 58); omega)]
      exact cB_of hI (slotOf_kd e)
/-! the reference -/
theorem hi_aS {a b : fOm} (h : Mod aS a b) : Mod hi a b := h.mo (fun q hq => by rw [show q = 648 from hq]; decide)
theorem hi_keep {M : fOm} : Mod hi M (m_keep M) := fun q hq => by
  have hq : ¬ 647 ≤ q := hq
  exact keep_q ⟨by omega, by omega⟩
theorem hi_kIf {M : fOm} {f : Int32} : Mod hi M (m_kIf M f) := by
  unfold m_kIf
  split
  · exact Mod.rf
  · exact hi_keep
theorem hi_tr {M w : fOm} (h : Mod aS (m_aside M) w) : Mod hi M (m_back w) := fun q hq => by
  have hq : ¬ 647 ≤ q := hq
  exact (lbL_ne (by omega) 770).trans ((h q (show ¬ q = 648 by omega)).trans (asL_ne (by omega) 770))
theorem hi_set {M : fOm} {s v : Int32} : Mod hi M (m_set M s v).2 := by
  unfold m_set
  by_cases c1 : f_btw s 0 3 = 0
  · rw [if_pos c1]
    exact Mod.rf
  · rw [if_neg c1]
    by_cases c2 : f_btw v (if s = 3 then 100 else 0) (m_hi s) = 0
    · rw [if_pos c2]
      exact Mod.rf
    · rw [if_neg c2]
      exact Mod.wu hi_keep (by decide)
theorem hi_loop {M : fOm} {v : Int32} : Mod hi M (m_loop M v).2 := by
  unfold m_loop
  split
  · exact Mod.rf
  · split
    · exact Mod.rf
    · exact Mod.wu (Mod.wu hi_keep (by decide)) (by decide)
theorem hi_dev {M : fOm} {l p k o t : Int32} : Mod hi M (m_dev M l p k o t).2 := by
  unfold m_dev
  split
  · exact Mod.rf
  · split
    · exact Mod.rf
    · split
      · exact Mod.rf
      · exact hi_keep.tr (hi_aS make_M)
theorem hi_join {M : fOm} {l p l2 p2 : Int32} : Mod hi M (m_join M l p l2 p2).2 := by
  unfold m_join
  split
  · exact Mod.rf
  · split
    · exact Mod.rf
    · split
      · exact Mod.rf
      · split
        · exact Mod.rf
        · exact hi_keep.tr (hi_aS joinW_M)
theorem hi_tT {M : fOm} {j m f : Int32} : Mod hi M (m_tT M j m f).2 := by
  unfold m_tT
  split
  · exact Mod.rf
  · split
    · exact Mod.rf
    · exact Mod.wu hi_kIf (by decide)
theorem hi_tF {M : fOm} {d v f : Int32} : Mod hi M (m_tF M d v f).2 := by
  unfold m_tF
  split
  · exact Mod.rf
  · split
    · split
      · exact Mod.rf
      · split
        · exact Mod.rf
        · exact Mod.wu (Mod.wu hi_kIf (by decide)) (by decide)
    · exact Mod.rf
theorem hi_tL {M : fOm} {l p v f : Int32} : Mod hi M (m_tL M l p v f).2 := by
  unfold m_tL
  split
  · exact Mod.rf
  · split
    · exact Mod.rf
    · split
      · exact hi_kIf.tr (hi_aS shine_M)
      · exact Mod.rf
theorem hi_tK {M : fOm} {t f : Int32} : Mod hi M (m_tK M t f).2 := by
  unfold m_tK
  split
  · exact Mod.rf
  · exact hi_kIf.tr (hi_aS (mpN_M _))
theorem hi_valIn {M : fOm} {l p t : Int32} : Mod hi M (m_valIn M l p t).2 := by
  unfold m_valIn
  split
  · exact Mod.rf
  · split
    · exact Mod.rf
    · exact hi_tr (mpN_M _)
theorem hi_left {M : fOm} {t : Int32} : Mod hi M (m_left M t).2 := by
  unfold m_left
  split
  · exact Mod.rf
  · exact hi_tr (mpN_M _)
theorem hi_lw {M : fOm} {t : Int32} : Mod hi M (m_lwW M t) := hi_tr (mpN_M _)
theorem hi_bp {M : fOm} {l g s : Int32} (j : Nat) : Mod hi M (m_bp l g s M j).2.2 := by
  induction j with
  | zero => exact Mod.rf
  | succ j ih => exact ih.tr (hi_tr (make_M.tr (mpN_M _)))
theorem hi_best {M : fOm} {l g s wh : Int32} : Mod hi M (m_best M l g s wh).2 := by
  unfold m_best
  split
  · exact Mod.rf
  · split
    · exact Mod.rf
    · split
      · exact Mod.rf
      · split
        · exact Mod.rf
        · split
          · exact Mod.rf
          · exact hi_bp _
theorem hi_beI {M : fOm} (j : Nat) : Mod hi M (m_beI M j) := by
  induction j with
  | zero => exact Mod.rf
  | succ j ih => exact (Mod.wu (v := 50 - nI j) (j := 0) (k := 648) ih (by decide)).tr hi_lw
theorem hi_bear {M : fOm} : Mod hi M (m_bear M).2 := Mod.wu (hi_beI _) (by decide)
theorem hi_put {M : fOm} {c : Int64} : Mod hi M (m_put M c).2 := by
  have apL : ∀ n j, Mod hi M (m_apL c n M j) := fun n j => by
    induction j with
    | zero => exact Mod.rf
    | succ j ih => exact Mod.wu ih (by decide)
  unfold m_put
  split
  · exact Mod.rf
  · split
    · exact Mod.rf
    · split
      · split
        · exact Mod.wu (apL _ _) (by decide)
        · exact Mod.rf
      · exact Mod.rf
theorem hi_wipe {M : fOm} : Mod hi M (wu M 647 8 0) := Mod.wu Mod.rf (by decide)
theorem hi_ft {M : fOm} : Mod hi M (m_ft M) := fun q hq => by
  have hq : ¬ 647 ≤ q := hq
  exact ft_F.1 q (by omega) (fun z => by have z : q = 654 ∨ q = 655 ∨ q = 656 := z; omega)
theorem hi_carry {M : fOm} : Mod hi M (m_carryW M) := by
  unfold m_carryW
  split
  · refine Mod.wu ((hi_ft.tr hi_keep).tr ?_) (by decide)
    show Mod hi (m_co0 M) (m_coE (m_co0 M))
    unfold m_coE
    split
    · exact hi_aS (coI_M _)
    · exact hi_aS (coI_M _)
  · exact hi_ft
theorem hi_undo {M : fOm} : Mod hi M (m_undo M).2 := by
  unfold m_undo
  split
  · exact Mod.rf
  · intro q hq
    have hq : ¬ 647 ≤ q := hq
    exact (unL_ne (by omega) 770).trans (wu_ne (by omega))
theorem hi_save {M : fOm} {s : Int32} : Mod hi M (m_save M s).2 := by
  unfold m_save
  split
  · exact Mod.rf
  · intro q hq
    have hq : ¬ 647 ≤ q := hq
    exact (wu_ne (by omega)).trans (saL_ne (by omega) 770)
theorem hi_rest {M : fOm} {s : Int32} : Mod hi M (m_rest M s).2 := by
  unfold m_rest
  split
  · exact Mod.rf
  · split
    · exact Mod.rf
    · intro q hq
      have hq : ¬ 647 ≤ q := hq
      exact (reL_ne (by omega) 770).trans (keep_q ⟨by omega, by omega⟩)
