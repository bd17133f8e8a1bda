/-! ===== undo, slots ===== -/
theorem unL_c {w : fOm} {p : Nat} (hp : p < 6) (j : Nat) (hj : j ≤ 770) : ∀ i, m_unL (nI p) w j 648 i = if i < j then w 649 (770 * p + i) else w 648 i := by
  have ne : ∀ (q j : Nat), q ≠ 648 → m_unL (nI p) w j q = w q := by
    intro q j hq
    induction j with
    | zero => rfl
    | succ j ih => exact (wu_ne hq).trans ih
  induction j with
  | zero => intro i; rw [if_neg (by omega)]; rfl
  | succ j ih =>
    intro i
    show wu (m_unL (nI p) w j) 648 j (m_unL (nI p) w j 649 (770 * nI p + nI j).toNatClampNeg) 648 i = _
    rw [show (770 : Int32) = nI 770 from rfl, pk_mul, nI_add, nI_clamp (by omega), wu_i, ne 649 j (by decide)]
    by_cases e : i = j
    · rw [if_pos e, if_pos (by omega), e]
    · rw [if_neg e, ih (by omega) i]
      by_cases c : i < j
      · rw [if_pos c, if_pos (by omega)]
      · rw [if_neg c, if_neg (by omega)]
theorem unL_ne {p : Int32} {w : fOm} {q : Nat} (hq : q ≠ 648) (j : Nat) : m_unL p w j q = w q := by
  induction j with
  | zero => rfl
  | succ j ih => exact (wu_ne hq).trans ih
theorem saL_ne {p : Int32} {w : fOm} {q : Nat} (hq : q ≠ 650) (j : Nat) : m_saL p w j q = w q := by
  induction j with
  | zero => rfl
  | succ j ih => exact (wu_ne hq).trans ih
theorem reL_ne {p : Int32} {w : fOm} {q : Nat} (hq : q ≠ 648) (j : Nat) : m_reL p w j q = w q := by
  induction j with
  | zero => rfl
  | succ j ih => exact (wu_ne hq).trans ih
theorem saL_c {w : fOm} {p : Nat} (hp : p < 2) (j : Nat) (hj : j ≤ 770) : ∀ i, m_saL (nI p) w j 650 i = if 770 * p ≤ i ∧ i < 770 * p + j then w 648 (i - 770 * p) else w 650 i := by
  induction j with
  | zero => intro i; rw [if_neg (by omega)]; rfl
  | succ j ih =>
    intro i
    show wu (m_saL (nI p) w j) 650 (770 * nI p + nI j).toNatClampNeg (m_saL (nI p) w j 648 j) 650 i = _
    rw [show (770 : Int32) = nI 770 from rfl, pk_mul, nI_add, nI_clamp (by omega), wu_i, saL_ne (by decide)]
    by_cases e : i = 770 * p + j
    · rw [if_pos e, if_pos (by omega), e, Nat.add_sub_cancel_left]
    · rw [if_neg e, ih (by omega) i]
      by_cases c : 770 * p ≤ i ∧ i < 770 * p + j
      · rw [if_pos c, if_pos (by omega)]
      · rw [if_neg c, if_neg (by omega)]
theorem reL_c {w : fOm} {p : Nat} (hp : p < 2) (j : Nat) (hj : j ≤ 770) : ∀ i, m_reL (nI p) w j 648 i = if i < j then w 650 (770 * p + i) else w 648 i := by
  induction j with
  | zero => intro i; rw [if_neg (by omega)]; rfl
  | succ j ih =>
    intro i
    show wu (m_reL (nI p) w j) 648 j (m_reL (nI p) w j 650 (770 * nI p + nI j).toNatClampNeg) 648 i = _
    rw [show (770 : Int32) = nI 770 from rfl, pk_mul, nI_add, nI_clamp (by omega), wu_i, reL_ne (by decide)]
    by_cases e : i = j
    · rw [if_pos e, if_pos (by omega), e]
    · rw [if_neg e, ih (by omega) i]
      by_cases c : i < j
      · rw [if_pos c, if_pos (by omega)]
      · rw [if_neg c, if_neg (by omega)]
theorem undo_R {C M : fOm} {T : Nat} (h : RR C M T) : (m_undo M).1 = f_undo C ∧ RR (f_undoW C) (m_undo M).2 T := by
  obtain ⟨h1, ⟨n, f, g1, g2, g3, g4, g5, g6, g7, g8⟩, h3, m, k1, k2, k3, k4⟩ := id h
  unfold f_undo f_undoW m_undo
  cases n with
  | zero =>
    have e : f_takeL C = none := by unfold f_takeL; rw [g3, if_pos (show nI 0 = (0:Int32) from rfl)]
    have e2 : f_takeW C = C := by unfold f_takeW; rw [g3, if_pos (show nI 0 = (0:Int32) from rfl)]
    rw [e, g4, if_pos (show nI 0 = (0:Int32) from rfl)]
    try dsimp only
    rw [e2]
    exact ⟨rfl, h⟩
  | succ n =>
    have hz : ¬ nI (n + 1) = 0 := nI_ne0 (by omega) (by omega)
    have eW : f_takeW C = wu C 117 1 (nI n) := by unfold f_takeW; rw [g3, if_neg hz, nI_pred]
    have e1 : f_takeW C 117 1 = nI n := by rw [eW, wu_i, if_pos rfl]
    have e118 : f_takeW C 118 = C 118 := by rw [eW, wu_ne (by decide)]
    have e : f_takeL C = some (C 118 n).toNatClampNeg := by unfold f_takeL; rw [g3, if_neg hz, e1, e118, nI_clamp (by omega)]
    obtain ⟨mi, hmi, es⟩ := g6 n (by omega)
    rw [e, g4, if_neg hz]
    try dsimp only
    have u2 : m_un0 M 647 2 = nI f := by unfold m_un0; rw [wu_i, if_neg (by decide)]; exact g5
    have u3 : m_un0 M 647 3 = nI n := by unfold m_un0; rw [wu_i, if_pos rfl, g4, nI_pred]
    have up : m_kpP (m_un0 M) = nI ((f + n) % 6) := by unfold m_kpP; rw [u2, u3, nI_add, rem6_n (by omega)]
    have uo : ∀ q, q ≠ 647 → m_un0 M q = M q := fun q hq => wu_ne hq
    have ui : ∀ i, i ≠ 3 → m_un0 M 647 i = M 647 i := fun i hi => by unfold m_un0; rw [wu_i, if_neg hi]
    rw [up]
    have hp : (f + n) % 6 < 6 := Nat.mod_lt _ (by decide)
    generalize (C 118 n).toNatClampNeg = s at es e ⊢
    have hs := g8 n (by omega)
    have src : SX (f_takeW C) (C 118 n).toNatClampNeg (pR M ((f + n) % 6)) T := by
      obtain ⟨m2, hm2, e2⟩ := g6 n (by omega)
      exact hs.eqv (fun q q1 q2 => by rw [eW, wu_ne (by omega)]) (fun _ _ => rfl)
    have es2 : (C 118 n).toNatClampNeg = s := by
      have := e
      unfold f_takeL at this
      rw [g3, if_neg hz, e1, e118, nI_clamp (by omega)] at this
      exact Option.some.inj this
    rw [es2] at src
    have hW : Mod (sS 1) (f_takeW C) (f_scopy (f_takeW C) 1 s) := scopy_M src.1.cB (by omega)
    have o : ∀ q, ¬ (1 ≤ q ∧ q < 59) → q ≠ 117 → f_scopy (f_takeW C) 1 s q = C q := fun q h1 h2 => (hW q (by show ¬ (1 ≤ q ∧ q < 1 + 58); omega)).trans (by rw [eW, wu_ne h2])
    have o117 : f_scopy (f_takeW C) 1 s 117 1 = nI n := by rw [hW 117 (by show ¬ (1 ≤ 117 ∧ 117 < 1 + 58); omega)]; exact e1
    have x3 : m_unL (nI ((f + n) % 6)) (m_un0 M) 770 647 3 = nI n := by rw [unL_ne (by decide), u3]
    refine ⟨by show m_unL _ _ 770 647 3 = _; rw [x3, o117], ?_⟩
    show RR _ (m_unL (nI ((f + n) % 6)) (m_un0 M) 770) T
    have xo : ∀ q, q ≠ 647 → q ≠ 648 → m_unL (nI ((f + n) % 6)) (m_un0 M) 770 q = M q := fun q h1 h2 => by rw [unL_ne h2, uo q h1]
    have cp : SX (f_scopy (f_takeW C) 1 s) 1 (pR M ((f + n) % 6)) T := ⟨src.1.copy (by unfold apart; omega), src.2⟩
    refine ⟨cp.eqv (fun _ _ _ => rfl) (fun i hi => by rw [unL_c hp 770 (Nat.le_refl _), if_pos hi, uo 649 (by decide)]; rfl), ⟨n, f, by omega, g2, o117, x3, by rw [unL_ne (by decide), u2], by rw [o 118 (by omega) (by omega)]; exact g6, by rw [o 118 (by omega) (by omega)]; exact g7, fun i hi => ?_⟩, fun sl hsl => ?_, m, k1, by rw [o 527 (by omega) (by omega)]; exact k2, by rw [unL_ne (by decide), ui 8 (by decide)]; exact k3, by rw [o 528 (by omega) (by omega), xo 653 (by decide) (by decide)]; exact k4⟩
    · rw [o 118 (by omega) (by omega)]
      obtain ⟨m2, hm2, e2⟩ := g6 i (by omega)
      exact (g8 i (by omega)).eqv (fun q q1 q2 => o q (by omega) (by omega)) (fun x hx => by unfold pR; rw [xo 649 (by decide) (by decide)])
    · rw [o 526 (by omega) (by omega), xo 651 (by decide) (by decide)]
      exact ⟨(h3 sl hsl).1, fun c => ((h3 sl hsl).2 c).eqv (fun q q1 q2 => o q (by omega) (by omega)) (fun x hx => by unfold sRw; rw [xo 650 (by decide) (by decide)])⟩
theorem slot_k (s : Int32) : (f_btw s 0 1 = 0 ∧ f_slotOf s = none) ∨ (∃ n, n < 2 ∧ s = nI n ∧ ¬ f_btw s 0 1 = 0 ∧ f_slotOf s = some (531 + 58 * n) ∧ s.toNatClampNeg = n) := by
  rcases btw_k (x := s) 0 1 (by omega) (by omega) with ⟨n, n1, n2, n3, n4⟩ | ⟨n1, -⟩
  · have n4 : ¬ f_btw s 0 1 = 0 := n4
    refine Or.inr ⟨n, by omega, n3, n4, ?_, by rw [n3, nI_clamp (by omega)]⟩
    unfold f_slotOf
    rw [if_neg n4, n3, nI_clamp (by omega)]
  · refine Or.inl ⟨n1, ?_⟩
    unfold f_slotOf
    rw [if_pos (show f_btw s 0 1 = 0 from n1)]
theorem save_R {C M : fOm} {T : Nat} {s : Int32} (h : RR C M T) : (m_save M s).1 = f_save C s ∧ RR (f_saveW C s) (m_save M s).2 T := by
  obtain ⟨h1, ⟨n, f, g1, g2, g3, g4, g5, g6, g7, g8⟩, h3, m, k1, k2, k3, k4⟩ := id h
  unfold f_save f_saveW m_save
  rcases slot_k s with ⟨q1, q2⟩ | ⟨z, hz, ez, q1, q2, q3⟩
  · rw [q2, if_pos q1]
    exact ⟨rfl, h⟩
  · rw [q2, if_neg q1, q3, ez]
    try dsimp only
    have hM : Mod (sS (531 + 58 * z)) C (f_scopy C (531 + 58 * z) 1) := scopy_M h1.1.cB (by omega)
    have o : ∀ q, ¬ (531 + 58 * z ≤ q ∧ q < 589 + 58 * z) → q ≠ 526 → wu (f_scopy C (531 + 58 * z) 1) 526 z 1 q = C q := fun q x1 x2 => (wu_ne x2).trans (hM q (by show ¬ (531 + 58 * z ≤ q ∧ q < 531 + 58 * z + 58); omega))
    have o526 : ∀ i, wu (f_scopy C (531 + 58 * z) 1) 526 z 1 526 i = if i = z then 1 else C 526 i := fun i => by rw [wu_i, hM 526 (by show ¬ (531 + 58 * z ≤ 526 ∧ _); omega)]
    have xo : ∀ q, q ≠ 650 → q ≠ 651 → wu (m_saL (nI z) M 770) 651 z 1 q = M q := fun q x1 x2 => (wu_ne x2).trans (saL_ne x1 770)
    have x651 : ∀ i, wu (m_saL (nI z) M 770) 651 z 1 651 i = if i = z then 1 else M 651 i := fun i => by rw [wu_i, saL_ne (by decide)]
    have x650 : ∀ i, wu (m_saL (nI z) M 770) 651 z 1 650 i = m_saL (nI z) M 770 650 i := fun i => by rw [wu_ne (by decide)]
    refine ⟨by show wu (m_saL (nI z) M 770) 651 z 1 648 4 = _; rw [xo 648 (by decide) (by decide), o 1 (by omega) (by omega)]; exact h1.1.c5.2.2.2, ?_⟩
    show RR _ (wu (m_saL (nI z) M 770) 651 z 1) T
    refine ⟨h1.eqv (fun q q1 q2 => o q (by omega) (by omega)) (fun i hi => by rw [xo 648 (by decide) (by decide)]), ⟨n, f, g1, g2, by rw [o 117 (by omega) (by omega)]; exact g3, by rw [xo 647 (by decide) (by decide)]; exact g4, by rw [xo 647 (by decide) (by decide)]; exact g5, by rw [o 118 (by omega) (by omega)]; exact g6, by rw [o 118 (by omega) (by omega)]; exact g7, fun i hi => ?_⟩, fun sl hsl => ?_, m, k1, by rw [o 527 (by omega) (by omega)]; exact k2, by rw [xo 647 (by decide) (by decide)]; exact k3, by rw [o 528 (by omega) (by omega), xo 653 (by decide) (by decide)]; exact k4⟩
    · rw [o 118 (by omega) (by omega)]
      obtain ⟨m2, hm2, e2⟩ := g6 i (by omega)
      exact (g8 i hi).eqv (fun q q1 q2 => o q (by omega) (by omega)) (fun x hx => by unfold pR; rw [xo 649 (by decide) (by decide)])
    · rw [o526, x651]
      by_cases e : sl = z
      · subst e
        rw [if_pos rfl, if_pos rfl]
        refine ⟨rfl, fun _ => ?_⟩
        have cp : SX (f_scopy C (531 + 58 * sl) 1) (531 + 58 * sl) (M 648) T := ⟨h1.1.copy (by unfold apart; omega), h1.2⟩
        exact cp.eqv (fun q q1 q2 => wu_ne (by omega)) (fun x hx => by unfold sRw; rw [x650, saL_c hz 770 (Nat.le_refl _), if_pos (by omega), Nat.add_sub_cancel_left])
      · rw [if_neg e, if_neg e]
        exact ⟨(h3 sl hsl).1, fun c => ((h3 sl hsl).2 c).eqv (fun q q1 q2 => o q (by omega) (by omega)) (fun x hx => by unfold sRw; rw [x650, saL_c hz 770 (Nat.le_refl _), if_neg (by omega)])⟩
theorem restore_R {C M : fOm} {T : Nat} {s : Int32} (h : RR C M T) (hT : T < 1000000000) : (m_rest M s).1 = f_restR C s ∧ RR (f_restW C s) (m_rest M s).2 (T + 5600) := by
  obtain ⟨h1, ⟨n, f, g1, g2, g3, g4, g5, g6, g7, g8⟩, h3, -⟩ := id h
  unfold f_restR f_restW m_rest
  rcases slot_k s with ⟨q1, q2⟩ | ⟨z, hz, ez, q1, q2, q3⟩
  · rw [q2, if_pos q1]
    exact ⟨rfl, h.le (by omega)⟩
  · rw [q2, if_neg q1, q3, ez]
    try dsimp only
    rw [← (h3 z hz).1]
    by_cases c : C 526 z = 0
    · rw [if_pos c, if_pos c, if_pos c]
      exact ⟨rfl, h.le (by omega)⟩
    · rw [if_neg c, if_neg c, if_neg c]
      have hs := (h3 z hz).2 c
      have hh := h.h1
      have hs2 : SX (f_hold C 1) (531 + 58 * z) (sRw M z) T := by
        obtain ⟨mi, hmi, es⟩ := g6 n (by omega)
        have en : (C 117 1).toNatClampNeg = n := by rw [g3, nI_clamp (by omega)]
        have hM : Mod (sS (C 118 n).toNatClampNeg) C (f_hold C 1) := by
          unfold f_hold
          rw [en]
          exact scopy_M h1.1.cB (by omega)
        exact hs.eqv (fun q x1 x2 => hM q (by show ¬ ((C 118 n).toNatClampNeg ≤ q ∧ _); omega)) (fun _ _ => rfl)
      have cp : SX (f_rest0 C (531 + 58 * z)) 1 (sRw M z) T := ⟨hs2.1.copy (by unfold apart; omega), hs2.2⟩
      have eX : ∀ i, i < 770 → m_reL (nI z) (m_keep M) 770 648 i = sRw M z i := fun i hi => by
        rw [reL_c hz 770 (Nat.le_refl _), if_pos hi, keep_q ⟨by decide, by decide⟩]
        rfl
      have hX : SX (f_rest0 C (531 + 58 * z)) 1 (m_reL (nI z) (m_keep M) 770 648) T := cp.eqv (fun _ _ _ => rfl) eX
      have e4 : f_rest0 C (531 + 58 * z) 1 4 = m_reL (nI z) (m_keep M) 770 648 4 := hX.1.c5.2.2.2.symm
      have r0 : 0 ≤ f_rest0 C (531 + 58 * z) 1 4 := by
        rw [e4]
        obtain ⟨t, ht, et, -⟩ := hX.2.2
        rw [et]
        exact nI_pos' (by omega)
      have mr : Mod aS (m_keep M) (m_reL (nI z) (m_keep M) 770) := fun q hq => reL_ne hq 770
      clear cp eX
      generalize m_reL (nI z) (m_keep M) 770 = X at e4 mr hX ⊢
      exact h.change (m := (X 648 4, X)) (R := f_rest0 C (531 + 58 * z) 1 4) (by omega) (scopy_M hs2.1.cB (by omega)) (fun _ => Or.inr ⟨r0, e4.symm, mr, hX.1, hX.2.1, hX.2.2.le (by omega)⟩)
theorem wipe_R {C M : fOm} {T : Nat} (h : RR C M T) : M 647 8 = C 527 1 ∧ RR (wu C 527 1 0) (wu M 647 8 0) T := by
  obtain ⟨h1, ⟨n, f, g1, g2, g3, g4, g5, g6, g7, g8⟩, h3, m, k1, k2, k3, k4⟩ := h
  have xo : ∀ q, q ≠ 647 → wu M 647 8 0 q = M q := fun q hq => wu_ne hq
  have o : ∀ q, q ≠ 527 → wu C 527 1 0 q = C q := fun q hq => wu_ne hq
  have xi : ∀ i, i ≠ 8 → wu M 647 8 0 647 i = M 647 i := fun i hi => by rw [wu_i, if_neg hi]
  have c0 : wu C 527 1 0 527 1 = nI 0 := by rw [wu_i]; rfl
  have m0 : wu M 647 8 0 647 8 = nI 0 := by rw [wu_i]; rfl
  refine ⟨by rw [k2, k3], h1.eqv (fun q q1 q2 => o q (by omega)) (fun i hi => by rw [xo 648 (by decide)]), ⟨n, f, g1, g2, by rw [o 117 (by omega)]; exact g3, (xi 3 (by decide)).trans g4, (xi 2 (by decide)).trans g5, by rw [o 118 (by omega)]; exact g6, by rw [o 118 (by omega)]; exact g7, fun i hi => ?_⟩, fun sl hsl => ?_, 0, by omega, c0, m0, fun i hi => absurd hi (by omega)⟩
  · rw [o 118 (by omega)]
    obtain ⟨m2, hm2, e2⟩ := g6 i (by omega)
    exact (g8 i hi).eqv (fun q q1 q2 => o q (by omega)) (fun x hx => by unfold pR; rw [xo 649 (by decide)])
  · rw [o 526 (by omega), xo 651 (by decide)]
    exact ⟨(h3 sl hsl).1, fun c => ((h3 sl hsl).2 c).eqv (fun q q1 q2 => o q (by omega)) (fun x hx => by unfold sRw; rw [xo 650 (by decide)])⟩
/-! ===== forecasts ===== -/
theorem back_X {M w : fOm} (h : Mod aS (m_aside M) w) : (∀ i, i < 770 → m_back w 648 i = M 648 i) ∧ ∀ q, q ≠ 648 → q ≠ 652 → m_back w q = M q :=
  ⟨fun i hi => back_e h i hi, fun q q1 q2 => (lbL_ne q1 770).trans ((h q q1).trans (asL_ne q2 770))⟩
theorem RR.tr {C M W w : fOm} {T : Nat} (h : RR C M T) (hC : Mod (sS 59) C W) (hM : Mod aS (m_aside M) w) : RR W (m_back w) T := by
  obtain ⟨b1, b2⟩ := back_X hM
  exact h.side (fun q q1 _ _ => hC q (by show ¬ (59 ≤ q ∧ q < 59 + 58); omega)) b1 (fun q q1 q2 q3 _ _ _ => b2 q q2 q3) (fun i _ => by rw [b2 647 (by decide) (by decide)])
theorem trial {C M : fOm} {T : Nat} (h : SX C 1 (M 648) T) : SR (f_scopy C 59 1) 59 (m_aside M 648) ∧ MW (m_aside M 648) := by
  rw [aside_648]
  exact ⟨h.1.copy (by unfold apart; omega), h.2.1⟩
theorem trialM {C M : fOm} {T : Nat} (h : SX C 1 (M 648) T) : Mod (sS 59) C (f_scopy C 59 1) := scopy_M h.1.cB (by decide)
theorem valIn_R {C M : fOm} {T : Nat} {l p t : Int32} (h : RR C M T) : (m_valIn M l p t).1 = f_valIn C l p t ∧ RR (f_valInW C l p t) (m_valIn M l p t).2 T := by
  unfold f_valIn f_valInW m_valIn
  rcases h.1.1.placeOf l p with ⟨q1, q2⟩ | ⟨r, q, rfl, rfl, hr, hr5, hq, hq32, h1, h2⟩
  · rw [q2, if_pos q1]
    exact ⟨rfl, h⟩
  · rw [h2, if_neg h1]
    try dsimp only
    rcases btw_k (x := t) 1 200 (by omega) (by omega) with ⟨v, v1, v2, v3, v4⟩ | ⟨v1, -⟩
    · have v4 : ¬ f_btw t 1 200 = 0 := v4
      have et : t.toNatClampNeg = v := by rw [v3, nI_clamp (by omega)]
      rw [if_neg v4, if_neg v4, if_neg v4, et]
      have eW : f_passTW (f_scopy C 59 1) 59 t = f_passN 59 (f_scopy C 59 1) v := by unfold f_passTW; rw [if_neg v4, et]
      obtain ⟨t1, t2⟩ := trial h.1
      have hS := t1.passN v
      have hK := pN_K t2 v
      rw [eW]
      have e5 : m_pN (m_aside M) v 648 5 = M 648 5 := by rw [hK.1 5 rfl, aside_648]
      have hr2 : r < (m_pN (m_aside M) v 648 5).toNatClampNeg := by rw [e5]; exact hr
      have hL := hS.2.2.2.2.1 r hr2
      have hL0 := h.1.1.2.2.2.2.1 r hr
      have e8 : f_passN 59 (f_scopy C 59 1) v (59 + 5 + 5 * r) 0 = C (1 + 5 + 5 * r) 0 := by
        rw [← hL.1, ← hL0.1, hK.1 (8 + 6 * r) (by have := (ck_L r hr5 0 (by omega)).1; exact this), aside_648]
      rw [hS.ring hr2]
      try dsimp only
      rw [hL.val (by rw [e8]; exact hq), (mc_tn hr5 hq32).1]
      exact ⟨rfl, h.tr ((trialM h.1).tr (passN_MB t1.cB v).1) (mpN_M v)⟩
    · rw [if_pos (show f_btw t 1 200 = 0 from v1), if_pos (show f_btw t 1 200 = 0 from v1), if_pos (show f_btw t 1 200 = 0 from v1)]
      exact ⟨rfl, h⟩
theorem left_R {C M : fOm} {T : Nat} {t : Int32} (h : RR C M T) : (m_left M t).1 = f_left C t ∧ RR (f_leftW C t) (m_left M t).2 T := by
  unfold f_left f_leftW m_left
  rcases btw_k (x := t) 1 200 (by omega) (by omega) with ⟨v, v1, v2, v3, v4⟩ | ⟨v1, -⟩
  · have v4 : ¬ f_btw t 1 200 = 0 := v4
    have et : t.toNatClampNeg = v := by rw [v3, nI_clamp (by omega)]
    have eW : f_passTW (f_scopy C 59 1) 59 t = f_passN 59 (f_scopy C 59 1) v := by unfold f_passTW; rw [if_neg v4, et]
    rw [if_neg v4, if_neg v4, if_neg v4, et, eW]
    obtain ⟨t1, t2⟩ := trial h.1
    have hS := t1.passN v
    exact ⟨hS.flAll.symm, h.tr ((trialM h.1).tr (passN_MB t1.cB v).1) (mpN_M v)⟩
  · rw [if_pos (show f_btw t 1 200 = 0 from v1), if_pos (show f_btw t 1 200 = 0 from v1), if_pos (show f_btw t 1 200 = 0 from v1)]
    exact ⟨rfl, h⟩
/-- how many are lost in all, as a number that only grows -/
def sNn (x : Nat → Nat) : Nat → Nat
  | 0 => 0
  | k + 1 => sNn x k + x k
theorem sNn_le {x y : Nat → Nat} {k : Nat} (h : ∀ r, r < k → x r ≤ y r) : sNn x k ≤ sNn y k := by
  induction k with
  | zero => exact Nat.le_refl 0
  | succ k ih =>
    have := ih (fun r hr => h r (by omega))
    have := h k (by omega)
    show sNn x k + x k ≤ sNn y k + y k
    omega
theorem sNn_b {x : Nat → Nat} {k B : Nat} (h : ∀ r, r < k → x r ≤ B) : sNn x k ≤ k * B := by
  induction k with
  | zero => exact Nat.zero_le _
  | succ k ih =>
    have := ih (fun r hr => h r (by omega))
    have := h k (by omega)
    show sNn x k + x k ≤ (k + 1) * B
    rw [Nat.succ_mul]
    omega
theorem sum_n {w : fOm} {x : Nat → Nat} (hW : MW (w 648)) (h : ∀ r, r < 5 → w 648 (10 + 6 * r) = nI (x r)) : m_sum w 2 = nI (sNn x (w 648 5).toNatClampNeg) := by
  have n5 := hW.n5
  unfold m_sum
  have key : ∀ j, j ≤ (w 648 5).toNatClampNeg → m_su w 2 j = nI (sNn x j) := by
    intro j
    induction j with
    | zero => exact fun _ => rfl
    | succ j ih =>
      intro hj
      show m_su w 2 j + (if (2 : Int32) = 0 then m_flashes w (nI j) else w 648 (iL (nI j) 2)) = _
      rw [if_neg (by decide), ih (by omega), show (2 : Int32) = nI 2 from rfl, iL_n (by omega) (by omega), show 8 + 6 * j + 2 = 10 + 6 * j by omega, h j (by omega), nI_add]
      rfl
  exact key _ (Nat.le_refl _)
theorem sum_j {A : fOm} {T : Nat} (hW : MW (A 648)) (hT : TK (A 648) T) (hT2 : T < 5000000) (j : Nat) (hj : j ≤ 400) : ∃ s s2 : Nat, m_sum (m_pN A j) 2 = nI s ∧ m_sum (m_pN A (j + 1)) 2 = nI s2 ∧ s ≤ s2 ∧ s2 < 2 ^ 31 := by
  obtain ⟨t, ht, et, ex⟩ := hT
  have hx : ∀ i, i ≤ 401 → ∀ r, r < 5 → m_pN A i 648 (10 + 6 * r) = nI (m_pN A i 648 (10 + 6 * r)).toNatClampNeg ∧ (m_pN A i 648 (10 + 6 * r)).toNatClampNeg ≤ 44 * (T + i) := fun i hi r hr => by
    obtain ⟨x, hx, exr⟩ := ex r hr
    obtain ⟨y, hy, ey⟩ := pN_GL hW hr i
    rw [ey, exr, nI_add, nI_clamp (by omega)]
    exact ⟨rfl, by omega⟩
  have k1 := pN_K hW j
  have k2 := pN_K hW (j + 1)
  have e5 : m_pN A (j + 1) 648 5 = m_pN A j 648 5 := (k2.1 5 rfl).trans (k1.1 5 rfl).symm
  have s1 := sum_n k1.2 (fun r hr => (hx j (by omega) r hr).1)
  have s2 := sum_n k2.2 (fun r hr => (hx (j + 1) (by omega) r hr).1)
  rw [e5] at s2
  have n5 := k1.2.n5
  refine ⟨_, _, s1, s2, sNn_le (fun r hr => ?_), ?_⟩
  · obtain ⟨y, hy, ey⟩ := pass_GL k1.2 (r := r) (by omega)
    have e : m_pN A (j + 1) 648 (10 + 6 * r) = m_pN A j 648 (10 + 6 * r) + nI y := ey
    have b1 := hx j (by omega) r (by omega)
    rw [b1.1, nI_add] at e
    rw [e, nI_clamp (by omega)]
    omega
  · have b := sNn_b (x := fun r => (m_pN A (j + 1) 648 (10 + 6 * r)).toNatClampNeg) (k := (m_pN A j 648 5).toNatClampNeg) (B := 44 * (T + (j + 1))) (fun r hr => (hx (j + 1) (by omega) r (by omega)).2)
    have b2 : (m_pN A j 648 5).toNatClampNeg * (44 * (T + (j + 1))) ≤ 5 * (44 * (T + (j + 1))) := Nat.mul_le_mul_right _ n5
    show sNn (fun r => (m_pN A (j + 1) 648 (10 + 6 * r)).toNatClampNeg) _ < _
    omega
theorem loss_F {C M : fOm} {b T : Nat} (h : SR C b (M 648)) (hW : MW (M 648)) (hT : TK (M 648) T) (hT2 : T < 5000000) (n : Nat) : ∀ j, j + n ≤ 300 → m_sum (m_pN M j) 2 = m_sum M 2 → (f_tlF b (f_taAll C b 1) C n j = none ∧ m_lwF (m_sum M 2) M (n + 1) j = j + n + 1) ∨ (∃ i, f_tlF b (f_taAll C b 1) C n j = some i ∧ m_lwF (m_sum M 2) M (n + 1) j = i ∧ 1 ≤ i ∧ i ≤ j + n) := by
  have e0 : f_taAll C b 1 = m_sum M 2 := h.taAll (t := 1) (by omega)
  induction n with
  | zero =>
    intro j hj hs
    refine Or.inl ⟨rfl, ?_⟩
    rw [lwF_s, if_pos hs]
    rfl
  | succ n ih =>
    intro j hj hs
    have ej : f_taAll (f_passN b C (j + 1)) b 1 = m_sum (m_pN M (j + 1)) 2 := (h.passN (j + 1)).taAll (t := 1) (by omega)
    obtain ⟨s, s2, q1, q2, q3, q4⟩ := sum_j hW hT hT2 j (by omega)
    rw [lwF_s, if_pos hs]
    show ((if f_taAll (f_passN b C (j + 1)) b 1 ≤ f_taAll C b 1 then f_tlF b (f_taAll C b 1) C n (j + 1) else some (j + 1)) = none ∧ _) ∨ (∃ i, (if f_taAll (f_passN b C (j + 1)) b 1 ≤ f_taAll C b 1 then f_tlF b (f_taAll C b 1) C n (j + 1) else some (j + 1)) = some i ∧ _)
    by_cases c : f_taAll (f_passN b C (j + 1)) b 1 ≤ f_taAll C b 1
    · rw [if_pos c]
      have : m_sum (m_pN M (j + 1)) 2 = m_sum M 2 := by
        rw [ej, e0, ← hs, q1, q2] at c
        have := (nI_leI (by omega) (by omega)).mp c
        rw [← hs, q1, q2, show s2 = s by omega]
      rcases ih (j + 1) (by omega) this with ⟨r1, r2⟩ | ⟨i, r1, r2, r3, r4⟩
      · exact Or.inl ⟨r1, by rw [r2]; omega⟩
      · exact Or.inr ⟨i, r1, r2, r3, by omega⟩
    · rw [if_neg c]
      refine Or.inr ⟨j + 1, rfl, ?_, by omega, by omega⟩
      rw [lwF_s, if_neg]
      intro e
      apply c
      rw [ej, e, e0]
      exact Int32.le_refl _
theorem loss_N {C M : fOm} {b T L : Nat} (h : SR C b (m_aside M 648)) (hW : MW (m_aside M 648)) (hT : TK (m_aside M 648) T) (hT2 : T < 5000000) (hL : L ≤ 300) : (f_tlR C b (nI L) = -6 ∧ m_lwN M (nI L) = L + 1) ∨ (∃ i, f_tlR C b (nI L) = nI i ∧ m_lwN M (nI L) = i ∧ 1 ≤ i ∧ i ≤ L) := by
  unfold f_tlR m_lwN
  rw [nI_clamp (by omega)]
  rcases loss_F h hW hT hT2 L 0 (by omega) rfl with ⟨r1, r2⟩ | ⟨i, r1, r2, r3, r4⟩
  · rw [r1, r2]
    exact Or.inl ⟨rfl, by omega⟩
  · rw [r1, r2]
    exact Or.inr ⟨i, rfl, rfl, r3, by omega⟩
theorem first_R {C M : fOm} {T : Nat} (h : RR C M T) (hT2 : T < 5000000) : m_first M = f_tlR (f_scopy C 59 1) 59 300 ∧ RR (f_tlW (f_scopy C 59 1) 59 300) (m_lwW M 300) T := by
  obtain ⟨t1, t2⟩ := trial h.1
  have hT : TK (m_aside M 648) T := by rw [aside_648]; exact h.1.2.2
  refine ⟨?_, h.tr ((trialM h.1).tr (tlW_M t1.cB)) (mpN_M _)⟩
  unfold m_first
  rcases loss_N t1 t2 hT hT2 (L := 300) (Nat.le_refl _) with ⟨r1, r2⟩ | ⟨i, r1, r2, r3, r4⟩
  · rw [show (300 : Int32) = nI 300 from rfl, r1, r2, if_neg (nI_ge (by omega) (by omega))]
  · rw [show (300 : Int32) = nI 300 from rfl, r1, r2, if_pos (nI_le r4 (by omega))]
theorem flA_n {C : fOm} {b : Nat} {a : Nat → Int32} (h : SR C b a) : ∃ n, n < 1000 ∧ f_flAll C b = nI n := by
  have n5 := h.W.n5
  have key : ∀ j, j ≤ (a 5).toNatClampNeg → ∃ n, n ≤ 32 * j ∧ f_flA C b j = nI n := by
    intro j
    induction j with
    | zero => exact fun _ => ⟨0, Nat.le_refl _, rfl⟩
    | succ j ih =>
      intro hj
      obtain ⟨n, hn, e⟩ := ih (by omega)
      obtain ⟨P, hP4, hP, eP, eP2⟩ := (h.2.2.2.2.1 j (by omega)).P
      obtain ⟨m, hm, e2⟩ := fl_n (C := C) (k := b + 5 + 5 * j) (C (b + 5 + 5 * j) 0).toNatClampNeg
      refine ⟨n + m, by omega, ?_⟩
      show f_flA C b j + f_fl C (b + 5 + 5 * j) _ = _
      rw [e, e2, nI_add]
  obtain ⟨n, hn, e⟩ := key _ (Nat.le_refl _)
  refine ⟨n, by omega, ?_⟩
  unfold f_flAll
  rw [← h.c5.1]
  exact e
theorem bpS_R {C M : fOm} {T r q : Nat} {g s : Int32} (h : RR C M T) (hr : r < (M 648 5).toNatClampNeg) (hq : q < (M 648 (8 + 6 * r)).toNatClampNeg) (hf : ¬ f_fits 0 g s = 0) (h6 : M 648 6 < 12) :
    RR (f_bpS (nI r) g s C (nI q)) (m_back (m_bpS (nI r) g s M (nI q))) T ∧ m_sum (m_bpS (nI r) g s M (nI q)) 0 = f_flAll (f_bpS (nI r) g s C (nI q)) 59 ∧ (∃ n, n < 1000 ∧ f_flAll (f_bpS (nI r) g s C (nI q)) 59 = nI n) ∧ ∀ i, i < 770 → m_back (m_bpS (nI r) g s M (nI q)) 648 i = M 648 i := by
  obtain ⟨t1, t2⟩ := trial h.1
  have hA : m_aside M 648 = M 648 := aside_648
  have hr2 : r < (m_aside M 648 5).toNatClampNeg := by rw [hA]; exact hr
  have hr5 : r < 5 := Nat.lt_of_lt_of_le hr h.1.1.W.n5
  have hL := t1.2.2.2.2.1 r hr2
  obtain ⟨P, hP4, hP, eP, eP2⟩ := hL.P
  have hq2 : q < (f_scopy C 59 1 (59 + 5 + 5 * r) 0).toNatClampNeg := by rw [← hL.1, hA]; exact hq
  have eH : f_has (f_scopy C 59 1) (59 + 5 + 5 * r) (nI q) = 1 := by
    unfold f_has
    rw [if_neg (nI_pos (by omega)), eP, if_neg (nI_ge (by rw [eP2] at hq2; exact hq2) (by omega))]
  have eR : f_ringWith (f_scopy C 59 1) 59 (nI r) (nI q) = some (59 + 5 + 5 * r) := by
    unfold f_ringWith
    rw [t1.ring hr2]
    try dsimp only
    rw [eH, if_neg (by decide)]
  have e6 : m_aside M 648 6 = f_scopy C 59 1 59 6 := t1.c5.2.1
  have hM := make_S (k := 0) (o := g) (t := s) t1 hr2 hq2 hf (by rw [hA]; exact h6)
  have eW : f_addDevW (f_scopy C 59 1) 59 (nI r) (nI q) 0 g s = wu (f_dbegin (f_scopy C 59 1) (59 + 30 + 2 * (f_scopy C 59 1 59 6).toNatClampNeg) (nI r) (nI q) 0 g s) 59 6 (f_dbegin (f_scopy C 59 1) (59 + 30 + 2 * (f_scopy C 59 1 59 6).toNatClampNeg) (nI r) (nI q) 0 g s 59 6 + 1) := by
    unfold f_addDevW
    rw [eR]
    try dsimp only
    rw [if_neg hf, ← e6, hA, if_pos h6]
  have hS := hM.1
  rw [← eW] at hS
  have hSN := hS.passN 100
  have eB : f_bpS (nI r) g s C (nI q) = f_passN 59 (f_addDevW (f_scopy C 59 1) 59 (nI r) (nI q) 0 g s) 100 := by
    unfold f_bpS f_passTW
    rw [if_neg (by decide)]
    rfl
  have mB : Mod aS (m_aside M) (m_bpS (nI r) g s M (nI q)) := make_M.tr (mpN_M _)
  have hfl : f_flAll (f_bpS (nI r) g s C (nI q)) 59 = m_sum (m_bpS (nI r) g s M (nI q)) 0 := by
    rw [eB]
    exact hSN.flAll
  refine ⟨h.tr (bpS_M h.1.1.cB) mB, hfl.symm, ?_, (back_X mB).1⟩
  rw [eB]
  exact flA_n hSN
theorem bp_R {C M : fOm} {T r : Nat} {g s : Int32} (h : RR C M T) (hr : r < (M 648 5).toNatClampNeg) (hf : ¬ f_fits 0 g s = 0) (h6 : M 648 6 < 12) (j : Nat) (hj : j ≤ (M 648 (8 + 6 * r)).toNatClampNeg) :
    RR (f_bp (nI r) g s C j).2.2 (m_bp (nI r) g s M j).2.2 T ∧ (∀ i, i < 770 → (m_bp (nI r) g s M j).2.2 648 i = M 648 i) ∧ ((j = 0 ∧ (f_bp (nI r) g s C j).2.1 = -1 ∧ (m_bp (nI r) g s M j).1 = -6) ∨ (1 ≤ j ∧ ∃ c n : Nat, c < j ∧ n < 1000 ∧ (f_bp (nI r) g s C j).1 = nI c ∧ (m_bp (nI r) g s M j).1 = nI c ∧ (f_bp (nI r) g s C j).2.1 = nI n ∧ (m_bp (nI r) g s M j).2.1 = nI n)) := by
  have hr5 : r < 5 := Nat.lt_of_lt_of_le hr h.1.1.W.n5
  obtain ⟨P, hP4, hP, eP, eP2⟩ := (h.1.1.2.2.2.2.1 r hr).P
  have hP2 : (M 648 (8 + 6 * r)).toNatClampNeg ≤ 32 := by rw [(h.1.1.2.2.2.2.1 r hr).1, eP2]; exact hP
  induction j with
  | zero => exact ⟨h, fun _ _ => rfl, Or.inl ⟨rfl, rfl, rfl⟩⟩
  | succ j ih =>
    obtain ⟨i1, i2, i3⟩ := ih (by omega)
    obtain ⟨b1, b2, ⟨n, hn, b3⟩, b4⟩ := bpS_R (q := j) i1 (by rw [i2 5 (by omega)]; exact hr) (by rw [i2 (8 + 6 * r) (by omega)]; omega) hf (by rw [i2 6 (by omega)]; exact h6)
    refine ⟨b1, fun i hi => (b4 i hi).trans (i2 i hi), Or.inr ⟨by omega, ?_⟩⟩
    rw [b3] at b2
    show ∃ c n : Nat, c < j + 1 ∧ n < 1000 ∧ (if f_flAll (f_bpS (nI r) g s (f_bp (nI r) g s C j).2.2 (nI j)) 59 ≤ (f_bp (nI r) g s C j).2.1 then (f_bp (nI r) g s C j).1 else nI j) = nI c ∧ (if (m_bp (nI r) g s M j).1 < 0 then nI j else if m_sum (m_bpS (nI r) g s (m_bp (nI r) g s M j).2.2 (nI j)) 0 ≤ (m_bp (nI r) g s M j).2.1 then (m_bp (nI r) g s M j).1 else nI j) = nI c ∧ (if f_flAll (f_bpS (nI r) g s (f_bp (nI r) g s C j).2.2 (nI j)) 59 ≤ (f_bp (nI r) g s C j).2.1 then (f_bp (nI r) g s C j).2.1 else f_flAll (f_bpS (nI r) g s (f_bp (nI r) g s C j).2.2 (nI j)) 59) = nI n ∧ (if (m_bp (nI r) g s M j).1 < 0 then m_sum (m_bpS (nI r) g s (m_bp (nI r) g s M j).2.2 (nI j)) 0 else if m_sum (m_bpS (nI r) g s (m_bp (nI r) g s M j).2.2 (nI j)) 0 ≤ (m_bp (nI r) g s M j).2.1 then (m_bp (nI r) g s M j).2.1 else m_sum (m_bpS (nI r) g s (m_bp (nI r) g s M j).2.2 (nI j)) 0) = nI n
    rw [b2, b3]
    rcases i3 with ⟨-, e1, e2⟩ | ⟨hj1, c, m, hc, hm, e1, e2, e3, e4⟩
    · have e0 : ¬ nI n ≤ (-1 : Int32) := fun c => nI_pos (by omega) (Int32.lt_of_le_of_lt c (by decide))
      rw [e1, e2, if_neg e0, if_neg e0, if_pos (by decide), if_pos (by decide)]
      exact ⟨j, n, by omega, hn, rfl, rfl, rfl, rfl⟩
    · rw [e3, e4, e1, e2, if_neg (nI_pos (by omega)), if_neg (nI_pos (by omega))]
      by_cases c2 : nI n ≤ nI m
      · rw [if_pos c2, if_pos c2]
        exact ⟨c, m, by omega, hm, rfl, rfl, rfl, rfl⟩
      · rw [if_neg c2, if_neg c2]
        exact ⟨j, n, by omega, hn, rfl, rfl, rfl, rfl⟩
theorem best_R {C M : fOm} {T : Nat} {l g s wh : Int32} (h : RR C M T) : (m_best M l g s wh).1 = (f_best C l g s wh).1 ∧ RR (f_best C l g s wh).2 (m_best M l g s wh).2 T := by
  unfold m_best f_best
  rcases h.1.1.loopOf l with ⟨q1, q2⟩ | ⟨r, rfl, q2, q3, q4⟩
  · rw [if_pos q1, q2]
    exact ⟨rfl, h⟩
  · rw [if_neg q3, q4]
    try dsimp only
    have hr5 : r < 5 := Nat.lt_of_lt_of_le q2 h.1.1.W.n5
    have hL := h.1.1.2.2.2.2.1 r q2
    obtain ⟨P, hP4, hP, eP, eP2⟩ := hL.P
    by_cases cg : f_btw g 1 500 = 0
    · rw [if_pos cg, if_pos (show f_fits 0 g s = 0 by unfold f_fits; rw [if_pos rfl, if_pos cg])]
      exact ⟨rfl, h⟩
    · rw [if_neg cg]
      by_cases cs : f_btw s 1 2000 = 0
      · rw [if_pos cs, if_pos (show f_fits 0 g s = 0 by unfold f_fits; rw [if_pos rfl, if_neg cg, if_pos cs])]
        exact ⟨rfl, h⟩
      · have hf : ¬ f_fits 0 g s = 0 := by unfold f_fits; rw [if_pos rfl, if_neg cg, if_neg cs]; decide
        rw [if_neg cs, if_neg hf]
        by_cases cw : f_btw wh 0 1 = 0
        · rw [if_pos cw, if_pos cw]
          exact ⟨rfl, h⟩
        · rw [if_neg cw, if_neg cw, ← h.1.1.c5.2.1]
          by_cases c6 : M 648 6 < 12
          · rw [if_pos c6, if_neg (fun e => by rw [e] at c6; exact absurd c6 (by decide)), iL0 hr5, ← hL.1]
            obtain ⟨b1, -, b3⟩ := bp_R h q2 hf c6 (M 648 (8 + 6 * r)).toNatClampNeg (Nat.le_refl _)
            refine ⟨?_, b1⟩
            rcases b3 with ⟨z, -⟩ | ⟨-, c, n, -, -, e1, e2, e3, e4⟩
            · rw [hL.1, eP2] at z
              omega
            · by_cases c0 : wh = 0
              · show (if wh = 0 then _ else _) = (if wh = 0 then _ else _)
                rw [if_pos c0, if_pos c0, e1, e2]
              · show (if wh = 0 then _ else _) = (if wh = 0 then _ else _)
                rw [if_neg c0, if_neg c0, e3, e4]
          · rw [if_neg c6, if_pos (show M 648 6 = 12 from (full5 (N := 12) h.1.1.W.2.1).mpr c6)]
            exact ⟨rfl, h⟩
theorem wu_wu {ω : fOm} {k j : Nat} {u v : Int32} : wu (wu ω k j u) k j v = wu ω k j v := by
  funext q i
  by_cases e : q = k
  · subst e
    rw [wu_i, wu_i, wu_i]
    by_cases c : i = j
    · rw [if_pos c, if_pos c]
    · rw [if_neg c, if_neg c, if_neg c]
  · rw [wu_ne e, wu_ne e, wu_ne e]
theorem wu_self {ω : fOm} {k j : Nat} : wu ω k j (ω k j) = ω := by
  funext q i
  by_cases e : q = k
  · subst e
    rw [wu_i]
    by_cases c : i = j
    · rw [if_pos c, c]
    · rw [if_neg c]
  · rw [wu_ne e]
theorem be_S {C M : fOm} {b : Nat} {v : Int32} (h : SR C b (M 648)) (hv : ¬ f_btw v (sV 0 0) (sV 1 0) = 0) (h0 : 0 ≤ v ∧ v ≤ 200) : SR (f_chSetW C b 0 v) b (wu M 648 0 v 648) := by
  have eW : f_chSetW C b 0 v = wu C (b + 1) 0 v := by
    unfold f_chSetW
    rw [if_neg (by decide), show (0 : Int32).toNatClampNeg = 0 from rfl, if_neg hv]
  rw [eW, wu_648]
  refine h.hdr (fun q h1 h2 => wu_ne (by omega)) (fun i hi => pk_un (by omega)) (fun i hi => ?_) (fun i hi hi2 => ?_) ?_
  · rw [wu_i]
    by_cases e : i = 0
    · rw [if_pos e, e, pk_us]
    · rw [if_neg e, pk_un e]
      exact h.1 i hi
  · rw [pk_un (by omega), wu_ne (by omega)]
    exact h.2.1 i hi hi2
  · have hS := h.2.2.1
    unfold SB at hS ⊢
    rw [pk_us, pk_un (by decide), pk_un (by decide), pk_un (by decide)]
    exact ⟨h0, hS.2⟩
theorem bear1 {C M : fOm} {T : Nat} {v : Int32} (h : RR C M T) (hT2 : T < 5000000) (hv : ¬ f_btw v (sV 0 0) (sV 1 0) = 0) (h0 : 0 ≤ v ∧ v ≤ 200) :
    RR (f_tlW (f_chSetW (f_scopy C 59 1) 59 0 v) 59 100) (wu (m_lwW (wu M 648 0 v) 100) 648 0 (M 648 0)) T ∧ ((f_tlR (f_chSetW (f_scopy C 59 1) 59 0 v) 59 100 = -6 ∧ ¬ nI (m_lwN (wu M 648 0 v) 100) ≤ 100) ∨ (¬ f_tlR (f_chSetW (f_scopy C 59 1) 59 0 v) 59 100 = -6 ∧ nI (m_lwN (wu M 648 0 v) 100) ≤ 100)) := by
  obtain ⟨t1, t2⟩ := trial h.1
  have t3 : SR (f_scopy C 59 1) 59 (M 648) := by rw [aside_648] at t1; exact t1
  have hS := be_S t3 hv h0
  have hA : m_aside (wu M 648 0 v) 648 = wu M 648 0 v 648 := aside_648
  have hW : MW (wu M 648 0 v 648) := (show KPw M (wu M 648 0 v) from KPw.wu KP.rf (by decide)).mw h.1.2.1
  have hTK : TK (wu M 648 0 v 648) T := by
    rw [wu_648]
    exact h.1.2.2.mo (pk_un (by omega)) (Nat.le_refl _) (fun r hr => pk_un (by omega))
  have mB : Mod aS (m_aside (wu M 648 0 v)) (m_pN (m_aside (wu M 648 0 v)) (m_lwN (wu M 648 0 v) 100)) := mpN_M _
  obtain ⟨b1, b2⟩ := back_X mB
  have mC : Mod (sS 59) C (f_tlW (f_chSetW (f_scopy C 59 1) 59 0 v) 59 100) := (trialM h.1).tr ((chSetW_M.mo (fun q hq => by have hq : q = 59 + 1 := hq; subst hq; show 59 ≤ 59 + 1 ∧ 59 + 1 < 59 + 58; omega)).tr (tlW_M hS.cB))
  constructor
  · refine h.side (fun q q1 _ _ => mC q (by show ¬ (59 ≤ q ∧ q < 59 + 58); omega)) (fun i hi => ?_) (fun q q1 q2 q3 _ _ _ => ?_) (fun i _ => ?_)
    · rw [wu_i]
      by_cases e : i = 0
      · rw [if_pos e, e]
      · rw [if_neg e]
        refine (b1 i hi).trans ?_
        rw [wu_i, if_neg e]
    · rw [wu_ne q2]
      exact (b2 q q2 q3).trans (wu_ne q2)
    · rw [wu_ne (by decide)]
      exact congrFun ((b2 647 (by decide) (by decide)).trans (wu_ne (by decide))) i
  · have e100 : (100 : Int32) = nI 100 := rfl
    rcases loss_N (M := wu M 648 0 v) (L := 100) (by rw [hA]; exact hS) (by rw [hA]; exact hW) (by rw [hA]; exact hTK) hT2 (by omega) with ⟨r1, r2⟩ | ⟨i, r1, r2, r3, r4⟩
    · rw [e100, r1, r2]
      exact Or.inl ⟨rfl, nI_ge (by omega) (by omega)⟩
    · rw [e100, r1, r2]
      refine Or.inr ⟨fun e => nI_pos (n := i) (by omega) ?_, nI_le r4 (by omega)⟩
      rw [e]
      decide
theorem sb_k : ∀ j : Nat, j < 51 → ¬ f_btw (50 - nI j) (sV 0 0) (sV 1 0) = 0 ∧ ((0 : Int32) ≤ 50 - nI j ∧ (50 : Int32) - nI j ≤ 200) := by decide +kernel
theorem be_I {C M : fOm} {T : Nat} (h : RR C M T) (hT2 : T < 5000000) (j : Nat) (hj : j ≤ 51) : RR (f_beI C j) (wu (m_beI M j) 648 0 (M 648 0)) T := by
  induction j with
  | zero =>
    show RR C (wu M 648 0 (M 648 0)) T
    rw [wu_self]
    exact h
  | succ j ih =>
    obtain ⟨k1, k2⟩ := sb_k j (by omega)
    have := (bear1 (ih (by omega)) hT2 k1 k2).1
    rw [wu_wu, wu_i, if_pos rfl] at this
    exact this
theorem be_V {C M : fOm} {T : Nat} (h : RR C M T) (hT2 : T < 5000000) (j : Nat) (hj : j < 51) : (f_tlR (f_chSetW (f_scopy (f_beI C j) 59 1) 59 0 (50 - nI j)) 59 100 = -6 ∧ m_beV M (j + 1) = 50 - nI j) ∨ (¬ f_tlR (f_chSetW (f_scopy (f_beI C j) 59 1) 59 0 (50 - nI j)) 59 100 = -6 ∧ m_beV M (j + 1) = -6) := by
  obtain ⟨k1, k2⟩ := sb_k j (by omega)
  have := (bear1 (be_I h hT2 j (by omega)) hT2 k1 k2).2
  rw [wu_wu] at this
  show (_ ∧ (if nI (m_lwN (wu (m_beI M j) 648 0 (50 - nI j)) 100) ≤ 100 then (-6) else 50 - nI j) = _) ∨ (_ ∧ (if nI (m_lwN (wu (m_beI M j) 648 0 (50 - nI j)) 100) ≤ 100 then (-6) else 50 - nI j) = _)
  rcases this with ⟨r1, r2⟩ | ⟨r1, r2⟩
  · rw [if_neg r2]
    exact Or.inl ⟨r1, rfl⟩
  · rw [if_pos r2]
    exact Or.inr ⟨r1, rfl⟩
theorem be_F {C M : fOm} {T : Nat} (h : RR C M T) (hT2 : T < 5000000) (n : Nat) : ∀ j, n + j = 51 → m_beV M j = -6 → f_beF n j (f_beI C j) = (m_beV M (m_beF M n j), f_beI C (m_beF M n j)) ∧ m_beF M n j ≤ 51 := by
  induction n with
  | zero =>
    intro j hj hv
    refine ⟨?_, show j ≤ 51 by omega⟩
    show ((-6 : Int32), f_beI C j) = (m_beV M j, f_beI C j)
    rw [hv]
  | succ n ih =>
    intro j hj hv
    have e1 : m_beF M (n + 1) j = m_beF M n (j + 1) := by
      rw [mbeF_s, hv, if_neg (by decide)]
    rw [e1, beF_s]
    rcases be_V h hT2 j (by omega) with ⟨r1, r2⟩ | ⟨r1, r2⟩
    · have e2 : m_beF M n (j + 1) = j + 1 := by
        cases n with
        | zero => rfl
        | succ n => rw [mbeF_s, r2, if_pos (sb_k j (by omega)).2.1]
      rw [if_pos r1, e2, r2]
      exact ⟨rfl, by omega⟩
    · rw [if_neg r1]
      exact ih (j + 1) (by omega) r2
theorem bear_R {C M : fOm} {T : Nat} (h : RR C M T) (hT2 : T < 5000000) : (m_bear M).1 = (f_be C).1 ∧ RR (f_be C).2 (m_bear M).2 T := by
  obtain ⟨e, hN⟩ := be_F h hT2 51 0 rfl rfl
  have eN : m_beN M = m_beF M 51 0 := by unfold m_beN; rfl
  have eC : f_be C = f_beF 51 0 (f_beI C 0) := by unfold f_be; exact congrArg (f_beF 51 0) (show C = f_beI C 0 from rfl)
  rw [← eN] at e hN
  unfold m_bear
  rw [eC, e]
  clear e eC eN
  generalize m_beN M = N at hN ⊢
  have hI := be_I h hT2 N hN
  exact ⟨rfl, hI⟩
