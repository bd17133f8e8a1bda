/-! ===== carrying out ===== -/
theorem ts_q {w : fOm} {c : Int32} {q : Nat} (h : q ≠ 647) : m_ts w c q = w q := (ts_F (S := fun _ => False)).1 q h (fun z => z)
theorem tsw_12 {w : fOm} {c : Int32} : m_ts w c 647 12 = w 647 12 := by simp [m_ts, wu_i]
abbrev GG (g : Nat → Nat) (m : Nat) (M : fOm) (i : Nat) : Prop := GO g m M i ∧ qY M i 647 10 = 0
theorem go_S {g : Nat → Nat} {m i : Nat} {W M : fOm} (h : GG g m M i) (t : TC W g m) (e : W 529 1 = qX M i 647 9) : ∃ b, OG g m i b (f_ro W) (qY M i) ∧ OF i b (qX M i) (qY M i) ∧ qX M i 647 12 = nI b ∧ b ≤ 80 ∧ ∃ p, p ≤ m ∧ qX M i 647 9 = nI p ∧ g p ≠ 59 := by
  obtain ⟨⟨p, b, g1, g2, g3, g4, g5, g6, g7, g8, g9⟩, h2⟩ := h
  have hm := t.1
  have hS := ro_S t g1 g2 g3 g7 (by omega) (e.trans g4) g4 g5 g6
  rw [← g9] at hS
  rcases hS with ⟨a, b2, c⟩ | hB
  · exact ⟨b, a, b2, g6, by omega, p, g2, g4, c⟩
  · rw [hB.2.2.choose_spec.2.2.2.1] at h2
    exact absurd h2 nz1
def ficW (X : fOm) : fOm := fun q => if q = 527 then (fun _ => X 647 8) else if q = 528 then X 653 else if q = 529 then (fun _ => X 647 9) else X 0
theorem go_Y {g : Nat → Nat} {m i : Nat} {M : fOm} (h : GG g m M i) : ∃ b r, OG g m i b r (qY M i) ∧ OF i b (qX M i) (qY M i) ∧ qX M i 647 12 = nI b ∧ b ≤ 80 := by
  have t : TC (ficW (qX M i)) g m := h.1.choose_spec.choose_spec.1
  obtain ⟨b, h1, h2, h3, h4, -⟩ := go_S h t rfl
  exact ⟨b, _, h1, h2, h3, h4⟩
def FRm (M : fOm) (i J : Nat) : Prop := qY M J 654 i = qY M i 654 i ∧ qY M J 655 i = qY M i 655 i ∧ qY M J 655 (i + 1) = qY M i 655 (i + 1) ∧ ∃ e eJ : Nat, qY M i 647 12 = nI e ∧ qY M J 647 12 = nI eJ ∧ e ≤ eJ ∧ eJ ≤ 80 ∧ qY M J 655 (J + 1) = nI eJ ∧ ∀ x, x < e → qY M J 656 x = qY M i 656 x
theorem fr_S {g : Nat → Nat} {m i : Nat} {M : fOm} (d : Nat) : (∀ k, k ≤ i + d → GG g m M k) → FRm M i (i + d) := by
  induction d with
  | zero =>
    intro h
    obtain ⟨b, r, h1, -, -, h4⟩ := go_Y (h i (by omega))
    obtain ⟨-, s1, -, p, c, h1, h2, -, -, -, -, -, h7, -, -, -, -, h8, -⟩ := h1
    have hm := s1.1
    exact ⟨rfl, rfl, rfl, b + c, b + c, h7, h7, Nat.le_refl _, by omega, h8, fun _ _ => rfl⟩
  | succ d ih =>
    intro h
    obtain ⟨f1, f2, f3, e, eJ, f4, f5, f6, f7, f8, f9⟩ := ih (fun k hk => h k (by omega))
    obtain ⟨b, r, h1, h2, h3, h4⟩ := go_Y (h (i + d + 1) (by omega))
    have xq : ∀ q, q ≠ 647 → qX M (i + d + 1) q = qY M (i + d) q := fun q hq => ts_q hq
    have x12 : qX M (i + d + 1) 647 12 = nI eJ := by
      show m_ts (qY M (i + d)) 59 647 12 = _
      rw [tsw_12, f5]
    have eb : b = eJ := nI_eqN (by omega) (by omega) (h3.symm.trans x12)
    subst eb
    obtain ⟨-, s1, -, p, c, k1, k2, -, -, -, -, -, k7, -, -, -, k9, k8, -⟩ := h1
    have hm := s1.1
    show FRm M i (i + d + 1)
    refine ⟨?_, ?_, ?_, e, b + c, f4, k7, by omega, by omega, k8, fun x hx => ?_⟩
    · rw [h2.1 i (by omega), xq 654 (by decide)]
      exact f1
    · rw [h2.2.1 i (by omega) (by omega), xq 655 (by decide)]
      exact f2
    · by_cases z : d = 0
      · subst z
        rw [show i + 1 = i + 0 + 1 from rfl, k9]
        exact f8.symm.trans f3
      · rw [h2.2.1 (i + 1) (by omega) (by omega), xq 655 (by decide)]
        exact f3
    · rw [h2.2.2 x (by omega), xq 656 (by decide)]
      exact f9 x hx
/-- where the class stands as it reads on -/
def rp (M : fOm) : Nat → Int32
  | 0 => 0
  | j + 1 => qY M j 647 9
theorem p2_rx {W : fOm} : P2 W (f_rx W).2 := rs_ro p2_RS p2_r0 (rs_take p2_RS (fun _ _ _ => rfl))
theorem tk59 {g : Nat → Nat} {m p : Nat} {W : fOm} (t : TC W g m) (hp : p ≤ m) (e : W 529 1 = nI p) : f_take W 59 = if g p = 59 then (1, wu W 529 1 (nI (p + 1))) else (0, W) := by
  unfold f_take
  rw [t.sg hp e, e, nI_1]
  by_cases q : g p = 59
  · rw [if_pos q, if_pos (show nI (g p) = (59 : Int32) by rw [q]; rfl)]
  · rw [if_neg q, if_neg (show ¬ nI (g p) = (59 : Int32) from fun z => q (nI_eqN (b := 59) (by have := t.g p; omega) (by decide) z))]
theorem rx_S {g : Nat → Nat} {m j : Nat} {W M : fOm} (h : ∀ k, k ≤ j → GG g m M k) (t : TC W g m) (e : W 529 1 = rp M j) : ∃ b, b ≤ 80 ∧ OG g m j b (f_rx W) (qY M j) := by
  cases j with
  | zero =>
    have e0 : W 529 1 = qX M 0 647 9 := e.trans (by simp [qX, m_ft0, wu_i, rp])
    obtain ⟨b, h1, -, -, h4, p, hp, e9, h59⟩ := go_S (h 0 (by omega)) t e0
    have et : (f_take W 59).2 = W := by
      rw [tk59 t hp (e0.trans e9), if_neg h59]
    refine ⟨b, h4, ?_⟩
    unfold f_rx
    rw [et]
    exact h1
  | succ j =>
    obtain ⟨b0, r, ⟨-, s1, s2, p, c, k1, k2, -, k3, k4, k5, -⟩, -⟩ := go_Y (h j (by omega))
    have e0 : W 529 1 = nI p := e.trans k4
    have hx := ts_E (c := 59) k4
    have hnx := s2.nx k1 k4
    have g5 : m_ts (qY M j) 59 647 10 = 0 := (h (j + 1) (by omega)).1.choose_spec.choose_spec.2.2.2.2.1
    have q : g p = 59 := Classical.byContradiction fun q => by
      have eM := hx.2.1 k5 (by rw [hnx]; exact fun z => q (nI_eqN (b := 59) (by have := s1.g p; omega) (by decide) z))
      rw [eM.2.2.2] at g5
      exact nz1 g5
    have eM := hx.1 k5 (by rw [hnx, q]; rfl)
    have et : (f_take W 59).2 = wu W 529 1 (nI (p + 1)) := by
      rw [tk59 t k1 e0, if_pos q]
    have eC : EC W (wu W 529 1 (nI (p + 1))) (p + 1) := EC.w
    obtain ⟨b, h1, -, -, h4, -⟩ := go_S (h (j + 1) (by omega)) (eC.T t) (eC.2.2.trans eM.2.2.1.symm)
    refine ⟨b, h4, ?_⟩
    unfold f_rx
    rw [et]
    exact h1
theorem rx_end {g : Nat → Nat} {m : Nat} {W : fOm} (t : TC W g m) (e : W 529 1 = nI m) : (f_rx W).1 = 0 := by
  have z : g m = 0 := t.2.2.2 m (Nat.le_refl m)
  have et : (f_take W 59).2 = W := by
    rw [tk59 t (Nat.le_refl m) e, if_neg (by omega)]
  unfold f_rx
  rw [et]
  rcases ro_cases t (Nat.le_refl m) e with ⟨q, -⟩ | ⟨-, q⟩
  · rw [z] at q
    omega
  · rw [q]
/-! feeding takes no tick -/
theorem feed_K {C M : fOm} {b : Nat} {d v : Int32} {T : Nat} (h : SR C b (M 648)) (hT : TK (M 648) T) : TK ((m_tF M d v 0).2 648) T := by
  unfold m_tF
  rcases h.devOf d with ⟨q1, q2⟩ | ⟨n, rfl, hd, hd12, h1, h2⟩
  · rw [if_pos q1]
    exact hT
  · rw [if_neg h1]
    obtain ⟨x0, x1, x2, x3, x4, x5, x6, x7⟩ := iDs hd12
    have hD := h.2.2.2.2.2.2.1 n hd
    obtain ⟨⟨d0, d1, d2, d3, d4, d6⟩, -, -⟩ := id hD
    rw [x0, x5, d0]
    by_cases k2 : C (b + 30 + 2 * n) 0 = 2
    · rw [if_pos k2]
      have hk := hD.k2 k2
      rw [hk.1]
      by_cases cv : f_isV v = 0
      · rw [if_pos cv]
        exact hT
      · rw [if_neg cv]
        by_cases c12 : C (b + 30 + 2 * n) 8 < 12
        · rw [if_neg (fun e => by rw [e] at c12; exact absurd c12 (by decide))]
          obtain ⟨q, hq, eq, et, e1, et1⟩ := inc5 (N := 12) hk.2.1 (by decide) c12
          have ei : iD (nI n) (7 + nI q) = 45 + 19 * n + q := by
            rw [show (7 : Int32) = nI 7 from rfl, nI_add, iD_n hd12 (by omega)]
            omega
          have em : m_feW (m_kIf M 0) (nI n) v 648 = upd (upd (M 648) (45 + 19 * n + q) v) (43 + 19 * n) (nI (q + 1)) := by
            unfold m_feW
            try dsimp only
            rw [x5, kIf_648, hk.1, eq, ei, wu_648, wu_648, kIf_648, pk_un (by omega), hk.1, eq, nI_1]
          show TK (m_feW (m_kIf M 0) (nI n) v 648) T
          rw [em]
          exact hT.mo (by rw [pk_un (by omega), pk_un (by omega)]) (by omega) (fun r hr => by rw [pk_un (by omega), pk_un (by omega)])
        · rw [if_pos (show C (b + 30 + 2 * n) 8 = 12 from (full5 (N := 12) hk.2.1).mpr c12)]
          exact hT
    · rw [if_neg k2]
      exact hT
theorem kIf0 {M : fOm} : m_kIf M 0 = M := if_pos rfl
theorem num_e {W : fOm} {c i : Nat} (h4 : W 529 4 = nI c) (hc : c ≤ 80) (hi : i < c) : f_number W (nI i) = W 530 i := by
  unfold f_number
  rw [if_neg (nI_pos (by omega)), h4, if_neg (nI_ge hi (by omega)), nI_clamp (by omega)]
theorem fa_S {W X : fOm} {k b c T : Nat} (hs : SX W 1 (X 648) T) (bc : b + c ≤ 80) (hc : 1 ≤ c) (h4 : W 529 4 = nI c) (h5 : X 655 k = nI b) (hn : ∀ i, i < c → W 530 i = X 656 (b + i)) (n : Nat) : ∀ j, n + j = c - 1 → SX (f_faI (f_number W 0) W j) 1 (m_faW k X j 648) T → ¬ m_faV k X j < 0 →
    ((f_faF (f_number W 0) n j (f_faI (f_number W 0) W j)).1 = 0 ↔ m_faV k X (m_faF k X n j) < 0) ∧ SX (f_faF (f_number W 0) n j (f_faI (f_number W 0) W j)).2 1 (m_faW k X (m_faF k X n j) 648) T := by
  have n0 : f_number W 0 = X 656 b := (num_e (i := 0) h4 (by omega) (by omega)).trans (hn 0 (by omega))
  induction n with
  | zero =>
    intro j _ hj hv
    exact ⟨⟨fun q => absurd q nz1, fun q => absurd q hv⟩, hj⟩
  | succ n ih =>
    intro j hj hS hv
    have hW := hs.1.cB
    have e529 : f_faI (f_number W 0) W j 529 = W 529 := faI_529 hW j
    have e530 : f_faI (f_number W 0) W j 530 = W 530 := faI_M hW j 530 (by show ¬ (_ ∧ 530 < 59); omega)
    have x655 : m_faW k X j 655 = X 655 := faW_M j 655 ne648
    have x656 : m_faW k X j 656 = X 656 := faW_M j 656 ne648
    have ev : f_number (f_faI (f_number W 0) W j) (nI (j + 1)) = X 656 (b + (j + 1)) := by
      rw [num_e (c := c) (by rw [e529]; exact h4) (by omega) (by omega), e530]
      exact hn (j + 1) (by omega)
    have ix : X 655 k + 1 + nI j = nI (b + (j + 1)) := by
      rw [h5, nI_1, nI_add, show b + 1 + j = b + (j + 1) by omega]
    have eF : m_tF (m_faW k X j) (m_faW k X j 656 (m_faW k X j 655 k).toNatClampNeg) (m_faW k X j 656 (X 655 k + 1 + nI j).toNatClampNeg) 0 = m_tF (m_faW k X j) (f_number W 0) (f_number (f_faI (f_number W 0) W j) (nI (j + 1))) 0 := by
      rw [x655, x656, ix, h5, nI_clamp (by omega), nI_clamp (by omega), ev, n0]
    have eV : m_faV k X (j + 1) = (m_tF (m_faW k X j) (f_number W 0) (f_number (f_faI (f_number W 0) W j) (nI (j + 1))) 0).1 := congrArg Prod.fst eF
    have eW : m_faW k X (j + 1) = (m_tF (m_faW k X j) (f_number W 0) (f_number (f_faI (f_number W 0) W j) (nI (j + 1))) 0).2 := congrArg Prod.snd eF
    have hD := feed_D (d := f_number W 0) (v := f_number (f_faI (f_number W 0) W j) (nI (j + 1))) (f := 0) hS.1 hS.2.1 hS.2.2
    have hK := feed_K (d := f_number W 0) (v := f_number (f_faI (f_number W 0) W j) (nI (j + 1))) hS.1 hS.2.2
    have eI : f_faI (f_number W 0) W (j + 1) = f_feedW (f_faI (f_number W 0) W j) 1 (f_number W 0) (f_number (f_faI (f_number W 0) W j) (nI (j + 1))) := rfl
    have ihj := ih (j + 1) (by omega)
    rw [faF_s, mfaF_s, if_neg hv]
    rw [eI] at ihj
    rcases hD with ⟨r0, em, ew⟩ | ⟨r0, em, hX, hS1, hW1, hT1⟩
    · have v1 : m_faV k X (j + 1) < 0 := by
        rw [eV, em]
        exact r0
      have w1 : m_faW k X (j + 1) = m_faW k X j := by rw [eW, em]
      have en : m_faF k X n (j + 1) = j + 1 := by
        cases n with
        | zero => rfl
        | succ n => rw [mfaF_s, if_pos v1]
      rw [if_neg (Int32.not_le.mpr r0), en, ew]
      exact ⟨⟨fun _ => v1, fun _ => rfl⟩, by rw [w1]; exact hS⟩
    · rw [if_pos r0]
      refine ihj ⟨?_, ?_, ?_⟩ ?_
      · rw [eW]
        exact hS1
      · rw [eW]
        exact hW1
      · rw [eW]
        exact hK
      · rw [eV, em]
        exact Int32.not_lt.mpr r0
theorem bz_D {W W2 X : fOm} {R : Int32} {m : Int32 × fOm} {T : Nat} (hs : SX W 1 (X 648) T) (h : SX W 1 (X 648) T → Done W W2 1 R X m X T) : (bz R = 0 ↔ m.1 < 0) ∧ SX W2 1 (m.2 648) (T + 200) := by
  unfold bz
  rcases h hs with ⟨r0, em, ew⟩ | ⟨r0, em, hX, hS1, hW1, hT1⟩
  · rw [if_pos r0, em, ew]
    exact ⟨⟨fun _ => r0, fun _ => rfl⟩, hs.le (by omega)⟩
  · rw [if_neg (Int32.not_lt.mpr r0), em]
    exact ⟨⟨fun q => absurd q nz1, fun q => absurd q (Int32.not_lt.mpr r0)⟩, hS1, hW1, hT1⟩
theorem co_M {W : fOm} (h : cB W 1) : Mod (sS 1) W (f_co W).2 := by
  unfold f_co
  split
  · have key : ∀ d n j (w : fOm), cB w 1 → Mod (sS 1) w (f_faF d n j w).2 := by
      intro d n
      induction n with
      | zero => exact fun _ _ _ => Mod.rf
      | succ n ih =>
        intro j w hw
        have f1 : Mod (sS 1) w (f_feedW w 1 d (f_number w (nI (j + 1)))) := (feedW_M hw).mo bS_sS
        have f2 : f_feedW w 1 d (f_number w (nI (j + 1))) 1 = w 1 := feedW_M hw 1 (by show ¬ (6 ≤ 1 ∧ _); omega)
        rw [faF_s]
        by_cases c : 0 ≤ f_feedR w 1 d (f_number w (nI (j + 1)))
        · rw [if_pos c]
          refine f1.tr (ih _ _ ?_)
          unfold cB
          rw [f2]
          exact hw
        · rw [if_neg c]
          exact f1
    exact key _ _ _ _ h
  · split
    · exact turnJW_M h
    · split
      · exact lightW_M h
      · exact passTW_M h
theorem co_S {W X : fOm} {k b c T : Nat} (hs : SX W 1 (X 648) T) (hT : T < 1000000000) (bc : b + c ≤ 80) (hc : 1 ≤ c) (hl : W 529 2 = X 654 k) (hL : isL (X 654 k)) (h4 : W 529 4 = nI c) (h5 : X 655 k = nI b) (h6 : X 655 (k + 1) = nI (b + c)) (hn : ∀ i, i < c → W 530 i = X 656 (b + i)) (hj : X 654 k = 106 → c = 2) (h3 : X 654 k = 108 → c = 3) :
    ((f_co W).1 = 0 ↔ (m_car X k).1 < 0) ∧ SX (f_co W).2 1 ((m_car X k).2 648) (T + 200) := by
  have nu : ∀ i, i < c → f_number W (nI i) = X 656 (b + i) := fun i hi => (num_e h4 (by omega) hi).trans (hn i hi)
  have n0 : f_number W 0 = X 656 b := nu 0 (by omega)
  have m0 : m_nu X (X 655 k) = X 656 b := by unfold m_nu; rw [h5, nI_clamp (by omega)]
  have m1 : m_nu X (X 655 k + 1) = X 656 (b + 1) := by unfold m_nu; rw [h5, nI_1, nI_clamp (by omega)]
  have m2 : m_nu X (X 655 k + 2) = X 656 (b + 2) := by unfold m_nu; rw [h5, nI_2, nI_clamp (by omega)]
  rcases hL with q | q | q | q
  · have e1 : f_co W = f_fd W (f_number W 0) := by unfold f_co; rw [hl, q, if_pos rfl]
    have e2 : m_car X k = m_fa X k := by unfold m_car; rw [q, if_pos rfl]
    have eN : m_fN X k = c - 1 := by
      unfold m_fN
      rw [h5, h6, nI_clamp (by omega), nI_clamp (by omega)]
      omega
    have eC : (W 529 4).toNatClampNeg - 1 = c - 1 := by rw [h4, nI_clamp (by omega)]
    have key := fa_S hs bc hc h4 h5 hn (c - 1) 0 (by omega) hs (by show ¬ (0 : Int32) < 0; decide)
    rw [e1, e2]
    unfold f_fd m_fa m_faN
    rw [eN, eC]
    exact ⟨key.1, key.2.le (by omega)⟩
  · have ec := hj q
    have e1 : f_co W = (bz (f_turnJR W 1 (f_number W 0) (f_number W 1)), f_turnJW W 1 (f_number W 0) (f_number W 1)) := by unfold f_co; rw [hl, q, if_neg (by decide), if_pos rfl]
    have e2 : m_car X k = m_tT X (f_number W 0) (f_number W 1) 0 := by unfold m_car; rw [q, if_neg (by decide), if_pos rfl, m0, m1, n0, show f_number W 1 = X 656 (b + 1) from nu 1 (by omega)]
    rw [e1, e2]
    exact bz_D hs (fun s => by have := turn_D (j := f_number W 0) (m := f_number W 1) (f := 0) s.1 s.2.1 s.2.2; rw [kIf0] at this; exact this)
  · have ec := h3 q
    have e1 : f_co W = (bz (f_lightR W 1 (f_number W 0) (f_number W 1) (f_number W 2)), f_lightW W 1 (f_number W 0) (f_number W 1) (f_number W 2)) := by unfold f_co; rw [hl, q, if_neg (by decide), if_neg (by decide), if_pos rfl]
    have e2 : m_car X k = m_tL X (f_number W 0) (f_number W 1) (f_number W 2) 0 := by unfold m_car; rw [q, if_neg (by decide), if_neg (by decide), if_pos rfl, m0, m1, m2, n0, show f_number W 1 = X 656 (b + 1) from nu 1 (by omega), show f_number W 2 = X 656 (b + 2) from nu 2 (by omega)]
    rw [e1, e2]
    exact bz_D hs (fun s => by have := light_D (l := f_number W 0) (p := f_number W 1) (v := f_number W 2) (f := 0) s.1 s.2.1 s.2.2; rw [kIf0] at this; exact this)
  · have e1 : f_co W = (bz (f_passTR W 1 (f_number W 0)), f_passTW W 1 (f_number W 0)) := by unfold f_co; rw [hl, q, if_neg (by decide), if_neg (by decide), if_neg (by decide)]
    have e2 : m_car X k = m_tK X (f_number W 0) 0 := by unfold m_car; rw [q, if_neg (by decide), if_neg (by decide), if_neg (by decide), m0, n0]
    rw [e1, e2]
    exact bz_D hs (fun s => by have := ticks_D (t := f_number W 0) (f := 0) s.1 s.2.1 s.2.2 hT; rw [kIf0] at this; exact this)
/-- the loop over the orders -/
theorem ca_S {g : Nat → Nat} {m J T : Nat} {C M w : fOm} (hJ : J ≤ 26) (hG : ∀ k, k ≤ J → GG g m M k) (hm9 : qY M J 647 9 = nI m) (hw : ∀ q, q ≠ 647 → q ≠ 648 → q ≠ 649 → w q = qY M J q) (hO : m_coO w = J + 1) (hT : T < 100000000) (n : Nat) : ∀ j, n + j = J + 1 → f_ca C = f_caF (80 - j) j (f_caI (f_ca0 C) j) → m_coN w = m_coF w (m_coO w - j) j → TC (f_caI (f_ca0 C) j) g m → f_caI (f_ca0 C) j 529 1 = rp M j → SX (f_caI (f_ca0 C) j) 1 (m_coI w j 648) (T + 200 * j) → (∀ q, ¬ (1 ≤ q ∧ q < 59) → q ≠ 529 → q ≠ 530 → f_caI (f_ca0 C) j q = f_ca0 C q) →
    ∃ k Wf, f_ca C = (k, Wf) ∧ m_coN w = k ∧ k ≤ 27 ∧ SX Wf 1 (m_coE w 648) (T + 5600) ∧ ∀ q, ¬ (1 ≤ q ∧ q < 59) → q ≠ 529 → q ≠ 530 → Wf q = f_ca0 C q := by
  induction n with
  | zero =>
    intro j hj hC hM t e hS hq
    have ej : j = J + 1 := by omega
    subst ej
    have hr := rx_end t (e.trans hm9)
    have h1 := ca_b hC (by omega) hr
    have h2 := mco_a hM hO.symm
    have px := p2_rx (W := f_caI (f_ca0 C) (J + 1))
    have eE : m_coE w = m_coI w (J + 1) := by
      unfold m_coE
      rw [h2, hO, if_neg (by omega)]
    refine ⟨J + 1, _, h1, h2, by omega, ?_, fun q x y z => (px q y z).trans (hq q x y z)⟩
    rw [eE]
    exact (hS.eqv (fun q q1 q2 => px q (by omega) (by omega)) (fun _ _ => rfl)).le (by omega)
  | succ n ih =>
    intro j hj hC hM t e hS hq
    have hjJ : j ≤ J := by omega
    obtain ⟨b, hb, r1, s1, s2, p, c, k1, k2, kc, k3, k4, k5, k6, k7, k8, k9, kL, k10, k11, k12, k13, k14⟩ := rx_S (fun k hk => hG k (by omega)) t e
    have hm := s1.1
    have px := p2_rx (W := f_caI (f_ca0 C) j)
    have hfr := fr_S (i := j) (J - j) (fun k hk => hG k (by omega))
    rw [show j + (J - j) = J by omega] at hfr
    obtain ⟨f1, f2, f3, e0, eJ, f4, f5, f6, f7, -, f9⟩ := hfr
    have e00 : e0 = b + c := nI_eqN (by omega) (by omega) (f4.symm.trans k7)
    subst e00
    have xw : ∀ q, q ≠ 647 → q ≠ 648 → q ≠ 649 → m_coI w j q = qY M J q := fun q a1 a2 a3 => (coI_M j q a2).trans (hw q a1 a2 a3)
    have hS2 : SX (f_rx (f_caI (f_ca0 C) j)).2 1 (m_coI w j 648) (T + 200 * j) := hS.eqv (fun q q1 q2 => px q (by omega) (by omega)) (fun _ _ => rfl)
    have hco := co_S (k := j) (b := b) (c := c) hS2 (by omega) (by omega) kc (by rw [xw 654 (by decide) (by decide) (by decide), f1]; exact k9) (by rw [xw 654 (by decide) (by decide) (by decide), f1]; exact kL) k8 (by rw [xw 655 (by decide) (by decide) (by decide), f2]; exact k10) (by rw [xw 655 (by decide) (by decide) (by decide), f3]; exact k11) (fun i hi => by rw [xw 656 (by decide) (by decide) (by decide), f9 (b + i) (by omega)]; exact k12 i hi) (by rw [xw 654 (by decide) (by decide) (by decide), f1]; exact k13) (by rw [xw 654 (by decide) (by decide) (by decide), f1]; exact k14)
    have hcM := co_M hS2.1.cB
    have r0 : ¬ (f_rx (f_caI (f_ca0 C) j)).1 = 0 := by rw [r1]; exact nz1
    have cc := @ca_c C j hC (by omega) r0
    have cd := @ca_d C j hC (by omega) r0
    have eI : f_caI (f_ca0 C) (j + 1) = (f_co (f_rx (f_caI (f_ca0 C) j)).2).2 := rfl
    have eM : m_coI w (j + 1) = (m_car (m_coI w j) j).2 := rfl
    have mb := @mco_b w j hM (by omega)
    have mc2 := @mco_c w j hM (by omega)
    have ihj := ih (j + 1) (by omega)
    rw [eI, eM] at ihj
    rw [eI] at cd
    have o529 : (f_co (f_rx (f_caI (f_ca0 C) j)).2).2 529 = (f_rx (f_caI (f_ca0 C) j)).2 529 := hcM 529 (by show ¬ (1 ≤ 529 ∧ 529 < 1 + 58); omega)
    have o527 : (f_co (f_rx (f_caI (f_ca0 C) j)).2).2 527 = (f_rx (f_caI (f_ca0 C) j)).2 527 := hcM 527 (by show ¬ (1 ≤ 527 ∧ 527 < 1 + 58); omega)
    have o528 : (f_co (f_rx (f_caI (f_ca0 C) j)).2).2 528 = (f_rx (f_caI (f_ca0 C) j)).2 528 := hcM 528 (by show ¬ (1 ≤ 528 ∧ 528 < 1 + 58); omega)
    have oq : ∀ q, ¬ (1 ≤ q ∧ q < 59) → q ≠ 529 → q ≠ 530 → (f_co (f_rx (f_caI (f_ca0 C) j)).2).2 q = f_ca0 C q := fun q x y z => (hcM q (by show ¬ (1 ≤ q ∧ q < 1 + 58); omega)).trans ((px q y z).trans (hq q x y z))
    have hrp : (f_co (f_rx (f_caI (f_ca0 C) j)).2).2 529 1 = rp M (j + 1) := by
      rw [o529, k3]
      exact k4.symm
    by_cases z : (f_co (f_rx (f_caI (f_ca0 C) j)).2).1 = 0
    · have z2 := hco.1.mp z
      have h2 := mb z2
      refine ⟨j, _, cc z, h2, by omega, ?_, oq⟩
      have eE : m_coE w = m_coI w (j + 1) := by
        unfold m_coE
        rw [h2, hO, if_pos (by omega)]
      rw [eE, eM]
      exact hco.2.le (by omega)
    · have z2 : ¬ (m_car (m_coI w j) j).1 < 0 := fun q => z (hco.1.mpr q)
      exact ihj (cd z) (mc2 z2) (s1.eq o527 o528) hrp (hco.2.le (by omega)) oq
theorem keepD_c {A B : fOm} {a : Int32} (h7 : A 117 = B 117) (h8 : A 118 = B 118) : (∀ q, q = 117 ∨ q = 118 → f_keepD A a q = f_keepD B a q) ∧ ∀ q, q ≠ 117 → q ≠ 118 → f_keepD A a q = A q := by
  unfold f_keepD
  by_cases c : 0 ≤ a
  · rw [if_pos c, if_pos c, h7]
    by_cases c6 : 6 ≤ B 117 1
    · rw [if_pos c6, if_pos c6]
      unfold f_dropO
      refine ⟨fun q hq => ?_, fun q a1 a2 => by rw [wu_ne a2, dro_ne a2]⟩
      rcases hq with rfl | rfl
      · rw [wu_ne (by decide), wu_ne (by decide), dro_ne (by decide), dro_ne (by decide)]
        exact h7
      · funext i
        rw [wu_i, wu_i, dro_c, dro_c, h8]
    · rw [if_neg c6, if_neg c6]
      refine ⟨fun q hq => ?_, fun q a1 a2 => wu_ne a1⟩
      rcases hq with rfl | rfl
      · funext i
        rw [wu_i, wu_i, h7]
      · rw [wu_ne (by decide), wu_ne (by decide)]
        exact h8
  · rw [if_neg c, if_neg c]
    exact ⟨fun q hq => by rcases hq with rfl | rfl; exact h7; exact h8, fun _ _ _ => rfl⟩
abbrev lo : Nat → Prop := fun q => q < 647
abbrev hi : Nat → Prop := fun q => 647 ≤ q
theorem carry_R {C M : fOm} {T : Nat} (h : RR C M T) (hT : T < 50000000) : (m_carryR M = f_carryR C ∧ RR (f_carryW C) (m_carryW M) (T + 5600)) ∧ Mod lo C (f_carryW C) := by
  obtain ⟨g, m, t1, t2⟩ := text_of h.2.2.2
  obtain ⟨-, hR⟩ := fault_R h
  unfold m_carryR f_carryR m_carryW f_carryW
  rcases ff_0S t1 t2 h.pd with ⟨J, hJ, e1, e2, e3, e4, hG⟩ | ⟨p2, hp, e1, e2⟩
  · rw [e1, e2, if_pos (show (-6 : Int32) < 0 by decide), if_pos (show (-6 : Int32) < 0 by decide), if_pos (show (-6 : Int32) = -6 from rfl), if_pos (show (-6 : Int32) = -6 from rfl)]
    have hw : ∀ q, q ≠ 647 → q ≠ 648 → q ≠ 649 → m_co0 M q = qY M J q := fun q a1 a2 a3 => by
      unfold m_co0
      rw [keep_q ⟨a1, a3⟩, e3]
    have hO : m_coO (m_co0 M) = J + 1 := by
      obtain ⟨b, r, ⟨-, s1, -, p, c, k1, k2, kc, k3, k4, k5, k6, -⟩, -⟩ := go_Y (hG J (Nat.le_refl J))
      unfold m_coO m_co0
      rw [keep_i (by decide), e3, k6, nI_clamp (by omega)]
    have h1S := hR.h1
    have hMM : Mod aS (m_keep (m_ft M)) (m_coE (m_co0 M)) := by
      unfold m_coE
      split
      · exact coI_M _
      · exact coI_M _
    have hca0 : ∀ q, q ≠ 529 → f_ca0 C q = f_hold (f_ff C).2 1 q := fun q hq => by
      unfold f_ca0 f_f0
      exact wu_ne hq
    have hcb := hR.1.1.cB
    have hold : ∀ q, 527 ≤ q → q ≤ 528 → f_hold (f_ff C).2 1 q = C q := fun q q1 q2 => by
      obtain ⟨-, ⟨n, f, g1, g2, g3, g4, g5, g6, g7, g8⟩, -⟩ := hR
      obtain ⟨mi, hmi, es⟩ := g6 n (by omega)
      have en : ((f_ff C).2 117 1).toNatClampNeg = n := by rw [g3, nI_clamp (by omega)]
      unfold f_hold
      rw [en, scopy_M (b := ((f_ff C).2 118 n).toNatClampNeg) (b2 := 1) (hcb) (by omega) q (by show ¬ (_ ≤ q ∧ q < _ + 58); omega)]
      exact p2_ff q (by omega) (by omega)
    have t0 : TC (f_ca0 C) g m := t1.eq (by rw [hca0 527 (by decide)]; exact hold 527 (by omega) (by omega)) (by rw [hca0 528 (by decide)]; exact hold 528 (by omega) (by omega))
    have s0 : SX (f_ca0 C) 1 (m_coI (m_co0 M) 0 648) (T + 200 * 0) := by
      show SX (f_ca0 C) 1 (m_keep (m_ft M) 648) T
      rw [keep_648]
      exact h1S.eqv (fun q q1 q2 => hca0 q (by omega)) (fun _ _ => rfl)
    obtain ⟨k, Wf, c1, c2, c3, c4, c5⟩ := ca_S (T := T) hJ hG e4 hw hO (by omega) (J + 1) 0 (Nat.add_zero _) ca_0 (by unfold m_coN; rw [Nat.sub_zero]) t0 (by show f_f0 (f_hold (f_ff C).2 1) 529 1 = 0; unfold f_f0; rw [wu_i, if_pos rfl]) s0 (fun _ _ _ _ => rfl)
    rw [c1, c2]
    rw [and_assoc]
    refine ⟨rfl, ?_⟩
    clear e1 e2
    have kc := keepD_c (A := wu Wf 527 1 0) (B := wu Wf 527 1 0) (a := nI k) rfl rfl
    have holdM : ∀ q, 647 ≤ q → f_hold (f_ff C).2 1 q = C q := fun q q1 => by
      obtain ⟨-, ⟨n, f, g1, g2, g3, g4, g5, g6, g7, g8⟩, -⟩ := hR
      obtain ⟨mi, hmi, es⟩ := g6 n (by omega)
      have en : ((f_ff C).2 117 1).toNatClampNeg = n := by rw [g3, nI_clamp (by omega)]
      unfold f_hold
      rw [en, scopy_M (b := ((f_ff C).2 118 n).toNatClampNeg) (b2 := 1) hcb (by omega) q (by show ¬ (_ ≤ q ∧ q < _ + 58); omega)]
      exact p2_ff q (by omega) (by omega)
    refine ⟨?_, fun q hq => by
      have hq : ¬ q < 647 := hq
      show f_keepD (wu Wf 527 1 0) (nI k) q = C q
      rw [kc.2 q (by omega) (by omega), wu_ne (by omega), c5 q (by omega) (by omega) (by omega), hca0 q (by omega)]
      exact holdM q (by omega)⟩
    clear kc holdM
    show RR (f_keepD (wu Wf 527 1 0) (nI k)) (wu (m_coE (m_co0 M)) 647 8 0) (T + 5600)
    have hk0 : (0 : Int32) ≤ nI k := nI_pos' (by omega)
    generalize m_coE (m_co0 M) = X at hMM c4 ⊢
    let W0 : fOm := fun q => if 1 ≤ q ∧ q < 59 then Wf q else f_hold (f_ff C).2 1 q
    have wIn : ∀ q, 1 ≤ q → q < 59 → W0 q = Wf q := fun q a b => if_pos ⟨a, b⟩
    have wOut : ∀ q, ¬ (1 ≤ q ∧ q < 59) → W0 q = f_hold (f_ff C).2 1 q := fun q a => if_neg a
    have wf : ∀ q, q ≠ 529 → q ≠ 530 → Wf q = W0 q := fun q y z => by
      by_cases x : 1 ≤ q ∧ q < 59
      · exact (wIn q x.1 x.2).symm
      · rw [wOut q x, c5 q x y z]
        exact hca0 q y
    have hch := (hR.le (T2 := T + 5400) (by omega)).change (W := W0) (R := nI k) (m := (nI k, X)) (T2 := T + 5600) (by omega) (fun q hq => wOut q (fun z => hq ⟨z.1, z.2⟩)) (fun _ => Or.inr ⟨hk0, rfl, hMM, (c4.eqv (fun q q1 q2 => wIn q q1 q2) (fun _ _ => rfl)).1, c4.2.1, c4.2.2.le (by omega)⟩)
    have hwp := (wipe_R hch.2).2
    have kc := keepD_c (A := wu Wf 527 1 0) (B := W0) (a := nI k) (by rw [wu_ne (by decide)]; exact wf 117 (by decide) (by decide)) (by rw [wu_ne (by decide)]; exact wf 118 (by decide) (by decide))
    have kb := keepD_c (A := W0) (B := W0) (a := nI k) rfl rfl
    refine hwp.side (fun q x y z => ?_) (fun _ _ => rfl) (fun _ _ _ _ _ _ _ => rfl) (fun _ _ => rfl)
    by_cases a : q = 117 ∨ q = 118
    · rw [kc.1 q a, wu_ne (by omega)]
    · rw [kc.2 q (fun e => a (Or.inl e)) (fun e => a (Or.inr e))]
      by_cases e : q = 527
      · subst e
        funext i
        rw [wu_i, wu_i, kb.2 527 (by decide) (by decide), wf 527 (by decide) (by decide)]
      · rw [wu_ne e, wu_ne e, kb.2 q (fun e => a (Or.inl e)) (fun e => a (Or.inr e))]
        exact wf q y z
  · have np : ¬ nI p2 < 0 := nI_pos (by have := t1.1; omega)
    have ne : ¬ nI p2 = -6 := fun z => np (by rw [z]; decide)
    rw [e1, e2, if_neg np, if_neg np, if_neg ne, if_neg ne]
    exact ⟨⟨rfl, hR.le (by omega)⟩, fun q hq => by have hq : ¬ q < 647 := hq; exact p2_ff q (by omega) (by omega)⟩
