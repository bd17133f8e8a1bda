/-! ===== a state is copied ===== -/
theorem LRp.cp {C W : fOm} {k k2 r : Nat} {a : Nat → Int32} (h : LRp C k2 a r) (h0 : W k 0 = C k2 0) (h1 : ∀ p, p < 32 → W (k + 1) p = C (k2 + 1) p ∧ W (k + 2) p = C (k2 + 2) p ∧ W (k + 3) p = C (k2 + 3) p) (h4 : ∀ t, t < 5 → W (k + 4) t = C (k2 + 4) t) : LRp W k a r := by
  obtain ⟨P, hP4, hP, eP, eP2⟩ := h.P
  refine ⟨by rw [h0]; exact h.1, by rw [h0]; exact h.2.1, fun t ht => by rw [h4 t ht]; exact h.2.2.1 t ht, fun p hp => ?_⟩
  rw [h0] at hp
  obtain ⟨x1, x2, x3⟩ := h1 p (by omega)
  exact (h.2.2.2 p hp).tx x1 x2 x3 rfl rfl rfl
theorem DR.cp {C W : fOm} {k k2 d : Nat} {a : Nat → Int32} (h : DR C k2 a d) (h0 : ∀ j, j < 9 → j ≠ 7 → W k j = C k2 j) (h1 : ∀ i, i < 12 → W (k + 1) i = C (k2 + 1) i) : DR W k a d := by
  obtain ⟨g1, g2, g3⟩ := h
  unfold DR
  rw [h0 0 (by omega) (by omega), h0 1 (by omega) (by omega), h0 2 (by omega) (by omega), h0 3 (by omega) (by omega), h0 4 (by omega) (by omega), h0 5 (by omega) (by omega), h0 6 (by omega) (by omega), h0 8 (by omega) (by omega)]
  refine ⟨g1, g2, ?_⟩
  rcases g3 with q | ⟨q1, q2, q3, q4⟩ | ⟨q1, q2, q3, q4⟩ | q | q
  · exact Or.inl q
  · refine Or.inr (Or.inl ⟨q1, q2, q3, fun i hi => ?_⟩)
    have hi2 := Nat.lt_of_lt_of_le hi (tn_le (n := 8) q3 rfl)
    rw [h1 i (by omega)]
    exact q4 i hi
  · refine Or.inr (Or.inr (Or.inl ⟨q1, q2, q3, fun i hi => ?_⟩))
    have hi2 := Nat.lt_of_lt_of_le hi (tn_le (n := 12) q3 rfl)
    rw [h1 i (by omega)]
    exact q4 i hi
  · exact Or.inr (Or.inr (Or.inr (Or.inl q)))
  · exact Or.inr (Or.inr (Or.inr (Or.inr q)))
theorem JR.cp {C W : fOm} {k k2 j : Nat} {a : Nat → Int32} (h : JR C k2 a j) (h0 : ∀ i, i < 6 → W k i = C k2 i) : JR W k a j := by
  obtain ⟨g1, g2, g3, g4, g5⟩ := h
  exact ⟨fun i hi => by rw [h0 i hi]; exact g1 i hi, g2, g3, g4, by rw [h0 4 (by omega)]; exact g5⟩
theorem cp_e {ω : fOm} {k0 k1 q x : Nat} (hx : x < ln q) : f_cp ω k0 k1 q k1 x = ω k0 x := by
  unfold f_cp
  rw [wr_s, pk_cpy_in (by omega) (by omega)]
  congr 1
  omega
theorem rcopy_c {ω : fOm} {k k2 : Nat} (hd : k + 5 ≤ k2 ∨ k2 + 5 ≤ k) : f_rcopy ω k k2 k 0 = ω k2 0 ∧ (∀ p, p < 32 → f_rcopy ω k k2 (k + 1) p = ω (k2 + 1) p ∧ f_rcopy ω k k2 (k + 2) p = ω (k2 + 2) p ∧ f_rcopy ω k k2 (k + 3) p = ω (k2 + 3) p) ∧ ∀ t, t < 5 → f_rcopy ω k k2 (k + 4) t = ω (k2 + 4) t := by
  have n : ∀ {w : fOm} {k0 k1 q z : Nat}, z ≠ k1 → f_cp w k0 k1 q z = w z := fun hz => wr_ne hz
  unfold f_rcopy
  refine ⟨?_, fun p hp => ⟨?_, ?_, ?_⟩, fun t ht => ?_⟩
  · rw [n (by omega), n (by omega), n (by omega), n (by omega), wu_i, if_pos rfl]
  · rw [n (by omega), n (by omega), n (by omega), cp_e (q := 7) (show p < 32 from hp), wu_ne (by omega)]
  · rw [n (by omega), n (by omega), cp_e (q := 7) (show p < 32 from hp), n (by omega), wu_ne (by omega)]
  · rw [n (by omega), cp_e (q := 7) (show p < 32 from hp), n (by omega), n (by omega), wu_ne (by omega)]
  · rw [cp_e (q := 8) (show t < 5 from ht), n (by omega), n (by omega), n (by omega), wu_ne (by omega)]
theorem dcopy_c {ω : fOm} {k k2 : Nat} (hd : k + 2 ≤ k2 ∨ k2 + 2 ≤ k) : (∀ j, j < 9 → j ≠ 7 → f_dcopy ω k k2 k j = ω k2 j) ∧ ∀ i, i < 12 → f_dcopy ω k k2 (k + 1) i = ω (k2 + 1) i := by
  have s : ∀ (w : fOm) (j : Nat) (v : Int32), wu w k j v k2 = w k2 := fun w j v => wu_ne (by omega)
  have s1 : ∀ (w : fOm) (j : Nat) (v : Int32), wu w k j v (k2 + 1) = w (k2 + 1) := fun w j v => wu_ne (by omega)
  unfold f_dcopy
  simp only [s]
  refine ⟨fun j hj h7 => ?_, fun i hi => ?_⟩
  · have n : ∀ {w : fOm} {k0 k1 q z : Nat}, z ≠ k1 → f_cp w k0 k1 q z = w z := fun hz => wr_ne hz
    rw [n (by omega)]
    simp only [wu_i]
    rcases (show j = 0 ∨ j = 1 ∨ j = 2 ∨ j = 3 ∨ j = 4 ∨ j = 5 ∨ j = 6 ∨ j = 8 by omega) with rfl | rfl | rfl | rfl | rfl | rfl | rfl | rfl <;> simp
  · rw [cp_e (q := 10) (show i < 12 from hi)]
    simp only [s1]
theorem jcopy_c {ω : fOm} {k k2 : Nat} (hd : k ≠ k2) : ∀ j, j < 6 → f_jcopy ω k k2 k j = ω k2 j := by
  have s : ∀ (w : fOm) (j : Nat) (v : Int32), wu w k j v k2 = w k2 := fun w j v => wu_ne (Ne.symm hd)
  intro j hj
  unfold f_jcopy
  simp only [s, wu_i]
  rcases (show j = 0 ∨ j = 1 ∨ j = 2 ∨ j = 3 ∨ j = 4 ∨ j = 5 by omega) with rfl | rfl | rfl | rfl | rfl | rfl <;> simp
abbrev apart (b b2 : Nat) : Prop := b + 58 ≤ b2 ∨ b2 + 58 ≤ b
theorem cpR_c {w : fOm} {b b2 n : Nat} (hd : apart b b2) (hn : n ≤ 5) : ∀ r, r < n → f_cpR b b2 w n (b + 5 + 5 * r) 0 = w (b2 + 5 + 5 * r) 0 ∧ (∀ p, p < 32 → f_cpR b b2 w n (b + 5 + 5 * r + 1) p = w (b2 + 5 + 5 * r + 1) p ∧ f_cpR b b2 w n (b + 5 + 5 * r + 2) p = w (b2 + 5 + 5 * r + 2) p ∧ f_cpR b b2 w n (b + 5 + 5 * r + 3) p = w (b2 + 5 + 5 * r + 3) p) ∧ ∀ t, t < 5 → f_cpR b b2 w n (b + 5 + 5 * r + 4) t = w (b2 + 5 + 5 * r + 4) t := by
  induction n with
  | zero => exact fun r hr => absurd hr (by omega)
  | succ n ih =>
    intro r hr
    have src : ∀ q, b2 ≤ q → q < b2 + 58 → f_cpR b b2 w n q = w q := fun q h1 h2 => cpR_M (by omega) q (by show ¬ (b + 5 ≤ q ∧ q < b + 58); unfold apart at hd; omega)
    show f_rcopy (f_cpR b b2 w n) (b + 5 + 5 * n) (b2 + 5 + 5 * n) _ 0 = _ ∧ (∀ p, p < 32 → f_rcopy (f_cpR b b2 w n) (b + 5 + 5 * n) (b2 + 5 + 5 * n) _ p = _ ∧ f_rcopy (f_cpR b b2 w n) (b + 5 + 5 * n) (b2 + 5 + 5 * n) _ p = _ ∧ f_rcopy (f_cpR b b2 w n) (b + 5 + 5 * n) (b2 + 5 + 5 * n) _ p = _) ∧ ∀ t, t < 5 → f_rcopy (f_cpR b b2 w n) (b + 5 + 5 * n) (b2 + 5 + 5 * n) _ t = _
    by_cases e : r = n
    · subst e
      obtain ⟨c1, c2, c3⟩ := rcopy_c (ω := f_cpR b b2 w r) (k := b + 5 + 5 * r) (k2 := b2 + 5 + 5 * r) (by unfold apart at hd; omega)
      refine ⟨by rw [c1, src _ (by omega) (by omega)], fun p hp => ?_, fun t ht => by rw [c3 t ht, src _ (by omega) (by omega)]⟩
      obtain ⟨d1, d2, d3⟩ := c2 p hp
      exact ⟨by rw [d1, src _ (by omega) (by omega)], by rw [d2, src _ (by omega) (by omega)], by rw [d3, src _ (by omega) (by omega)]⟩
    · have o : ∀ i, i < 5 → f_rcopy (f_cpR b b2 w n) (b + 5 + 5 * n) (b2 + 5 + 5 * n) (b + 5 + 5 * r + i) = f_cpR b b2 w n (b + 5 + 5 * r + i) := fun i hi => rcopy_M _ (by show ¬ (b + 5 + 5 * n ≤ b + 5 + 5 * r + i ∧ b + 5 + 5 * r + i < b + 5 + 5 * n + 5); omega)
      have o0 : f_rcopy (f_cpR b b2 w n) (b + 5 + 5 * n) (b2 + 5 + 5 * n) (b + 5 + 5 * r) = f_cpR b b2 w n (b + 5 + 5 * r) := o 0 (by omega)
      obtain ⟨i1, i2, i3⟩ := ih (by omega) r (by omega)
      rw [o0, o 1 (by omega), o 2 (by omega), o 3 (by omega), o 4 (by omega)]
      exact ⟨i1, i2, i3⟩
theorem cpD_c {w : fOm} {b b2 n : Nat} (hd : apart b b2) (hn : n ≤ 12) : ∀ d, d < n → (∀ j, j < 9 → j ≠ 7 → f_cpD b b2 w n (b + 30 + 2 * d) j = w (b2 + 30 + 2 * d) j) ∧ ∀ i, i < 12 → f_cpD b b2 w n (b + 30 + 2 * d + 1) i = w (b2 + 30 + 2 * d + 1) i := by
  induction n with
  | zero => exact fun r hr => absurd hr (by omega)
  | succ n ih =>
    intro d hdn
    have src : ∀ q, b2 ≤ q → q < b2 + 58 → f_cpD b b2 w n q = w q := fun q h1 h2 => cpD_M (by omega) q (by show ¬ (b + 5 ≤ q ∧ q < b + 58); unfold apart at hd; omega)
    show (∀ j, j < 9 → j ≠ 7 → f_dcopy (f_cpD b b2 w n) (b + 30 + 2 * n) (b2 + 30 + 2 * n) _ j = _) ∧ ∀ i, i < 12 → f_dcopy (f_cpD b b2 w n) (b + 30 + 2 * n) (b2 + 30 + 2 * n) _ i = _
    by_cases e : d = n
    · subst e
      obtain ⟨c1, c2⟩ := dcopy_c (ω := f_cpD b b2 w d) (k := b + 30 + 2 * d) (k2 := b2 + 30 + 2 * d) (by unfold apart at hd; omega)
      exact ⟨fun j hj h7 => by rw [c1 j hj h7, src _ (by omega) (by omega)], fun i hi => by rw [c2 i hi, src _ (by omega) (by omega)]⟩
    · have o : ∀ i, i < 2 → f_dcopy (f_cpD b b2 w n) (b + 30 + 2 * n) (b2 + 30 + 2 * n) (b + 30 + 2 * d + i) = f_cpD b b2 w n (b + 30 + 2 * d + i) := fun i hi => dcopy_M _ (by show ¬ (b + 30 + 2 * d + i = b + 30 + 2 * n ∨ b + 30 + 2 * d + i = b + 30 + 2 * n + 1); omega)
      have o0 : f_dcopy (f_cpD b b2 w n) (b + 30 + 2 * n) (b2 + 30 + 2 * n) (b + 30 + 2 * d) = f_cpD b b2 w n (b + 30 + 2 * d) := o 0 (by omega)
      rw [o0, o 1 (by omega)]
      exact ih (by omega) d (by omega)
theorem cpJ_c {w : fOm} {b b2 n : Nat} (hd : apart b b2) (hn : n ≤ 4) : ∀ d, d < n → ∀ j, j < 6 → f_cpJ b b2 w n (b + 54 + d) j = w (b2 + 54 + d) j := by
  induction n with
  | zero => exact fun r hr => absurd hr (by omega)
  | succ n ih =>
    intro d hdn j hj
    have src : ∀ q, b2 ≤ q → q < b2 + 58 → f_cpJ b b2 w n q = w q := fun q h1 h2 => cpJ_M (by omega) q (by show ¬ (b + 5 ≤ q ∧ q < b + 58); unfold apart at hd; omega)
    show f_jcopy (f_cpJ b b2 w n) (b + 54 + n) (b2 + 54 + n) _ j = _
    by_cases e : d = n
    · subst e
      rw [jcopy_c (by unfold apart at hd; omega) j hj, src _ (by omega) (by omega)]
    · rw [jcopy_M (b + 54 + d) (by show ¬ (b + 54 + d = b + 54 + n); omega)]
      exact ih (by omega) d (by omega) j hj
theorem SR.copy {C : fOm} {b b2 : Nat} {a : Nat → Int32} (h : SR C b2 a) (hd : apart b b2) : SR (f_scopy C b b2) b a := by
  have hne : b2 ≠ b + 1 := by unfold apart at hd; omega
  have hB := h.cB
  have n5 : (C b2 5).toNatClampNeg ≤ 5 := tn_le hB.1 rfl
  have n6 : (C b2 6).toNatClampNeg ≤ 12 := tn_le hB.2.1 rfl
  have n7 : (C b2 7).toNatClampNeg ≤ 4 := tn_le hB.2.2 rfl
  have eb := scopy_b (b := b) hB hne
  rw [scopy_e hB hne] at eb ⊢
  have s0 : ∀ q, b2 ≤ q → q < b2 + 58 → f_cp0 C b b2 q = C q := fun q h1 h2 => cp0_M q (by show ¬ (q = b ∨ q = b + 1); unfold apart at hd; omega)
  have sR : ∀ q, b2 ≤ q → q < b2 + 58 → f_cpR b b2 (f_cp0 C b b2) (C b2 5).toNatClampNeg q = C q := fun q h1 h2 => (cpR_M n5 q (by show ¬ (b + 5 ≤ q ∧ q < b + 58); unfold apart at hd; omega)).trans (s0 q h1 h2)
  have sD : ∀ q, b2 ≤ q → q < b2 + 58 → f_cpD b b2 (f_cpR b b2 (f_cp0 C b b2) (C b2 5).toNatClampNeg) (C b2 6).toNatClampNeg q = C q := fun q h1 h2 => (cpD_M n6 q (by show ¬ (b + 5 ≤ q ∧ q < b + 58); unfold apart at hd; omega)).trans (sR q h1 h2)
  have cR := cpR_c (w := f_cp0 C b b2) hd n5
  have cD := cpD_c (w := f_cpR b b2 (f_cp0 C b b2) (C b2 5).toNatClampNeg) hd n6
  have cJ := cpJ_c (w := f_cpD b b2 (f_cpR b b2 (f_cp0 C b b2) (C b2 5).toNatClampNeg) (C b2 6).toNatClampNeg) hd n7
  -- what the later steps leave
  have lD : ∀ n q, n ≤ 12 → ∀ w : fOm, (q < b + 30 ∨ b + 54 ≤ q) → f_cpD b b2 w n q = w q := by
    intro n
    induction n with
    | zero => exact fun q _ w _ => rfl
    | succ n ih =>
      intro q hn w hq
      exact (dcopy_M q (by show ¬ (q = b + 30 + 2 * n ∨ q = b + 30 + 2 * n + 1); omega)).trans (ih q (by omega) w hq)
  have lJ : ∀ n q, n ≤ 4 → ∀ w : fOm, (q < b + 54 ∨ b + 58 ≤ q) → f_cpJ b b2 w n q = w q := by
    intro n
    induction n with
    | zero => exact fun q _ w _ => rfl
    | succ n ih =>
      intro q hn w hq
      exact (jcopy_M q (by show ¬ (q = b + 54 + n); omega)).trans (ih q (by omega) w hq)
  have lR : ∀ n q, n ≤ 5 → ∀ w : fOm, (q < b + 5 ∨ b + 30 ≤ q) → f_cpR b b2 w n q = w q := by
    intro n
    induction n with
    | zero => exact fun q _ w _ => rfl
    | succ n ih =>
      intro q hn w hq
      exact (rcopy_M q (by show ¬ (b + 5 + 5 * n ≤ q ∧ q < b + 5 + 5 * n + 5); omega)).trans (ih q (by omega) w hq)
  obtain ⟨e5, e6, e7, e4⟩ := h.c5
  have e1 : ∀ i, i < 4 → f_cpJ b b2 (f_cpD b b2 (f_cpR b b2 (f_cp0 C b b2) (C b2 5).toNatClampNeg) (C b2 6).toNatClampNeg) (C b2 7).toNatClampNeg (b + 1) i = C (b2 + 1) i := fun i hi => by
    rw [lJ _ _ n7 _ (by omega), lD _ _ n6 _ (by omega), lR _ _ n5 _ (by omega)]
    unfold f_cp0
    try dsimp only
    rw [wu_ne (by omega), wu_ne (by omega), wu_ne (by omega), wu_ne (by omega)]
    exact cp_e (q := 2) (show i < 4 from hi)
  generalize hw : f_cpJ b b2 (f_cpD b b2 (f_cpR b b2 (f_cp0 C b b2) (C b2 5).toNatClampNeg) (C b2 6).toNatClampNeg) (C b2 7).toNatClampNeg = W at *
  refine ⟨fun i hi => by rw [e1 i hi]; exact h.1 i hi, fun i hi hi2 => ?_, h.2.2.1, h.W, fun r hr => ?_, h.2.2.2.2.2.1, fun d hd2 => ?_, fun j hj2 => ?_⟩
  · rw [eb, h.2.1 i hi hi2]
    rcases (show i = 4 ∨ i = 5 ∨ i = 6 ∨ i = 7 by omega) with rfl | rfl | rfl | rfl
    · rw [pk_un (by omega), pk_un (by omega), pk_un (by omega), pk_us]
    · rw [pk_un (by omega), pk_un (by omega), pk_us]
    · rw [pk_un (by omega), pk_us]
    · rw [pk_us]
  · have hL := h.2.2.2.2.1 r hr
    rw [e5] at hr
    obtain ⟨c1, c2, c3⟩ := cR r hr
    have z : ∀ i, i < 5 → W (b + 5 + 5 * r + i) = f_cpR b b2 (f_cp0 C b b2) (C b2 5).toNatClampNeg (b + 5 + 5 * r + i) := fun i hi => by rw [← hw, lJ _ _ n7 _ (by omega), lD _ _ n6 _ (by omega)]
    have z0 := z 0 (by omega)
    rw [Nat.add_zero] at z0
    refine hL.cp (by rw [z0, c1, s0 _ (by omega) (by omega)]) (fun p hp => ?_) (fun t ht => by rw [z 4 (by omega), c3 t ht, s0 _ (by omega) (by omega)])
    obtain ⟨d1, d2, d3⟩ := c2 p hp
    exact ⟨by rw [z 1 (by omega), d1, s0 _ (by omega) (by omega)], by rw [z 2 (by omega), d2, s0 _ (by omega) (by omega)], by rw [z 3 (by omega), d3, s0 _ (by omega) (by omega)]⟩
  · have hD := h.2.2.2.2.2.2.1 d hd2
    rw [e6] at hd2
    obtain ⟨c1, c2⟩ := cD d hd2
    have z : ∀ i, i < 2 → W (b + 30 + 2 * d + i) = f_cpD b b2 (f_cpR b b2 (f_cp0 C b b2) (C b2 5).toNatClampNeg) (C b2 6).toNatClampNeg (b + 30 + 2 * d + i) := fun i hi => by rw [← hw, lJ _ _ n7 _ (by omega)]
    have z0 := z 0 (by omega)
    rw [Nat.add_zero] at z0
    exact hD.cp (fun j hj h7 => by rw [z0, c1 j hj h7, sR _ (by omega) (by omega)]) (fun i hi => by rw [z 1 (by omega), c2 i hi, sR _ (by omega) (by omega)])
  · have hJ := h.2.2.2.2.2.2.2 j hj2
    rw [e7] at hj2
    exact hJ.cp (fun i hi => by rw [cJ j hj2 i hi, sD _ (by omega) (by omega)])
/-- another world with the same cells there -/
theorem SR.eqv {C W : fOm} {b : Nat} {a a2 : Nat → Int32} (h : SR C b a) (hC : ∀ q, b ≤ q → q < b + 58 → W q = C q) (ha : ∀ i, i < 770 → a2 i = a i) : SR W b a2 := by
  have n5 := h.W.n5
  have n6 := h.W.n6
  have n7 := h.W.n7
  have e5 := ha 5 (by omega)
  have e8 : ∀ l, l < 5 → a2 (8 + 6 * l) = a (8 + 6 * l) := fun l hl => ha _ (by omega)
  obtain ⟨g1, g2, g3, g4, g5, g6, g7, g8⟩ := h
  refine ⟨fun i hi => by rw [ha i (by omega), hC _ (by omega) (by omega)]; exact g1 i hi, fun i hi hi2 => by rw [ha i (by omega), hC _ (by omega) (by omega)]; exact g2 i hi hi2, ?_, ?_, fun r hr => ?_, fun r hr hr2 => ?_, fun d hd => ?_, fun j hj => ?_⟩
  · unfold SB
    rw [ha 0 (by omega), ha 1 (by omega), ha 2 (by omega), ha 3 (by omega)]
    exact g3
  · unfold SN
    rw [e5, ha 6 (by omega), ha 7 (by omega)]
    exact g4
  · rw [e5] at hr
    exact (g5 r hr).fr (fun q q1 q2 => hC q (by omega) (by omega)) (fun i hi => ha i (by unfold inL at hi; omega)) (e8 r (by omega))
  · rw [e5] at hr2
    obtain ⟨x1, x2⟩ := g6 r hr hr2
    refine ⟨fun t ht => (ha _ (by omega)).trans (x1 t ht), fun p hp => ?_⟩
    rw [ha _ (by omega), ha _ (by omega), ha _ (by omega)]
    exact x2 p hp
  · rw [ha 6 (by omega)] at hd
    exact (g7 d hd).fr (hC _ (by omega) (by omega)) (hC _ (by omega) (by omega)) (fun i hi => ha i (by unfold inD at hi; omega)) e5 e8 g4.1.2
  · rw [ha 7 (by omega)] at hj
    exact (g8 j hj).fr (hC _ (by omega) (by omega)) (fun i hi => ha i (by unfold inJ at hi; omega)) e5 e8 g4.1.2
/-! ===== how many flashes are lost: what grows by how much ===== -/
def LT (ω w : fOm) : Prop := ∀ r, r < 5 → w 648 (10 + 6 * r) = ω 648 (10 + 6 * r)
theorem LT.rf {ω : fOm} : LT ω ω := fun _ _ => rfl
theorem LT.tr {a b c : fOm} (h : LT a b) (h2 : LT b c) : LT a c := fun r hr => (h2 r hr).trans (h r hr)
theorem LT.wu {ω w : fOm} {j : Nat} {v : Int32} (h : LT ω w) (hj : ∀ r, r < 5 → j ≠ 10 + 6 * r) : LT ω (wu w 648 j v) := fun r hr => by
  rw [wu_648, pk_un (fun e => hj r hr e.symm)]
  exact h r hr
theorem lt_c {c : Int32} (hc : 290 ≤ c ∧ c ≤ 767) : (∀ r, r < 5 → c.toNatClampNeg ≠ 10 + 6 * r) ∧ (∀ r, r < 5 → (c + 1).toNatClampNeg ≠ 10 + 6 * r) ∧ (∀ r, r < 5 → (c + 2).toNatClampNeg ≠ 10 + 6 * r) := by
  have := tn_c hc
  refine ⟨fun r hr => ?_, fun r hr => ?_, fun r hr => ?_⟩ <;> omega
theorem lt_cj {c : Int32} {j : Nat} (hc : 290 ≤ c ∧ c ≤ 767) (hj : j < 3) : ∀ r, r < 5 → (c + nI j).toNatClampNeg ≠ 10 + 6 * r := fun r hr => by
  have := tn_cj hc hj
  omega
theorem lt_D {d w : Int32} (hd : 0 ≤ d ∧ d ≤ 11) (hw : 0 ≤ w ∧ w ≤ 18) : ∀ r, r < 5 → iD d w ≠ 10 + 6 * r := fun r hr => by
  obtain ⟨n, hn, rfl⟩ := rgN (n := 11) hd rfl
  obtain ⟨m, hm, rfl⟩ := rgN (n := 18) hw rfl
  rw [iD_n (by omega) (by omega)]
  omega
theorem lt_J {d w : Int32} (hd : 0 ≤ d ∧ d ≤ 3) (hw : 0 ≤ w ∧ w ≤ 5) : ∀ r, r < 5 → iJ d w ≠ 10 + 6 * r := fun r hr => by
  obtain ⟨n, hn, rfl⟩ := rgN (n := 3) hd rfl
  obtain ⟨m, hm, rfl⟩ := rgN (n := 5) hw rfl
  rw [iJ_n (by omega) (by omega)]
  omega
theorem lt_L {l : Int32} {m : Nat} (hl : 0 ≤ l ∧ l ≤ 4) (hm : m < 6) (h2 : m ≠ 2) : ∀ r, r < 5 → iL l (nI m) ≠ 10 + 6 * r := fun r hr => by
  obtain ⟨n, hn, rfl⟩ := rgN (n := 4) hl rfl
  rw [iL_n (by omega) hm]
  omega
theorem clear_LT {ω w : fOm} {c : Int32} (h : LT ω w) (hc : 290 ≤ c ∧ c ≤ 767) : LT ω (m_clear w c) := LT.wu (LT.wu (LT.wu h (lt_c hc).1) (lt_c hc).2.1) (lt_c hc).2.2
theorem moreL_LT {ω w : fOm} {l : Int32} {m : Nat} (h : LT ω w) (hl : 0 ≤ l ∧ l ≤ 4) (hm : m < 6) (h2 : m ≠ 2) : LT ω (m_moreL w l (nI m)) := LT.wu h (lt_L hl hm h2)
theorem shine_LT {ω w : fOm} {l c v : Int32} (h : LT ω w) (hl : 0 ≤ l ∧ l ≤ 4) (hc : 290 ≤ c ∧ c ≤ 767) : LT ω (m_shine w l c v) := moreL_LT (m := 1) (LT.wu (LT.wu (LT.wu h (lt_c hc).1) (lt_c hc).2.1) (lt_c hc).2.2) hl (by omega) (by omega)
theorem mvL_LT {ω w : fOm} {fr tt : Int32} (h : LT ω w) (ht : 290 ≤ tt ∧ tt ≤ 767) {j : Nat} (hj : j ≤ 3) : LT ω (m_mvL fr tt w j) := by
  induction j with
  | zero => exact h
  | succ j ih => exact LT.wu (ih (by omega)) (lt_cj ht (by omega))
theorem mv_LT {ω w : fOm} {fr tt : Int32} (h : LT ω w) (hf : 290 ≤ fr ∧ fr ≤ 767) (ht : 290 ≤ tt ∧ tt ≤ 767) : LT ω (m_mv w fr tt) := clear_LT (mvL_LT h ht (Nat.le_refl 3)) hf
theorem tnL_LT {ω w : fOm} {l y : Int32} (h : LT ω w) (hl : 0 ≤ l ∧ l ≤ 4) (hy : 0 ≤ y ∧ y ≤ 32) {j : Nat} (hj : j ≤ (y - 1).toNatClampNeg) : LT ω (m_tnL l (y - 1) w j) := by
  induction j with
  | zero => exact h
  | succ j ih => exact mv_LT (ih (by omega)) (mc_rg hl (tn_rg hy (by omega)).1) (mc_rg hl (tn_rg hy (by omega)).2)
theorem turn_LT {ω w : fOm} {l : Int32} (h : LT ω w) (hl : 0 ≤ l ∧ l ≤ 4) (hW : MW (w 648)) : LT ω (m_turn w l) := LT.wu (LT.wu (LT.wu (tnL_LT h hl (hW.L hl) (Nat.le_refl _)) (lt_c (mc0_rg hl)).1) (lt_c (mc0_rg hl)).2.1) (lt_c (mc0_rg hl)).2.2
theorem did_LT {ω w : fOm} {d : Int32} (h : LT ω w) (hd : 0 ≤ d ∧ d ≤ 11) : LT ω (m_did w d) := LT.wu h (lt_D hd (by decide))
/-- grown by at most k -/
def GL (ω w : fOm) (r k : Nat) : Prop := ∃ n : Nat, n ≤ k ∧ w 648 (10 + 6 * r) = ω 648 (10 + 6 * r) + nI n
theorem GL.of {ω w : fOm} {r : Nat} (h : LT ω w) (hr : r < 5) : GL ω w r 0 := ⟨0, Nat.le_refl 0, by rw [h r hr, nI_0, Int32.add_zero]⟩
theorem GL.tr {a b c : fOm} {r k k2 : Nat} (h : GL a b r k) (h2 : GL b c r k2) : GL a c r (k + k2) := by
  obtain ⟨n, hn, e⟩ := h
  obtain ⟨m, hm, e2⟩ := h2
  exact ⟨n + m, by omega, by rw [e2, e, Int32.add_assoc, nI_add]⟩
theorem GL.mo {a b : fOm} {r k k2 : Nat} (h : GL a b r k) (hk : k ≤ k2) : GL a b r k2 := by
  obtain ⟨n, hn, e⟩ := h
  exact ⟨n, by omega, e⟩
theorem fade_GL {w : fOm} {l r : Nat} {c b_ : Int32} (hl : l < 5) (hr : r < 5) (hc : 290 ≤ c ∧ c ≤ 767) : GL w (m_fade w (nI l) c b_) r (if r = l then 1 else 0) := by
  have h1 : LT w (wu w 648 (c + 1).toNatClampNeg (w 648 (c + 1).toNatClampNeg - b_)) := LT.wu LT.rf (lt_c hc).2.1
  unfold m_fade
  try dsimp only
  split
  · exact (GL.of h1 hr).mo (Nat.zero_le _)
  · have h2 := clear_LT h1 hc
    by_cases e : r = l
    · subst e
      rw [if_pos rfl]
      refine ⟨1, Nat.le_refl 1, ?_⟩
      rw [show (2 : Int32) = nI 2 from rfl, moreL_r hr (by omega), show 8 + 6 * r + 2 = 10 + 6 * r by omega, pk_us, h2 r hr]
      rfl
    · rw [if_neg e]
      refine ⟨0, Nat.le_refl 0, ?_⟩
      rw [show (2 : Int32) = nI 2 from rfl, moreL_r hl (by omega), pk_un (by omega), h2 r hr, nI_0, Int32.add_zero]
theorem faL_GL {w : fOm} {l r : Nat} (hl : l < 5) (hr : r < 5) (j : Nat) (hj : j ≤ 32) : GL w (m_faL (nI l) w j) r (if r = l then j else 0) := by
  induction j with
  | zero => exact (GL.of LT.rf hr).mo (Nat.zero_le _)
  | succ j ih =>
    have i := ih (by omega)
    show GL w (if m_faL (nI l) w j 648 (mc (nI l) (nI j)).toNatClampNeg < 0 then m_faL (nI l) w j else m_fade (m_faL (nI l) w j) (nI l) (mc (nI l) (nI j)) (m_faL (nI l) w j 648 0)) r _
    split
    · exact i.mo (by split <;> omega)
    · exact (i.tr (fade_GL hl hr (mc_rg (nj4 hl) (nj_rg (by omega))))).mo (by split <;> omega)
theorem act_GL {w : fOm} {d r : Nat} (hW : MW (w 648)) (hd : d < 12) (hr : r < 5) : GL w (m_act w (nI d)) r 1 := by
  have hd2 := nj11 hd
  have hc := actc_rg hW hd2
  have z : GL w w r 1 := (GL.of LT.rf hr).mo (by omega)
  have fin : ∀ {w2 : fOm}, LT w w2 → GL w w2 r 1 := fun h => (GL.of h hr).mo (by omega)
  unfold m_act
  split
  · split
    · exact z
    · refine fin ?_
      unfold m_amp
      try dsimp only
      have h1 : ∀ v u, LT w (wu (wu w 648 (m_actc w (nI d) + 1).toNatClampNeg v) 648 (iD (nI d) 5) u) := fun v u => LT.wu (LT.wu LT.rf (lt_c hc).2.1) (lt_D hd2 (by decide))
      split
      · exact h1 _ _
      · exact did_LT (h1 _ _) hd2
  · split
    · rename_i h1
      split
      · exact z
      · have hk := nt4_K (c := m_actc w (nI d)) hW hd2 h1
        have hL : ∀ j, j ≤ 7 → LT w (m_ntL (nI d) w j) := by
          intro j
          induction j with
          | zero => exact fun _ => LT.rf
          | succ j ih => exact fun hj => LT.wu (ih (by omega)) (lt_D hd2 (nt_w (by omega)).1)
        have h4 : LT w (m_nt4 w (nI d) (m_actc w (nI d))) := did_LT (LT.wu (LT.wu (hL 7 (Nat.le_refl 7)) (lt_D hd2 (by decide))) (lt_D hd2 (by decide))) hd2
        obtain ⟨l, hl, el⟩ := rgN (n := 4) (hk.2.D1 hd2) rfl
        unfold m_note
        rw [el]
        exact ((GL.of h4 hr).tr (fade_GL (by omega) hr hc)).mo (by split <;> omega)
    · split
      · rename_i h2
        split
        · exact z
        · split
          · exact z
          · rename_i h5
            refine fin ?_
            have hs := hW.D5 hd2 (Or.inr h2)
            have hk := pi0_K hW hd2 hc ⟨Int32.not_le.mp h5, hs.2⟩
            have h0 : LT w (m_pi0 w (nI d) (m_actc w (nI d))) := LT.wu (shine_LT LT.rf (hW.D1 hd2) hc) (lt_D hd2 (by decide))
            have hL : ∀ j, j ≤ 11 → LT w (m_piL (nI d) (m_pi0 w (nI d) (m_actc w (nI d))) j) := by
              intro j
              induction j with
              | zero => exact fun _ => h0
              | succ j ih => exact fun hj => LT.wu (ih (by omega)) (lt_D hd2 (pi_w (by omega)).1)
            exact did_LT (hL _ (tn_le (n := 11) hk.2.2.2 rfl)) hd2
      · split
        · split
          · exact fin (did_LT (LT.wu LT.rf (lt_c hc).1) hd2)
          · exact z
        · split
          · have k1 : KPw w (m_clear w (m_actc w (nI d))) := clear_K KP.rf hc
            exact fin (did_LT (moreL_LT (m := 3) (clear_LT LT.rf hc) ((k1.mw hW).D1 hd2) (by omega) (by omega)) hd2)
          · exact z
theorem crossed_LT {ω w : fOm} {j fr tt : Int32} (h : LT ω w) (hj : 0 ≤ j ∧ j ≤ 3) (hf : 0 ≤ fr ∧ fr ≤ 4) (ht : 0 ≤ tt ∧ tt ≤ 4) : LT ω (m_crossed w j fr tt) := LT.wu (moreL_LT (m := 4) (moreL_LT (m := 5) h hf (by omega) (by omega)) ht (by omega) (by omega)) (lt_J hj (by decide))
theorem cross_LT {ω : fOm} {j : Int32} (hW : MW (ω 648)) (hj : 0 ≤ j ∧ j ≤ 3) : LT ω (m_cross ω j) := by
  have hJ := hW.J hj
  have h2 : LT ω (m_cr2 ω j (m_crG ω j) (m_crC ω j)) := by
    have k1 : LT ω (if m_crG ω j = 0 then ω else m_crossed ω j (ω 648 (iJ j 0)) (ω 648 (iJ j 2))) := by
      split
      · exact LT.rf
      · exact crossed_LT LT.rf hj hJ.1 hJ.2.2.1
    have k2 : KPw ω (if m_crG ω j = 0 then ω else m_crossed ω j (ω 648 (iJ j 0)) (ω 648 (iJ j 2))) := cr1_K hW hj
    have hJ2 := (k2.mw hW).J hj
    unfold m_cr2
    try dsimp only
    split
    · exact k1
    · exact crossed_LT k1 hj hJ2.2.2.1 hJ2.1
  have hs : ∀ (n f : Int32) (w : fOm), LT ω w → (290 ≤ n ∧ n ≤ 767) → (290 ≤ f ∧ f ≤ 767) → ∀ j, j ≤ 3 → LT ω (m_swL n f w j) := by
    intro n f w h hn hf j
    induction j with
    | zero => exact fun _ => h
    | succ j ih => exact fun hj => LT.wu (LT.wu (ih (by omega)) (lt_cj hn (by omega))) (lt_cj hf (by omega))
  unfold m_cross m_sw
  split
  · exact h2
  · exact hs _ _ _ h2 (crn_rg hW hj) (crf_rg hW hj) 3 (Nat.le_refl 3)
theorem rec_LT {ω : fOm} {d : Int32} (hd : 0 ≤ d ∧ d ≤ 11) : LT ω (m_rec ω d) := by
  unfold m_rec
  split
  · exact LT.wu LT.rf (lt_D hd (by decide))
  · exact LT.rf
theorem q1_GL {w : fOm} {r : Nat} (hW : MW (w 648)) (hr : r < 5) {j : Nat} (hj : j ≤ 5) : GL w (m_q1 w j) r (if r < j then 32 else 0) := by
  induction j with
  | zero => exact (GL.of LT.rf hr).mo (Nat.zero_le _)
  | succ j ih =>
    have i := ih (by omega)
    have k := q1_K (w := w) (ω := w) ⟨KQ.rf, hW⟩ (j := j) (by omega)
    have hl := nj4 (j := j) (by omega)
    have k1 : KPw (m_q1 w j) (m_turn (m_q1 w j) (nI j)) := turn_K KP.rf hl k.2
    have t := GL.of (turn_LT (LT.rf (ω := m_q1 w j)) hl k.2) hr
    have hP := tn_le (n := 32) ((k1.mw k.2).L hl) rfl
    have f := faL_GL (w := m_turn (m_q1 w j) (nI j)) (l := j) (r := r) (by omega) hr _ hP
    refine ((i.tr t).tr f).mo ?_
    by_cases e : r = j
    · subst e
      rw [if_pos rfl, if_neg (by omega), if_pos (by omega)]
      omega
    · rw [if_neg e]
      split <;> split <;> omega
theorem q2_GL {w : fOm} {r : Nat} (hW : MW (w 648)) (hr : r < 5) {j : Nat} (hj : j ≤ 12) : GL w (m_q2 w j) r j := by
  induction j with
  | zero => exact GL.of LT.rf hr
  | succ j ih => exact (ih (by omega)).tr (act_GL (q2_K (w := w) (ω := w) ⟨KQ.rf, hW⟩ (j := j) (by omega)).2 (by omega) hr)
theorem q3_LT {w : fOm} (hW : MW (w 648)) {j : Nat} (hj : j ≤ 4) : LT w (m_q3 w j) := by
  induction j with
  | zero => exact LT.rf
  | succ j ih => exact (ih (by omega)).tr (cross_LT (q3_K (w := w) (ω := w) ⟨KQ.rf, hW⟩ (j := j) (by omega)).2 (nj3 (by omega)))
theorem q4_LT {w : fOm} {j : Nat} (hj : j ≤ 12) : LT w (m_q4 w j) := by
  induction j with
  | zero => exact LT.rf
  | succ j ih => exact (ih (by omega)).tr (rec_LT (nj11 (by omega)))
theorem pass_GL {w : fOm} {r : Nat} (hW : MW (w 648)) (hr : r < 5) : GL w (m_pass w) r 44 := by
  have h1 := q1_K (w := w) (ω := w) ⟨KQ.rf, hW⟩ hW.n5
  have h2 := q2_K (w := m_q1 w (w 648 5).toNatClampNeg) (ω := m_q1 w (w 648 5).toNatClampNeg) ⟨KQ.rf, h1.2⟩ h1.2.n6
  have h3 := q3_K (w := m_q2 (m_q1 w (w 648 5).toNatClampNeg) (m_q1 w (w 648 5).toNatClampNeg 648 6).toNatClampNeg) (ω := m_q2 (m_q1 w (w 648 5).toNatClampNeg) (m_q1 w (w 648 5).toNatClampNeg 648 6).toNatClampNeg) ⟨KQ.rf, h2.2⟩ h2.2.n7
  have g1 := q1_GL hW hr hW.n5
  have g2 := q2_GL h1.2 hr h1.2.n6
  have g3 := GL.of (q3_LT h2.2 h2.2.n7) hr
  have g4 := GL.of (q4_LT (w := m_q3 (m_q2 (m_q1 w (w 648 5).toNatClampNeg) (m_q1 w (w 648 5).toNatClampNeg 648 6).toNatClampNeg) (m_q2 (m_q1 w (w 648 5).toNatClampNeg) (m_q1 w (w 648 5).toNatClampNeg 648 6).toNatClampNeg 648 7).toNatClampNeg) h3.2.n6) hr
  have n6 := h1.2.n6
  have g := (((g1.tr g2).tr g3).tr g4)
  have g5 : GL w (m_pass w) r ((if r < (w 648 5).toNatClampNeg then 32 else 0) + (m_q1 w (w 648 5).toNatClampNeg 648 6).toNatClampNeg + 0 + 0 + 0) := g.tr (GL.of (LT.wu LT.rf (fun r hr => by omega)) hr)
  exact g5.mo (by split <;> omega)
theorem pN_GL {w : fOm} {r : Nat} (hW : MW (w 648)) (hr : r < 5) (n : Nat) : GL w (m_pN w n) r (44 * n) := by
  induction n with
  | zero => exact GL.of LT.rf hr
  | succ n ih => exact (ih.tr (pass_GL (pN_K hW n).2 hr)).mo (by omega)
/-! ===== changes ===== -/
def TK (a : Nat → Int32) (T : Nat) : Prop := ∃ n : Nat, n ≤ T ∧ a 4 = nI n ∧ ∀ r, r < 5 → ∃ x : Nat, x ≤ 44 * n ∧ a (10 + 6 * r) = nI x
def Done (C W : fOm) (b : Nat) (R : Int32) (M : fOm) (m : Int32 × fOm) (K : fOm) (T : Nat) : Prop :=
  (R < 0 ∧ m = (R, M) ∧ W = C) ∨ (0 ≤ R ∧ m.1 = R ∧ Mod aS K m.2 ∧ SR W b (m.2 648) ∧ MW (m.2 648) ∧ TK (m.2 648) (T + 200))
theorem TK.mo {a a2 : Nat → Int32} {T T2 : Nat} (h : TK a T) (e : a2 4 = a 4) (hT : T ≤ T2) (e2 : ∀ r, r < 5 → a2 (10 + 6 * r) = a (10 + 6 * r)) : TK a2 T2 := by
  obtain ⟨n, hn, en, ex⟩ := h
  refine ⟨n, by omega, by rw [e]; exact en, fun r hr => ?_⟩
  rw [e2 r hr]
  exact ex r hr
theorem set_D {C M : fOm} {b : Nat} {s v : Int32} {T : Nat} (h : SR C b (M 648)) (hW : MW (M 648)) (hT : TK (M 648) T) : Done C (f_chSetW C b s v) b (f_chSetR C b s v) M (m_set M s v) (m_keep M) T := by
  unfold f_chSetW f_chSetR m_set
  rcases btw_k (x := s) 0 3 (by omega) (by omega) with ⟨n, n1, n2, n3, n4⟩ | ⟨n1, -⟩
  · have n4 : ¬ f_btw s 0 3 = 0 := n4
    rw [if_neg n4, if_neg n4, if_neg n4]
    have key : ∀ n, n ≤ 3 → sV 0 n = (if nI n = 3 then 100 else 0) ∧ sV 1 n = m_hi (nI n) ∧ (n = 0 → 0 ≤ sV 0 n ∧ sV 1 n ≤ 200) ∧ (n = 1 → 0 ≤ sV 0 n ∧ sV 1 n ≤ 200) ∧ (n = 2 → 0 ≤ sV 0 n ∧ sV 1 n ≤ 200) ∧ (n = 3 → 100 ≤ sV 0 n ∧ sV 1 n ≤ 1000) ∧ cK n = false := by decide +kernel
    obtain ⟨k1, k2, k3, k4, k5, k6, k7⟩ := key n n2
    have et : s.toNatClampNeg = n := by rw [n3, nI_clamp (by omega)]
    rw [et, n3, ← k1, ← k2]
    by_cases c : f_btw v (sV 0 n) (sV 1 n) = 0
    · rw [if_pos c, if_pos c, if_pos c]
      exact Or.inl ⟨by decide, rfl, rfl⟩
    · rw [if_neg c, if_neg c, if_neg c, keep_648]
      have hb := btw_pl c
      have e0 : M 648 n = C (b + 1) n := h.1 n (by omega)
      have ew : wu (m_keep M) 648 n v 648 = upd (M 648) n v := by rw [wu_648, keep_648]
      refine Or.inr ⟨?_, e0, Mod.wu Mod.rf rfl, ?_, ?_, ?_⟩
      · rw [← e0]
        have hS := h.2.2.1
        unfold SB at hS
        rcases (show n = 0 ∨ n = 1 ∨ n = 2 ∨ n = 3 by omega) with rfl | rfl | rfl | rfl
        · exact hS.1.1
        · exact hS.2.1.1
        · exact hS.2.2.1.1
        · exact Int32.le_trans (by decide) hS.2.2.2.1
      · show SR _ b (wu (m_keep M) 648 n v 648)
        rw [ew]
        refine h.hdr (fun q h1 h2 => wu_ne (by omega)) (fun i hi => pk_un (by omega)) (fun i hi => ?_) (fun i hi hi2 => ?_) ?_
        · rw [wu_i]
          by_cases e : i = n
          · rw [if_pos e, e, pk_us]
          · rw [if_neg e, pk_un e]
            exact h.1 i hi
        · rw [pk_un (by omega), wu_ne (by omega)]
          exact h.2.1 i hi hi2
        · have hS := h.2.2.1
          unfold SB at hS ⊢
          rcases (show n = 0 ∨ n = 1 ∨ n = 2 ∨ n = 3 by omega) with rfl | rfl | rfl | rfl
          · rw [pk_us, pk_un (by decide), pk_un (by decide), pk_un (by decide)]
            exact ⟨⟨Int32.le_trans (k3 rfl).1 hb.1, Int32.le_trans hb.2 (k3 rfl).2⟩, hS.2⟩
          · rw [pk_un (by decide), pk_us, pk_un (by decide), pk_un (by decide)]
            exact ⟨hS.1, ⟨Int32.le_trans (k4 rfl).1 hb.1, Int32.le_trans hb.2 (k4 rfl).2⟩, hS.2.2⟩
          · rw [pk_un (by decide), pk_un (by decide), pk_us, pk_un (by decide)]
            exact ⟨hS.1, hS.2.1, ⟨Int32.le_trans (k5 rfl).1 hb.1, Int32.le_trans hb.2 (k5 rfl).2⟩, hS.2.2.2⟩
          · rw [pk_un (by decide), pk_un (by decide), pk_un (by decide), pk_us]
            exact ⟨hS.1, hS.2.1, hS.2.2.1, ⟨Int32.le_trans (k6 rfl).1 hb.1, Int32.le_trans hb.2 (k6 rfl).2⟩⟩
      · show MW (wu (m_keep M) 648 n v 648)
        exact (show KPw (m_keep M) (wu (m_keep M) 648 n v) from KPw.wu KP.rf k7).mw (by rw [keep_648]; exact hW)
      · show TK (wu (m_keep M) 648 n v 648) (T + 200)
        rw [ew]
        exact hT.mo (pk_un (by omega)) (by omega) (fun r hr => pk_un (by omega))
  · rw [if_pos (show f_btw s 0 3 = 0 from n1), if_pos (show f_btw s 0 3 = 0 from n1), if_pos (show f_btw s 0 3 = 0 from n1)]
    exact Or.inl ⟨by decide, rfl, rfl⟩
/-- a device where a loop more may be there -/
theorem DR.gr {C C2 : fOm} {k d : Nat} {a a2 : Nat → Int32} (h : DR C k a d) (h0 : C2 k = C k) (h1 : C2 (k + 1) = C (k + 1)) (ha : ∀ i, inD d i → a2 i = a i) (h5 : a 5 ≤ a2 5) (h8 : ∀ l, nI l < a 5 → l < 5 → a2 (8 + 6 * l) = a (8 + 6 * l)) (hn : a 5 ≤ 5) : DR C2 k a2 d := by
  have e : ∀ j, j < 19 → a2 (38 + 19 * d + j) = a (38 + 19 * d + j) := fun j hj => ha _ ⟨by omega, by omega⟩
  have e0 := e 0 (by omega)
  have e1 := e 1 (by omega)
  have e2 := e 2 (by omega)
  have e3 := e 3 (by omega)
  have e4 := e 4 (by omega)
  have e5 := e 5 (by omega)
  have e6 := e 6 (by omega)
  rw [show 38 + 19 * d + 0 = 38 + 19 * d by omega] at e0
  rw [show 38 + 19 * d + 1 = 39 + 19 * d by omega] at e1
  rw [show 38 + 19 * d + 2 = 40 + 19 * d by omega] at e2
  rw [show 38 + 19 * d + 3 = 41 + 19 * d by omega] at e3
  rw [show 38 + 19 * d + 4 = 42 + 19 * d by omega] at e4
  rw [show 38 + 19 * d + 5 = 43 + 19 * d by omega] at e5
  rw [show 38 + 19 * d + 6 = 44 + 19 * d by omega] at e6
  have hl := h.rl hn
  obtain ⟨g1, g2, g3⟩ := h
  have hx : nI (a (39 + 19 * d)).toNatClampNeg < a 5 := by rw [tn_nI g2.1.1]; exact g2.1.2
  unfold DR
  rw [e0, e1, e2, e3, e4, e5, e6, h0, h1, h8 _ hx hl]
  refine ⟨g1, ⟨⟨g2.1.1, Int32.lt_of_lt_of_le g2.1.2 h5⟩, g2.2⟩, ?_⟩
  rcases g3 with q | ⟨q1, q2, q3, q4⟩ | ⟨q1, q2, q3, q4⟩ | q | q
  · exact Or.inl q
  · refine Or.inr (Or.inl ⟨q1, q2, q3, fun i hi => ?_⟩)
    have hi2 := Nat.lt_of_lt_of_le hi (tn_le (n := 8) q3 rfl)
    have := e (7 + i) (by omega)
    rw [show 38 + 19 * d + (7 + i) = 45 + 19 * d + i by omega] at this
    rw [this]
    exact q4 i hi
  · refine Or.inr (Or.inr (Or.inl ⟨q1, q2, q3, fun i hi => ?_⟩))
    have hi2 := Nat.lt_of_lt_of_le hi (tn_le (n := 12) q3 rfl)
    have := e (7 + i) (by omega)
    rw [show 38 + 19 * d + (7 + i) = 45 + 19 * d + i by omega] at this
    rw [this]
    exact q4 i hi
  · exact Or.inr (Or.inr (Or.inr (Or.inl q)))
  · exact Or.inr (Or.inr (Or.inr (Or.inr q)))
theorem JR.gr {C C2 : fOm} {k j : Nat} {a a2 : Nat → Int32} (h : JR C k a j) (h0 : C2 k = C k) (ha : ∀ i, inJ j i → a2 i = a i) (h5 : a 5 ≤ a2 5) (h8 : ∀ l, nI l < a 5 → l < 5 → a2 (8 + 6 * l) = a (8 + 6 * l)) (hn : a 5 ≤ 5) : JR C2 k a2 j := by
  obtain ⟨g1, g2, g3, g4, g5⟩ := h
  have e0 := ha (266 + 6 * j) ⟨by omega, by omega⟩
  have e1 := ha (267 + 6 * j) ⟨by omega, by omega⟩
  have e2 := ha (268 + 6 * j) ⟨by omega, by omega⟩
  have e3 := ha (269 + 6 * j) ⟨by omega, by omega⟩
  have hx : nI (a (266 + 6 * j)).toNatClampNeg < a 5 := by rw [tn_nI g2.1.1]; exact g2.1.2
  have hx2 : nI (a (268 + 6 * j)).toNatClampNeg < a 5 := by rw [tn_nI g3.1.1]; exact g3.1.2
  unfold JR
  rw [e0, e1, e2, e3, h0, h8 _ hx (lt5 g2.1 hn), h8 _ hx2 (lt5 g3.1 hn)]
  exact ⟨fun i hi => (ha _ ⟨by omega, by omega⟩).trans (g1 i hi), ⟨⟨g2.1.1, Int32.lt_of_lt_of_le g2.1.2 h5⟩, g2.2⟩, ⟨⟨g3.1.1, Int32.lt_of_lt_of_le g3.1.2 h5⟩, g3.2⟩, g4, g5⟩
theorem z32_c {ω : fOm} {k n : Nat} : ∀ i, f_z32 ω k n k i = if i < n then 0 else ω k i := by
  induction n with
  | zero => intro i; rw [if_neg (by omega)]; rfl
  | succ n ih =>
    intro i
    show wu (f_z32 ω k n) k n 0 k i = _
    rw [wu_i]
    by_cases e : i = n
    · rw [if_pos e, if_pos (by omega)]
    · rw [if_neg e, ih i]
      by_cases h : i < n
      · rw [if_pos h, if_pos (by omega)]
      · rw [if_neg h, if_neg (by omega)]
theorem begin_c {ω : fOm} {k : Nat} {pl : Int32} : f_begin ω k pl k 0 = pl ∧ (∀ p, p < 32 → f_begin ω k pl (k + 2) p = 0) ∧ ∀ t, t < 5 → f_begin ω k pl (k + 4) t = 0 := by
  have m : ∀ (w : fOm) (k n q : Nat), q ≠ k → f_z32 w k n q = w q := fun w k n q h => z32_M q h
  unfold f_begin
  refine ⟨by rw [m _ _ _ _ (by omega), m _ _ _ _ (by omega), wu_i, if_pos rfl], fun p hp => by rw [m _ _ _ _ (by omega), z32_c, if_pos hp], fun t ht => by rw [z32_c, if_pos ht]⟩
theorem inc5 {x : Int32} {N : Nat} (h : 0 ≤ x ∧ x ≤ nI N) (hN : N < 1000) (c : x < nI N) : ∃ n : Nat, n < N ∧ x = nI n ∧ x.toNatClampNeg = n ∧ x + 1 = nI (n + 1) ∧ (x + 1).toNatClampNeg = n + 1 := by
  obtain ⟨n, hn, e⟩ := rgN (n := N) h (nI_toInt (by omega))
  rw [e] at c
  have h1 := Int32.lt_iff_toInt_lt.mp c
  rw [nI_toInt (by omega), nI_toInt (by omega)] at h1
  exact ⟨n, by omega, e, by rw [e, nI_clamp (by omega)], by rw [e, nI_1], by rw [e, nI_1, nI_clamp (by omega)]⟩
theorem full5 {x : Int32} {N : Nat} (h : 0 ≤ x ∧ x ≤ nI N) : x = nI N ↔ ¬ x < nI N :=
  ⟨fun e => by rw [e]; exact fun q => Int32.lt_irrefl q, fun c => Int32.le_antisymm h.2 (Int32.not_lt.mp c)⟩
theorem loop_D {C M : fOm} {b : Nat} {pl : Int32} {T : Nat} (h : SR C b (M 648)) (hW : MW (M 648)) (hT : TK (M 648) T) : Done C (f_addRingW C b pl) b (f_addRingR C b pl) M (m_loop M pl) (m_keep M) T := by
  obtain ⟨e5, e6, e7, e4⟩ := h.c5
  unfold f_addRingR
  unfold f_addRingW m_loop
  by_cases c : f_btw pl 4 32 = 0
  · rw [if_pos c, if_pos c, if_pos c]
    exact Or.inl ⟨by decide, rfl, rfl⟩
  · rw [if_neg c, if_neg c, if_neg c, ← e5]
    have hpl := btw_pl c
    by_cases c5 : M 648 5 < 5
    · rw [if_pos c5, if_pos c5, if_neg (fun e => by rw [e] at c5; exact absurd c5 (by decide))]
      obtain ⟨n, hn, en, et, e1, et1⟩ := inc5 (N := 5) h.W.1 (by decide) c5
      rw [et]
      have hb5 : f_begin C (b + 5 + 5 * n) pl b 5 = nI n := by rw [begin_M b (by show ¬ (_ ≤ b ∧ _); omega), ← e5, en]
      obtain ⟨b1, b2, b3⟩ := begin_c (ω := C) (k := b + 5 + 5 * n) (pl := pl)
      have bne : ∀ q, ¬ (b + 5 + 5 * n ≤ q ∧ q < b + 5 + 5 * n + 5) → f_begin C (b + 5 + 5 * n) pl q = C q := fun q hq => begin_M q hq
      have em : m_loopW (m_keep M) pl 648 = upd (upd (M 648) (8 + 6 * n) pl) 5 (nI (n + 1)) := by
        unfold m_loopW
        try dsimp only
        rw [keep_648, en, show (8 : Int32) = nI 8 from rfl, show (6 : Int32) = nI 6 from rfl, pk_mul, nI_add, Int32.add_zero, nI_clamp (by omega), wu_648, wu_648, keep_648, pk_un (by omega), en, nI_1]
      have eR : wu (f_begin C (b + 5 + 5 * n) pl) b 5 (f_begin C (b + 5 + 5 * n) pl b 5 + 1) b 5 - 1 = nI n := by rw [wu_i, if_pos rfl, hb5, nI_1, nI_pred]
      rw [eR, hb5, nI_1]
      have m5 : m_loopW (m_keep M) pl 648 5 = nI (n + 1) := by rw [em, pk_us]
      refine Or.inr ⟨nI_pos' (by omega), by show m_loopW (m_keep M) pl 648 5 - 1 = nI n; rw [m5, nI_pred], Mod.wu (Mod.wu Mod.rf rfl) rfl, ?_, ?_, ?_⟩
      · show SR _ b (m_loopW (m_keep M) pl 648)
        rw [em]
        have a5 : upd (upd (M 648) (8 + 6 * n) pl) 5 (nI (n + 1)) 5 = nI (n + 1) := pk_us
        have lo : ∀ i, i ≠ 5 → i ≠ 8 + 6 * n → upd (upd (M 648) (8 + 6 * n) pl) 5 (nI (n + 1)) i = M 648 i := fun i h1 h2 => by rw [pk_un h1, pk_un h2]
        have Wne : ∀ q, q ≠ b → ¬ (b + 5 + 5 * n ≤ q ∧ q < b + 5 + 5 * n + 5) → wu (f_begin C (b + 5 + 5 * n) pl) b 5 (nI (n + 1)) q = C q := fun q h1 h2 => by rw [wu_ne h1, bne q h2]
        have le5 : M 648 5 ≤ nI (n + 1) := by rw [en]; exact nI_le (by omega) (by omega)
        have l8 : ∀ l, nI l < M 648 5 → l < 5 → upd (upd (M 648) (8 + 6 * n) pl) 5 (nI (n + 1)) (8 + 6 * l) = M 648 (8 + 6 * l) := fun l h1 h2 => lo _ (by omega) (by
          rw [en] at h1
          have := (nI_ltI (by omega) (by omega)).mp h1
          omega)
        refine ⟨fun i hi => ?_, fun i hi hi2 => ?_, ?_, ?_, fun r hr => ?_, fun r hr hr2 => ?_, fun d hd => ?_, fun j hj => ?_⟩
        · rw [lo i (by omega) (by omega), Wne _ (by omega) (by omega)]
          exact h.1 i hi
        · rw [wu_i]
          by_cases e : i = 5
          · subst e
            rw [if_pos rfl, a5]
          · rw [if_neg e, lo i e (by omega), bne b (by omega)]
            exact h.2.1 i hi hi2
        · unfold SB
          rw [lo 0 (by omega) (by omega), lo 1 (by omega) (by omega), lo 2 (by omega) (by omega), lo 3 (by omega) (by omega)]
          exact h.2.2.1
        · unfold SN
          rw [a5, lo 6 (by omega) (by omega), lo 7 (by omega) (by omega)]
          exact ⟨⟨nI_pos' (by omega), nI_le (b := 5) (by omega) (by decide)⟩, h.W.2⟩
        · rw [a5, nI_clamp (by omega)] at hr
          by_cases e : r = n
          · subst e
            have hB := h.2.2.2.2.2.1 r hn (by rw [et]; exact Nat.le_refl _)
            have w0 : wu (f_begin C (b + 5 + 5 * r) pl) b 5 (nI (r + 1)) (b + 5 + 5 * r) 0 = pl := by rw [wu_ne (by omega)]; exact b1
            refine ⟨by rw [pk_un (by omega), pk_us, w0], by rw [w0]; exact hpl, fun t ht => ?_, fun p hp => ?_⟩
            · rw [lo _ (by omega) (by omega), wu_ne (by omega), b3 t ht]
              exact hB.1 t ht
            · rw [w0] at hp
              have hp32 : p < 32 := Nat.lt_of_lt_of_le hp (tn_le (n := 32) ⟨Int32.le_trans (by decide) hpl.1, hpl.2⟩ rfl)
              refine Or.inr ⟨by rw [wu_ne (by omega)]; exact b2 p hp32, ?_⟩
              rw [lo _ (by omega) (by omega), lo _ (by omega) (by omega), lo _ (by omega) (by omega)]
              exact hB.2 p hp32
          · exact (h.2.2.2.2.1 r (by rw [et]; omega)).fr (fun q q1 q2 => Wne q (by omega) (by omega)) (fun i hi => lo i (by unfold inL at hi; omega) (by unfold inL at hi; omega)) (lo _ (by omega) (by omega))
        · rw [a5, nI_clamp (by omega)] at hr2
          obtain ⟨x1, x2⟩ := h.2.2.2.2.2.1 r hr (by rw [et]; omega)
          refine ⟨fun t ht => (lo _ (by omega) (by omega)).trans (x1 t ht), fun p hp => ?_⟩
          rw [lo _ (by omega) (by omega), lo _ (by omega) (by omega), lo _ (by omega) (by omega)]
          exact x2 p hp
        · rw [lo 6 (by omega) (by omega)] at hd
          have := h.W.n6
          exact (h.2.2.2.2.2.2.1 d hd).gr (Wne _ (by omega) (by omega)) (Wne _ (by omega) (by omega)) (fun i hi => lo i (by unfold inD at hi; omega) (by unfold inD at hi; omega)) (by rw [a5]; exact le5) l8 h.W.1.2
        · rw [lo 7 (by omega) (by omega)] at hj
          have := h.W.n7
          exact (h.2.2.2.2.2.2.2 j hj).gr (Wne _ (by omega) (by omega)) (fun i hi => lo i (by unfold inJ at hi; omega) (by unfold inJ at hi; omega)) (by rw [a5]; exact le5) l8 h.W.1.2
      · show MW (m_loopW (m_keep M) pl 648)
        rw [em]
        obtain ⟨a1, a2, a3, a4, a6, a7, a8⟩ := hW
        have lo : ∀ i, i ≠ 5 → i ≠ 8 + 6 * n → upd (upd (M 648) (8 + 6 * n) pl) 5 (nI (n + 1)) i = M 648 i := fun i h1 h2 => by rw [pk_un h1, pk_un h2]
        refine ⟨by rw [pk_us]; exact ⟨nI_pos' (by omega), nI_le (b := 5) (by omega) (by decide)⟩, by rw [lo 6 (by omega) (by omega)]; exact a2, by rw [lo 7 (by omega) (by omega)]; exact a3, fun l hl => ?_, fun d hd => ?_, fun j hj => ?_, fun d hd hk => ?_⟩
        · by_cases e : l = n
          · subst e
            rw [pk_un (by omega), pk_us]
            exact ⟨Int32.le_trans (by decide) hpl.1, hpl.2⟩
          · rw [lo _ (by omega) (by omega)]
            exact a4 l hl
        · rw [lo (38 + 19 * d + 1) (by omega) (by omega), lo (38 + 19 * d + 2) (by omega) (by omega)]
          exact a6 d hd
        · rw [lo (266 + 6 * j) (by omega) (by omega), lo (266 + 6 * j + 1) (by omega) (by omega), lo (266 + 6 * j + 2) (by omega) (by omega), lo (266 + 6 * j + 3) (by omega) (by omega)]
          exact a7 j hj
        · rw [lo (38 + 19 * d) (by omega) (by omega)] at hk
          rw [lo (38 + 19 * d + 5) (by omega) (by omega)]
          exact a8 d hd hk
      · show TK (m_loopW (m_keep M) pl 648) (T + 200)
        rw [em]
        exact hT.mo (by rw [pk_un (by omega), pk_un (by omega)]) (by omega) (fun r hr => by rw [pk_un (by omega), pk_un (by omega)])
    · rw [if_neg c5, if_neg c5, if_pos (show M 648 5 = 5 from (full5 (N := 5) h.W.1).mpr c5)]
      exact Or.inl ⟨by decide, rfl, rfl⟩
theorem btwc {x lo hi : Int32} (h : ¬ f_btw x lo hi = 0) : lo ≤ x ∧ x ≤ hi := btw_pl h
/-- what fits -/
theorem fits_c {k o t : Int32} (h : ¬ f_fits k o t = 0) : (k = 0 ∧ (1 ≤ o ∧ o ≤ 500) ∧ (1 ≤ t ∧ t ≤ 2000)) ∨ (k = 1 ∧ o = 0 ∧ t = 0) ∨ (k = 2 ∧ o = 0 ∧ t = 0) ∨ (k = 3 ∧ (0 ≤ o ∧ o ≤ 99) ∧ (0 ≤ t ∧ t ≤ 99)) ∨ (k = 4 ∧ (0 ≤ o ∧ o ≤ 99) ∧ t = 0) := by
  unfold f_fits at h
  by_cases k0 : k = 0
  · rw [if_pos k0] at h
    by_cases c1 : f_btw o 1 500 = 0
    · rw [if_pos c1] at h; exact absurd rfl h
    · rw [if_neg c1] at h
      by_cases c2 : f_btw t 1 2000 = 0
      · rw [if_pos c2] at h; exact absurd rfl h
      · exact Or.inl ⟨k0, btw_pl c1, btw_pl c2⟩
  · rw [if_neg k0] at h
    by_cases k1 : k = 1
    · rw [if_pos k1] at h
      by_cases c1 : o = 0
      · rw [if_neg (fun q => q c1)] at h
        by_cases c2 : t = 0
        · exact Or.inr (Or.inl ⟨k1, c1, c2⟩)
        · rw [if_pos c2] at h; exact absurd rfl h
      · rw [if_pos c1] at h; exact absurd rfl h
    · rw [if_neg k1] at h
      by_cases k2 : k = 2
      · rw [if_pos k2] at h
        by_cases c1 : o = 0
        · rw [if_neg (fun q => q c1)] at h
          by_cases c2 : t = 0
          · exact Or.inr (Or.inr (Or.inl ⟨k2, c1, c2⟩))
          · rw [if_pos c2] at h; exact absurd rfl h
        · rw [if_pos c1] at h; exact absurd rfl h
      · rw [if_neg k2] at h
        by_cases k3 : k = 3
        · rw [if_pos k3] at h
          by_cases c1 : f_isV o = 0
          · rw [if_pos c1] at h; exact absurd rfl h
          · rw [if_neg c1] at h
            by_cases c2 : f_isV t = 0
            · rw [if_pos c2] at h; exact absurd rfl h
            · exact Or.inr (Or.inr (Or.inr (Or.inl ⟨k3, btw_pl c1, btw_pl c2⟩)))
        · rw [if_neg k3] at h
          by_cases k4 : k = 4
          · rw [if_pos k4] at h
            by_cases c1 : f_isV o = 0
            · rw [if_pos c1] at h; exact absurd rfl h
            · rw [if_neg c1] at h
              by_cases c2 : t = 0
              · exact Or.inr (Or.inr (Or.inr (Or.inr ⟨k4, btw_pl c1, c2⟩)))
              · rw [if_pos c2] at h; exact absurd rfl h
          · rw [if_neg k4] at h; exact absurd rfl h
theorem make_r {w : fOm} {l p k o t : Int32} {n : Nat} (hn : n < 12) (e : w 648 6 = nI n) : m_make w l p k o t 648 = upd (upd (upd (upd (upd (upd (upd (upd (w 648) (38 + 19 * n) k) (39 + 19 * n) l) (40 + 19 * n) p) (41 + 19 * n) o) (42 + 19 * n) t) (43 + 19 * n) (if k = 0 then t else 0)) (44 + 19 * n) 0) 6 (nI (n + 1)) := by
  obtain ⟨x0, x1, x2, x3, x4, x5, x6, x7⟩ := iDs hn
  unfold m_make
  try dsimp only
  rw [e, x0, x1, x2, x3, x4, x5, x6]
  simp only [wu_648]
  rw [pk_un (j := 6) (by omega), pk_un (j := 6) (by omega), pk_un (j := 6) (by omega), pk_un (j := 6) (by omega), pk_un (j := 6) (by omega), pk_un (j := 6) (by omega), pk_un (j := 6) (by omega), e, nI_1]
theorem make_S {C M : fOm} {b r q : Nat} {k o t : Int32} (h : SR C b (M 648)) (hr : r < (M 648 5).toNatClampNeg) (hq : q < (C (b + 5 + 5 * r) 0).toNatClampNeg) (hf : ¬ f_fits k o t = 0) (h6 : M 648 6 < 12) :
    SR (wu (f_dbegin C (b + 30 + 2 * (C b 6).toNatClampNeg) (nI r) (nI q) k o t) b 6 (f_dbegin C (b + 30 + 2 * (C b 6).toNatClampNeg) (nI r) (nI q) k o t b 6 + 1)) b (m_make M (nI r) (nI q) k o t 648) ∧ wu (f_dbegin C (b + 30 + 2 * (C b 6).toNatClampNeg) (nI r) (nI q) k o t) b 6 (f_dbegin C (b + 30 + 2 * (C b 6).toNatClampNeg) (nI r) (nI q) k o t b 6 + 1) b 6 - 1 = m_make M (nI r) (nI q) k o t 648 6 - 1 ∧ 0 ≤ m_make M (nI r) (nI q) k o t 648 6 - 1 := by
  obtain ⟨e5, e6, e7, e4⟩ := h.c5
  obtain ⟨n, hn, en, et, e1, et1⟩ := inc5 (N := 12) h.W.2.1 (by decide) h6
  have hr5 : r < 5 := Nat.lt_of_lt_of_le hr h.W.n5
  have hL := h.2.2.2.2.1 r hr
  obtain ⟨P, hP4, hP, eP, eP2⟩ := hL.P
  rw [make_r hn en, ← e6, et]
  have bne : ∀ x, x ≠ b + 30 + 2 * n → f_dbegin C (b + 30 + 2 * n) (nI r) (nI q) k o t x = C x := fun x hx => dbegin_M x hx
  rw [bne b (by omega), ← e6, en, nI_1]
  have a6 : upd (upd (upd (upd (upd (upd (upd (upd (M 648) (38 + 19 * n) k) (39 + 19 * n) (nI r)) (40 + 19 * n) (nI q)) (41 + 19 * n) o) (42 + 19 * n) t) (43 + 19 * n) (if k = 0 then t else 0)) (44 + 19 * n) 0) 6 (nI (n + 1)) 6 = nI (n + 1) := pk_us
  have lo : ∀ i, i ≠ 6 → (i < 38 + 19 * n ∨ 44 + 19 * n < i) → upd (upd (upd (upd (upd (upd (upd (upd (M 648) (38 + 19 * n) k) (39 + 19 * n) (nI r)) (40 + 19 * n) (nI q)) (41 + 19 * n) o) (42 + 19 * n) t) (43 + 19 * n) (if k = 0 then t else 0)) (44 + 19 * n) 0) 6 (nI (n + 1)) i = M 648 i := fun i h1 h2 => by rw [pk_un h1, pk_un (by omega), pk_un (by omega), pk_un (by omega), pk_un (by omega), pk_un (by omega), pk_un (by omega), pk_un (by omega)]
  have Wne : ∀ x, x ≠ b → x ≠ b + 30 + 2 * n → wu (f_dbegin C (b + 30 + 2 * n) (nI r) (nI q) k o t) b 6 (nI (n + 1)) x = C x := fun x h1 h2 => by rw [wu_ne h1, bne x h2]
  refine ⟨⟨fun i hi => ?_, fun i hi hi2 => ?_, ?_, ?_, fun r2 hr2 => ?_, fun r2 hr2 hr3 => ?_, fun d hd => ?_, fun j hj => ?_⟩, by rw [wu_i, if_pos rfl, a6], by rw [a6, nI_pred]; exact nI_pos' (by omega)⟩
  · rw [lo i (by omega) (by omega), Wne _ (by omega) (by omega)]
    exact h.1 i hi
  · rw [wu_i]
    by_cases e : i = 6
    · subst e
      rw [if_pos rfl, a6]
    · rw [if_neg e, lo i e (by omega), bne b (by omega)]
      exact h.2.1 i hi hi2
  · unfold SB
    rw [lo 0 (by omega) (by omega), lo 1 (by omega) (by omega), lo 2 (by omega) (by omega), lo 3 (by omega) (by omega)]
    exact h.2.2.1
  · unfold SN
    rw [a6, lo 5 (by omega) (by omega), lo 7 (by omega) (by omega)]
    exact ⟨h.W.1, ⟨nI_pos' (by omega), nI_le (b := 12) (by omega) (by decide)⟩, h.W.2.2⟩
  · rw [lo 5 (by omega) (by omega)] at hr2
    have := h.W.n5
    exact (h.2.2.2.2.1 r2 hr2).fr (fun x q1 q2 => Wne x (by omega) (by omega)) (fun i hi => lo i (by unfold inL at hi; omega) (by unfold inL at hi; omega)) (lo _ (by omega) (by omega))
  · rw [lo 5 (by omega) (by omega)] at hr3
    obtain ⟨x1, x2⟩ := h.2.2.2.2.2.1 r2 hr2 hr3
    refine ⟨fun t ht => (lo _ (by omega) (by omega)).trans (x1 t ht), fun p hp => ?_⟩
    rw [lo _ (by omega) (by omega), lo _ (by omega) (by omega), lo _ (by omega) (by omega)]
    exact x2 p hp
  · rw [a6, nI_clamp (by omega)] at hd
    by_cases e : d = n
    · subst e
      have w0 : wu (f_dbegin C (b + 30 + 2 * d) (nI r) (nI q) k o t) b 6 (nI (d + 1)) (b + 30 + 2 * d) = f_dbegin C (b + 30 + 2 * d) (nI r) (nI q) k o t (b + 30 + 2 * d) := wu_ne (by omega)
      have f : ∀ j, f_dbegin C (b + 30 + 2 * d) (nI r) (nI q) k o t (b + 30 + 2 * d) j = if j = 8 then 0 else if j = 6 then 0 else if j = 5 then (if ¬ k = 0 then 0 else t) else if j = 4 then t else if j = 3 then o else if j = 0 then k else if j = 2 then nI q else if j = 1 then nI r else C (b + 30 + 2 * d) j := fun j => by
        unfold f_dbegin
        simp only [wu_i]
      have a0 : ∀ {x y : Nat → Int32}, True → True := fun _ => trivial
      have z38 : upd (upd (upd (upd (upd (upd (upd (upd (M 648) (38 + 19 * d) k) (39 + 19 * d) (nI r)) (40 + 19 * d) (nI q)) (41 + 19 * d) o) (42 + 19 * d) t) (43 + 19 * d) (if k = 0 then t else 0)) (44 + 19 * d) 0) 6 (nI (d + 1)) (38 + 19 * d) = k := by rw [pk_un (by omega), pk_un (by omega), pk_un (by omega), pk_un (by omega), pk_un (by omega), pk_un (by omega), pk_un (by omega), pk_us]
      have z39 : upd (upd (upd (upd (upd (upd (upd (upd (M 648) (38 + 19 * d) k) (39 + 19 * d) (nI r)) (40 + 19 * d) (nI q)) (41 + 19 * d) o) (42 + 19 * d) t) (43 + 19 * d) (if k = 0 then t else 0)) (44 + 19 * d) 0) 6 (nI (d + 1)) (39 + 19 * d) = nI r := by rw [pk_un (by omega), pk_un (by omega), pk_un (by omega), pk_un (by omega), pk_un (by omega), pk_un (by omega), pk_us]
      have z40 : upd (upd (upd (upd (upd (upd (upd (upd (M 648) (38 + 19 * d) k) (39 + 19 * d) (nI r)) (40 + 19 * d) (nI q)) (41 + 19 * d) o) (42 + 19 * d) t) (43 + 19 * d) (if k = 0 then t else 0)) (44 + 19 * d) 0) 6 (nI (d + 1)) (40 + 19 * d) = nI q := by rw [pk_un (by omega), pk_un (by omega), pk_un (by omega), pk_un (by omega), pk_un (by omega), pk_us]
      have z41 : upd (upd (upd (upd (upd (upd (upd (upd (M 648) (38 + 19 * d) k) (39 + 19 * d) (nI r)) (40 + 19 * d) (nI q)) (41 + 19 * d) o) (42 + 19 * d) t) (43 + 19 * d) (if k = 0 then t else 0)) (44 + 19 * d) 0) 6 (nI (d + 1)) (41 + 19 * d) = o := by rw [pk_un (by omega), pk_un (by omega), pk_un (by omega), pk_un (by omega), pk_us]
      have z42 : upd (upd (upd (upd (upd (upd (upd (upd (M 648) (38 + 19 * d) k) (39 + 19 * d) (nI r)) (40 + 19 * d) (nI q)) (41 + 19 * d) o) (42 + 19 * d) t) (43 + 19 * d) (if k = 0 then t else 0)) (44 + 19 * d) 0) 6 (nI (d + 1)) (42 + 19 * d) = t := by rw [pk_un (by omega), pk_un (by omega), pk_un (by omega), pk_us]
      have z43 : upd (upd (upd (upd (upd (upd (upd (upd (M 648) (38 + 19 * d) k) (39 + 19 * d) (nI r)) (40 + 19 * d) (nI q)) (41 + 19 * d) o) (42 + 19 * d) t) (43 + 19 * d) (if k = 0 then t else 0)) (44 + 19 * d) 0) 6 (nI (d + 1)) (43 + 19 * d) = if k = 0 then t else 0 := by rw [pk_un (by omega), pk_un (by omega), pk_us]
      have z44 : upd (upd (upd (upd (upd (upd (upd (upd (M 648) (38 + 19 * d) k) (39 + 19 * d) (nI r)) (40 + 19 * d) (nI q)) (41 + 19 * d) o) (42 + 19 * d) t) (43 + 19 * d) (if k = 0 then t else 0)) (44 + 19 * d) 0) 6 (nI (d + 1)) (44 + 19 * d) = 0 := by rw [pk_un (by omega), pk_us]
      unfold DR
      rw [z38, z39, z40, z41, z42, z43, z44, lo 5 (by omega) (by omega), nI_clamp (by omega), lo (8 + 6 * r) (by omega) (by omega), w0, f 0, f 1, f 2, f 3, f 4, f 5, f 6, f 8]
      refine ⟨⟨rfl, rfl, rfl, rfl, rfl, rfl⟩, ⟨⟨nI_pos' (by omega), ?_⟩, nI_pos' (by omega), ?_⟩, ?_⟩
      · have : M 648 5 = nI (M 648 5).toNatClampNeg := (tn_nI h.W.1.1).symm
        rw [this]
        exact nI_lt hr (by have := h.W.n5; omega)
      · rw [hL.1, eP]
        exact nI_lt (by omega) (by omega)
      · rcases fits_c hf with ⟨k0, q1, q2⟩ | ⟨k0, q1, q2⟩ | ⟨k0, q1, q2⟩ | ⟨k0, q1, q2⟩ | ⟨k0, q1, q2⟩
        · subst k0
          exact Or.inl ⟨rfl, rfl, ⟨Int32.le_trans (by decide) q2.1, q2.2⟩, q1, q2⟩
        · subst k0
          exact Or.inr (Or.inl ⟨rfl, rfl, show (0 : Int32) ≤ 0 ∧ (0 : Int32) ≤ 8 by decide, fun i hi => absurd hi (by simp)⟩)
        · subst k0
          exact Or.inr (Or.inr (Or.inl ⟨rfl, rfl, show (0 : Int32) ≤ 0 ∧ (0 : Int32) ≤ 12 by decide, fun i hi => absurd hi (by simp)⟩))
        · subst k0
          exact Or.inr (Or.inr (Or.inr (Or.inl ⟨rfl, rfl, q1, q2⟩)))
        · subst k0
          exact Or.inr (Or.inr (Or.inr (Or.inr ⟨rfl, rfl, q1⟩)))
    · exact (h.2.2.2.2.2.2.1 d (by rw [et]; omega)).fr (Wne _ (by omega) (by omega)) (Wne _ (by omega) (by omega)) (fun i hi => lo i (by unfold inD at hi; omega) (by unfold inD at hi; omega)) (lo 5 (by omega) (by omega)) (fun l hl => lo _ (by omega) (by omega)) h.W.1.2
  · rw [lo 7 (by omega) (by omega)] at hj
    have := h.W.n7
    exact (h.2.2.2.2.2.2.2 j hj).fr (Wne _ (by omega) (by omega)) (fun i hi => lo i (by unfold inJ at hi; omega) (by unfold inJ at hi; omega)) (lo 5 (by omega) (by omega)) (fun l hl => lo _ (by omega) (by omega)) h.W.1.2
theorem dev_D {C M : fOm} {b : Nat} {l p k o t : Int32} {T : Nat} (h : SR C b (M 648)) (hW : MW (M 648)) (hT : TK (M 648) T) : Done C (f_addDevW C b l p k o t) b (f_addDevR C b l p k o t) M (m_dev M l p k o t) (m_keep M) T := by
  obtain ⟨e5, e6, e7, e4⟩ := h.c5
  unfold f_addDevR
  unfold f_addDevW m_dev
  rcases h.placeOf l p with ⟨q1, q2⟩ | ⟨r, q, rfl, rfl, hr, hr5, hq, hq32, h1, h2⟩
  · rw [q2, if_pos q1]
    exact Or.inl ⟨show (-1 : Int32) < 0 by decide, rfl, rfl⟩
  · rw [h2, if_neg h1]
    try dsimp only
    by_cases c : f_fits k o t = 0
    · rw [if_pos c, if_pos c, if_pos c]
      exact Or.inl ⟨by decide, rfl, rfl⟩
    · rw [if_neg c, if_neg c, if_neg c]
      by_cases c6 : M 648 6 < 12
      · have hM := make_S (M := m_keep M) (k := k) (o := o) (t := t) (by rw [keep_648]; exact h) (by rw [keep_648]; exact hr) hq c (by rw [keep_648]; exact c6)
        rw [← e6, if_pos c6, if_pos c6, if_neg (fun e => by rw [e] at c6; exact absurd c6 (by decide))]
        rw [← e6] at hM
        rw [hM.2.1]
        refine Or.inr ⟨hM.2.2, rfl, make_M, hM.1, ?_, ?_⟩
        · obtain ⟨n, hn, en, -⟩ := inc5 (N := 12) h.W.2.1 (by decide) c6
          exact make_KW (k := k) (by rw [keep_648]; exact hW) (by rw [keep_648, en]; exact ⟨nI_pos' (by omega), nI_le (b := 11) (by omega) (by decide)⟩) (nj4 hr5) (nj_rg hq32)
        · obtain ⟨n, hn, en, -⟩ := inc5 (N := 12) h.W.2.1 (by decide) c6
          show TK (m_make (m_keep M) (nI r) (nI q) k o t 648) (T + 200)
          rw [make_r hn (by rw [keep_648]; exact en), keep_648]
          exact hT.mo (by rw [pk_un (by omega), pk_un (by omega), pk_un (by omega), pk_un (by omega), pk_un (by omega), pk_un (by omega), pk_un (by omega), pk_un (by omega)]) (by omega) (fun r hr => by rw [pk_un (by omega), pk_un (by omega), pk_un (by omega), pk_un (by omega), pk_un (by omega), pk_un (by omega), pk_un (by omega), pk_un (by omega)])
      · rw [← e6, if_neg c6, if_neg c6, if_pos (show M 648 6 = 12 from (full5 (N := 12) h.W.2.1).mpr c6)]
        exact Or.inl ⟨by decide, rfl, rfl⟩
theorem joinW_M {w : fOm} {l p l2 p2 : Int32} : Mod aS w (m_joinW w l p l2 p2) := by
  unfold m_joinW
  exact Mod.wu (S := aS) (Mod.wu (Mod.wu (Mod.wu (Mod.wu (Mod.wu (Mod.wu Mod.rf rfl) rfl) rfl) rfl) rfl) rfl) rfl
set_option maxRecDepth 20000 in
theorem join_D {C M : fOm} {b : Nat} {l p l2 p2 : Int32} {T : Nat} (h : SR C b (M 648)) (hW : MW (M 648)) (hT : TK (M 648) T) : Done C (f_addJoinW C b l p l2 p2) b (f_addJoinR C b l p l2 p2) M (m_join M l p l2 p2) (m_keep M) T := by
  obtain ⟨e5, e6, e7, e4⟩ := h.c5
  unfold f_addJoinR
  unfold f_addJoinW m_join
  rcases h.placeOf l p with ⟨q1, q2⟩ | ⟨r, q, rfl, rfl, hr, hr5, hq, hq32, h1, h2⟩
  · rw [q2, if_pos q1]
    exact Or.inl ⟨show (-1 : Int32) < 0 by decide, rfl, rfl⟩
  · rw [h2, if_neg h1]
    try dsimp only
    rcases h.placeOf l2 p2 with ⟨y1, y2⟩ | ⟨r2, s, rfl, rfl, hr2, hr25, hs, hs32, h3, h4⟩
    · rw [y2, if_pos y1]
      exact Or.inl ⟨show (-1 : Int32) < 0 by decide, rfl, rfl⟩
    · rw [h4, if_neg h3]
      try dsimp only
      by_cases c : nI r = nI r2
      · rw [if_pos c, if_pos c, if_pos c]
        exact Or.inl ⟨by decide, rfl, rfl⟩
      · rw [if_neg c, if_neg c, if_neg c, ← e7]
        by_cases c7 : M 648 7 < 4
        · rw [if_pos c7, if_pos c7, if_neg (fun e => by rw [e] at c7; exact absurd c7 (by decide))]
          obtain ⟨n, hn, en, et, e1, et1⟩ := inc5 (N := 4) h.W.2.2 (by decide) c7
          have hL := h.2.2.2.2.1 r hr
          obtain ⟨P, hP4, hP, eP, eP2⟩ := hL.P
          have hL2 := h.2.2.2.2.1 r2 hr2
          obtain ⟨P2, hP24, hP2, eP3, eP4⟩ := hL2.P
          rw [et]
          have bne : ∀ x, x ≠ b + 54 + n → f_jbegin C (b + 54 + n) (nI r) (nI q) (nI r2) (nI s) x = C x := fun x hx => jbegin_M x hx
          rw [bne b (by omega), ← e7, en, nI_1]
          have em : m_joinW (m_keep M) (nI r) (nI q) (nI r2) (nI s) 648 = upd (upd (upd (upd (upd (upd (upd (M 648) (266 + 6 * n) (nI r)) (267 + 6 * n) (nI q)) (268 + 6 * n) (nI r2)) (269 + 6 * n) (nI s)) (270 + 6 * n) 0) (271 + 6 * n) 0) 7 (nI (n + 1)) := by
            unfold m_joinW
            try dsimp only
            have e0 : (266 : Int32) + 6 * m_keep M 648 7 = nI (266 + 6 * n) := by rw [keep_648, en, show (266 : Int32) = nI 266 from rfl, show (6 : Int32) = nI 6 from rfl, pk_mul, nI_add]
            have x1 : nI (266 + 6 * n) + 1 = nI (267 + 6 * n) := by rw [nI_1, show 266 + 6 * n + 1 = 267 + 6 * n by omega]
            have x2 : nI (266 + 6 * n) + 2 = nI (268 + 6 * n) := by rw [show (2 : Int32) = nI 2 from rfl, nI_add, show 266 + 6 * n + 2 = 268 + 6 * n by omega]
            have x3 : nI (266 + 6 * n) + 3 = nI (269 + 6 * n) := by rw [show (3 : Int32) = nI 3 from rfl, nI_add, show 266 + 6 * n + 3 = 269 + 6 * n by omega]
            have x4 : nI (266 + 6 * n) + 4 = nI (270 + 6 * n) := by rw [show (4 : Int32) = nI 4 from rfl, nI_add, show 266 + 6 * n + 4 = 270 + 6 * n by omega]
            have x5 : nI (266 + 6 * n) + 5 = nI (271 + 6 * n) := by rw [show (5 : Int32) = nI 5 from rfl, nI_add, show 266 + 6 * n + 5 = 271 + 6 * n by omega]
            rw [e0, x1, x2, x3, x4, x5, nI_clamp (by omega), nI_clamp (by omega), nI_clamp (by omega), nI_clamp (by omega), nI_clamp (by omega), nI_clamp (by omega)]
            simp only [wu_648, keep_648]
            rw [pk_un (j := 7) (by omega), pk_un (j := 7) (by omega), pk_un (j := 7) (by omega), pk_un (j := 7) (by omega), pk_un (j := 7) (by omega), pk_un (j := 7) (by omega), en, nI_1]
          have a7 : m_joinW (m_keep M) (nI r) (nI q) (nI r2) (nI s) 648 7 = nI (n + 1) := by rw [em, pk_us]
          have lo : ∀ i, i ≠ 7 → (i < 266 + 6 * n ∨ 271 + 6 * n < i) → m_joinW (m_keep M) (nI r) (nI q) (nI r2) (nI s) 648 i = M 648 i := fun i h1 h2 => by rw [em, pk_un h1, pk_un (by omega), pk_un (by omega), pk_un (by omega), pk_un (by omega), pk_un (by omega), pk_un (by omega)]
          have Wne : ∀ x, x ≠ b → x ≠ b + 54 + n → wu (f_jbegin C (b + 54 + n) (nI r) (nI q) (nI r2) (nI s)) b 7 (nI (n + 1)) x = C x := fun x h1 h2 => by rw [wu_ne h1, bne x h2]
          have eR : wu (f_jbegin C (b + 54 + n) (nI r) (nI q) (nI r2) (nI s)) b 7 (nI (n + 1)) b 7 - 1 = nI n := by rw [wu_i, if_pos rfl, nI_pred]
          rw [eR]
          have z0 : m_joinW (m_keep M) (nI r) (nI q) (nI r2) (nI s) 648 (266 + 6 * n) = nI r := by rw [em, pk_un (by omega), pk_un (by omega), pk_un (by omega), pk_un (by omega), pk_un (by omega), pk_un (by omega), pk_us]
          have z1 : m_joinW (m_keep M) (nI r) (nI q) (nI r2) (nI s) 648 (267 + 6 * n) = nI q := by rw [em, pk_un (by omega), pk_un (by omega), pk_un (by omega), pk_un (by omega), pk_un (by omega), pk_us]
          have z2 : m_joinW (m_keep M) (nI r) (nI q) (nI r2) (nI s) 648 (268 + 6 * n) = nI r2 := by rw [em, pk_un (by omega), pk_un (by omega), pk_un (by omega), pk_un (by omega), pk_us]
          have z3 : m_joinW (m_keep M) (nI r) (nI q) (nI r2) (nI s) 648 (269 + 6 * n) = nI s := by rw [em, pk_un (by omega), pk_un (by omega), pk_un (by omega), pk_us]
          have z4 : m_joinW (m_keep M) (nI r) (nI q) (nI r2) (nI s) 648 (270 + 6 * n) = 0 := by rw [em, pk_un (by omega), pk_un (by omega), pk_us]
          have z5 : m_joinW (m_keep M) (nI r) (nI q) (nI r2) (nI s) 648 (271 + 6 * n) = 0 := by rw [em, pk_un (by omega), pk_us]
          refine Or.inr ⟨nI_pos' (by omega), by show m_joinW (m_keep M) (nI r) (nI q) (nI r2) (nI s) 648 7 - 1 = nI n; rw [a7, nI_pred], joinW_M, ?_, ?_, ?_⟩
          · show SR _ b (m_joinW (m_keep M) (nI r) (nI q) (nI r2) (nI s) 648)
            refine ⟨fun i hi => ?_, fun i hi hi2 => ?_, ?_, ?_, fun r3 hr3 => ?_, fun r3 hr3 hr4 => ?_, fun d hd => ?_, fun j hj => ?_⟩
            · rw [lo i (by omega) (by omega), Wne _ (by omega) (by omega)]
              exact h.1 i hi
            · rw [wu_i]
              by_cases e : i = 7
              · subst e
                rw [if_pos rfl, a7]
              · rw [if_neg e, lo i e (by omega), bne b (by omega)]
                exact h.2.1 i hi hi2
            · unfold SB
              rw [lo 0 (by omega) (by omega), lo 1 (by omega) (by omega), lo 2 (by omega) (by omega), lo 3 (by omega) (by omega)]
              exact h.2.2.1
            · unfold SN
              rw [a7, lo 5 (by omega) (by omega), lo 6 (by omega) (by omega)]
              exact ⟨h.W.1, h.W.2.1, nI_pos' (by omega), nI_le (b := 4) (by omega) (by decide)⟩
            · rw [lo 5 (by omega) (by omega)] at hr3
              have := h.W.n5
              exact (h.2.2.2.2.1 r3 hr3).fr (fun x q1 q2 => Wne x (by omega) (by omega)) (fun i hi => lo i (by unfold inL at hi; omega) (by unfold inL at hi; omega)) (lo _ (by omega) (by omega))
            · rw [lo 5 (by omega) (by omega)] at hr4
              obtain ⟨x1, x2⟩ := h.2.2.2.2.2.1 r3 hr3 hr4
              refine ⟨fun t ht => (lo _ (by omega) (by omega)).trans (x1 t ht), fun p hp => ?_⟩
              rw [lo _ (by omega) (by omega), lo _ (by omega) (by omega), lo _ (by omega) (by omega)]
              exact x2 p hp
            · rw [lo 6 (by omega) (by omega)] at hd
              have := h.W.n6
              exact (h.2.2.2.2.2.2.1 d hd).fr (Wne _ (by omega) (by omega)) (Wne _ (by omega) (by omega)) (fun i hi => lo i (by unfold inD at hi; omega) (by unfold inD at hi; omega)) (lo 5 (by omega) (by omega)) (fun l hl => lo _ (by omega) (by omega)) h.W.1.2
            · rw [a7, nI_clamp (by omega)] at hj
              by_cases e : j = n
              · subst e
                have w0 : wu (f_jbegin C (b + 54 + j) (nI r) (nI q) (nI r2) (nI s)) b 7 (nI (j + 1)) (b + 54 + j) = f_jbegin C (b + 54 + j) (nI r) (nI q) (nI r2) (nI s) (b + 54 + j) := wu_ne (by omega)
                have f : ∀ i, f_jbegin C (b + 54 + j) (nI r) (nI q) (nI r2) (nI s) (b + 54 + j) i = if i = 5 then 0 else if i = 4 then 0 else if i = 3 then nI s else if i = 2 then nI r2 else if i = 1 then nI q else if i = 0 then nI r else C (b + 54 + j) i := fun i => by
                  unfold f_jbegin
                  simp only [wu_i]
                have n5 : M 648 5 = nI (M 648 5).toNatClampNeg := (tn_nI h.W.1.1).symm
                have hn5 := h.W.n5
                unfold JR
                rw [z0, z1, z2, z3, lo 5 (by omega) (by omega), nI_clamp (by omega), nI_clamp (by omega), lo (8 + 6 * r) (by omega) (by omega), lo (8 + 6 * r2) (by omega) (by omega), w0, f 4, hL.1, eP, hL2.1, eP3]
                rw [n5]
                refine ⟨fun i hi => ?_, ⟨⟨nI_pos' (by omega), nI_lt hr (by omega)⟩, nI_pos' (by omega), nI_lt (by omega) (by omega)⟩, ⟨⟨nI_pos' (by omega), nI_lt hr2 (by omega)⟩, nI_pos' (by omega), nI_lt (by omega) (by omega)⟩, c, Or.inl rfl⟩
                rw [f i]
                rcases (show i = 0 ∨ i = 1 ∨ i = 2 ∨ i = 3 ∨ i = 4 ∨ i = 5 by omega) with rfl | rfl | rfl | rfl | rfl | rfl
                · exact z0
                · rw [show 266 + 6 * j + 1 = 267 + 6 * j by omega]; exact z1
                · rw [show 266 + 6 * j + 2 = 268 + 6 * j by omega]; exact z2
                · rw [show 266 + 6 * j + 3 = 269 + 6 * j by omega]; exact z3
                · rw [show 266 + 6 * j + 4 = 270 + 6 * j by omega]; exact z4
                · rw [show 266 + 6 * j + 5 = 271 + 6 * j by omega]; exact z5
              · exact (h.2.2.2.2.2.2.2 j (by rw [et]; omega)).fr (Wne _ (by omega) (by omega)) (fun i hi => lo i (by unfold inJ at hi; omega) (by unfold inJ at hi; omega)) (lo 5 (by omega) (by omega)) (fun l hl => lo _ (by omega) (by omega)) h.W.1.2
          · show MW (m_joinW (m_keep M) (nI r) (nI q) (nI r2) (nI s) 648)
            obtain ⟨a1, a2, a3, a4, a5, a6, a8⟩ := hW
            refine ⟨by rw [lo 5 (by omega) (by omega)]; exact a1, by rw [lo 6 (by omega) (by omega)]; exact a2, by rw [a7]; exact ⟨nI_pos' (by omega), nI_le (b := 4) (by omega) (by decide)⟩, fun l hl => by rw [lo _ (by omega) (by omega)]; exact a4 l hl, fun d hd => ?_, fun j hj => ?_, fun d hd hk => ?_⟩
            · rw [lo (38 + 19 * d + 1) (by omega) (by omega), lo (38 + 19 * d + 2) (by omega) (by omega)]
              exact a5 d hd
            · by_cases e : j = n
              · subst e
                rw [show 266 + 6 * j + 1 = 267 + 6 * j by omega, show 266 + 6 * j + 2 = 268 + 6 * j by omega, show 266 + 6 * j + 3 = 269 + 6 * j by omega, z0, z1, z2, z3]
                exact ⟨nj4 hr5, nj_rg hq32, nj4 hr25, nj_rg hs32⟩
              · rw [lo (266 + 6 * j) (by omega) (by omega), lo (266 + 6 * j + 1) (by omega) (by omega), lo (266 + 6 * j + 2) (by omega) (by omega), lo (266 + 6 * j + 3) (by omega) (by omega)]
                exact a6 j hj
            · rw [lo (38 + 19 * d) (by omega) (by omega)] at hk
              rw [lo (38 + 19 * d + 5) (by omega) (by omega)]
              exact a8 d hd hk
          · show TK (m_joinW (m_keep M) (nI r) (nI q) (nI r2) (nI s) 648) (T + 200)
            exact hT.mo (lo 4 (by omega) (by omega)) (by omega) (fun r hr => lo _ (by omega) (by omega))
        · rw [if_neg c7, if_neg c7, if_pos (show M 648 7 = 4 from (full5 (N := 4) h.W.2.2).mpr c7)]
          exact Or.inl ⟨by decide, rfl, rfl⟩
theorem turn_D {C M : fOm} {b : Nat} {j m f : Int32} {T : Nat} (h : SR C b (M 648)) (hW : MW (M 648)) (hT : TK (M 648) T) : Done C (f_turnJW C b j m) b (f_turnJR C b j m) M (m_tT M j m f) (m_kIf M f) T := by
  unfold f_turnJR f_turnJW m_tT
  rcases h.joinOf j with ⟨q1, q2⟩ | ⟨n, rfl, hj, hj4, h1, h2⟩
  · rw [q2, if_pos q1]
    exact Or.inl ⟨show (-1 : Int32) < 0 by decide, rfl, rfl⟩
  · rw [h2, if_neg h1]
    try dsimp only
    have j4 : iJ (nI n) 4 = 270 + 6 * n := (iJ_n (m := 4) (by omega) (by omega)).trans (by omega)
    have hJ := h.2.2.2.2.2.2.2 n hj
    obtain ⟨g1, gr, gr2, gne, gmode⟩ := id hJ
    have c4 : M 648 (270 + 6 * n) = C (b + 54 + n) 4 := by rw [← g1 4 (by omega), show 266 + 6 * n + 4 = 270 + 6 * n by omega]
    rw [j4]
    rcases btw_k (x := m) 0 2 (by omega) (by omega) with ⟨v, v1, v2, v3, v4⟩ | ⟨v1, -⟩
    · have v4 : ¬ f_btw m 0 2 = 0 := v4
      rw [if_neg v4, if_neg v4, if_neg v4]
      have ew : wu (m_kIf M f) 648 (270 + 6 * n) m 648 = upd (M 648) (270 + 6 * n) m := by rw [wu_648, kIf_648]
      refine Or.inr ⟨?_, by show m_kIf M f 648 (270 + 6 * n) = _; rw [kIf_648, c4], Mod.wu Mod.rf rfl, ?_, ?_, ?_⟩
      · rcases gmode with q | q | q <;> (rw [q]; decide)
      · show SR _ b (wu (m_kIf M f) 648 (270 + 6 * n) m 648)
        rw [ew]
        refine h.upd (fun _ => False) (fun _ => False) (fun q => q = n) (fun _ e => e.elim) (fun _ e => e.elim) (fun q e => by rw [e]; exact hj) (fun q _ _ _ _ h3 => wu_ne (h3 n rfl)) (fun i _ _ h3 => pk_un (fun e => h3 n rfl (by unfold inJ; omega))) (fun _ e => e.elim) (fun _ e => e.elim) (fun q e => ?_)
        subst e
        unfold JR
        rw [pk_un (j := 266 + 6 * q) (by omega), pk_un (j := 267 + 6 * q) (by omega), pk_un (j := 268 + 6 * q) (by omega), pk_un (j := 269 + 6 * q) (by omega), pk_un (j := 5) (by omega), pk_un (by have := lt5 gr.1 h.W.1.2; omega), pk_un (by have := lt5 gr2.1 h.W.1.2; omega)]
        refine ⟨fun i hi => ?_, gr, gr2, gne, ?_⟩
        · rw [wu_i]
          by_cases e : i = 4
          · subst e
            rw [if_pos rfl, show 266 + 6 * q + 4 = 270 + 6 * q by omega, pk_us]
          · rw [if_neg e, pk_un (by omega)]
            exact g1 i hi
        · rw [wu_i, if_pos rfl, v3]
          rcases (show v = 0 ∨ v = 1 ∨ v = 2 by omega) with rfl | rfl | rfl
          · exact Or.inl rfl
          · exact Or.inr (Or.inl rfl)
          · exact Or.inr (Or.inr rfl)
      · show MW (wu (m_kIf M f) 648 (270 + 6 * n) m 648)
        have := ck_Jw (j := nI n) (w := 4) (nj3 hj4) (by decide)
        rw [j4] at this
        exact (show KPw (m_kIf M f) (wu (m_kIf M f) 648 (270 + 6 * n) m) from KPw.wu KP.rf this).mw (by rw [kIf_648]; exact hW)
      · show TK (wu (m_kIf M f) 648 (270 + 6 * n) m 648) (T + 200)
        rw [ew]
        exact hT.mo (pk_un (by omega)) (by omega) (fun r hr => pk_un (by omega))
    · rw [if_pos (show f_btw m 0 2 = 0 from v1), if_pos (show f_btw m 0 2 = 0 from v1), if_pos (show f_btw m 0 2 = 0 from v1)]
      exact Or.inl ⟨show (-2 : Int32) < 0 by decide, rfl, rfl⟩
theorem feed_D {C M : fOm} {b : Nat} {d v f : Int32} {T : Nat} (h : SR C b (M 648)) (hW : MW (M 648)) (hT : TK (M 648) T) : Done C (f_feedW C b d v) b (f_feedR C b d v) M (m_tF M d v f) (m_kIf M f) T := by
  unfold f_feedR f_feedW m_tF
  rcases h.devOf d with ⟨q1, q2⟩ | ⟨n, rfl, hd, hd12, h1, h2⟩
  · rw [q2, if_pos q1]
    exact Or.inl ⟨show (-1 : Int32) < 0 by decide, rfl, rfl⟩
  · rw [h2, if_neg h1]
    try dsimp only
    obtain ⟨x0, x1, x2, x3, x4, x5, x6, x7⟩ := iDs hd12
    have hD := h.2.2.2.2.2.2.1 n hd
    obtain ⟨⟨d0, d1, d2, d3, d4, d6⟩, -, -⟩ := id hD
    rw [x0, x5, d0]
    by_cases k2 : C (b + 30 + 2 * n) 0 = 2
    · rw [if_pos k2, if_pos k2, if_pos k2]
      have hk := hD.k2 k2
      rw [hk.1]
      by_cases cv : f_isV v = 0
      · rw [if_pos cv, if_pos cv, if_pos cv]
        exact Or.inl ⟨show (-2 : Int32) < 0 by decide, rfl, rfl⟩
      · rw [if_neg cv, if_neg cv, if_neg cv]
        have hv := btw_pl cv
        by_cases c12 : C (b + 30 + 2 * n) 8 < 12
        · rw [if_pos c12, if_pos c12, if_neg (fun e => by rw [e] at c12; exact absurd c12 (by decide))]
          obtain ⟨q, hq, eq, et, e1, et1⟩ := inc5 (N := 12) hk.2.1 (by decide) c12
          have ei : iD (nI n) (7 + nI q) = 45 + 19 * n + q := by
            rw [show (7 : Int32) = nI 7 from rfl, nI_add, iD_n hd12 (by omega)]
            omega
          have em : m_feW (m_kIf M f) (nI n) v 648 = upd (upd (M 648) (45 + 19 * n + q) v) (43 + 19 * n) (nI (q + 1)) := by
            unfold m_feW
            try dsimp only
            rw [x5, kIf_648, hk.1, eq, ei, wu_648, wu_648, kIf_648, pk_un (by omega), hk.1, eq, nI_1]
          have eW : f_keepLast C (b + 30 + 2 * n) v = wu (wu C (b + 30 + 2 * n + 1) q v) (b + 30 + 2 * n) 8 (nI (q + 1)) := by
            unfold f_keepLast
            try dsimp only
            rw [if_neg (Int32.not_le.mpr c12), et, wu_ne (k2 := b + 30 + 2 * n) (by omega), eq, nI_1]
          have eR : wu (wu C (b + 30 + 2 * n + 1) q v) (b + 30 + 2 * n) 8 (nI (q + 1)) (b + 30 + 2 * n) 8 = nI (q + 1) := by rw [wu_i, if_pos rfl]
          rw [eW, eR]
          refine Or.inr ⟨nI_pos' (by omega), by show m_feW (m_kIf M f) (nI n) v 648 (43 + 19 * n) = _; rw [em, pk_us], Mod.wu (Mod.wu Mod.rf rfl) rfl, ?_, ?_, ?_⟩
          · show SR _ b (m_feW (m_kIf M f) (nI n) v 648)
            rw [em]
            refine h.upd (fun _ => False) (fun z => z = n) (fun _ => False) (fun _ e => e.elim) (fun z e => by rw [e]; exact hd) (fun _ e => e.elim) (fun z _ _ _ h3 _ => ?_) (fun i _ h3 _ => ?_) (fun _ e => e.elim) (fun z e => ?_) (fun _ e => e.elim)
            · have := h3 n rfl
              rw [wu_ne (by omega), wu_ne (by omega)]
            · have := h3 n rfl
              unfold inD at this
              rw [pk_un (by omega), pk_un (by omega)]
            · subst e
              refine hD.set (fun j hj => ?_) (fun j hj => ?_) ?_ ?_ (fun l hl => ?_) h.W.1.2 (Or.inr (Or.inr (Or.inl ⟨k2, ?_, ?_, fun i hi => ?_⟩)))
              · rw [wu_i, if_neg (by omega), wu_ne (by omega)]
              · rw [pk_un (by omega), pk_un (by omega)]
              · rw [pk_un (by omega), pk_un (by omega), wu_i, if_neg (by decide), wu_ne (by omega)]
                exact d6
              · rw [pk_un (by omega), pk_un (by omega)]
              · rw [pk_un (by omega), pk_un (by omega)]
              · rw [pk_us, eR]
              · rw [eR]
                exact ⟨nI_pos' (by omega), nI_le (b := 12) (by omega) (by decide)⟩
              · rw [eR, nI_clamp (by omega)] at hi
                rw [pk_un (by omega), wu_ne (by omega), wu_i]
                by_cases e : i = q
                · subst e
                  rw [if_pos rfl, pk_us]
                  exact ⟨rfl, hv⟩
                · rw [if_neg e, pk_un (by omega)]
                  exact hk.2.2 i (by rw [et]; omega)
          · show MW (m_feW (m_kIf M f) (nI n) v 648)
            rw [em]
            have h5 : M 648 (iD (nI n) 0) = 1 ∨ M 648 (iD (nI n) 0) = 2 → 0 ≤ nI (q + 1) ∧ nI (q + 1) ≤ 12 := fun _ => ⟨nI_pos' (by omega), nI_le (b := 12) (by omega) (by decide)⟩
            have kq : cK (45 + 19 * n + q) = false := by
              have := ck_D n hd12 (7 + q) (by omega)
              rw [show 38 + 19 * n + (7 + q) = 45 + 19 * n + q by omega] at this
              unfold cK
              have h3 : Nat.blt (7 + q) 3 = false := Bool.eq_false_iff.mpr (fun e => by have := Nat.le_of_ble_eq_true e; omega)
              have h4 : (7 + q == 5) = false := beq_eq_false_iff_ne.mpr (by omega)
              rw [this.1, this.2, h3, h4]
              rfl
            have k1 : KPw M (wu M 648 (45 + 19 * n + q) v) := KPw.wu KP.rf kq
            have := MW.st (ω := wu M 648 (45 + 19 * n + q) v) (d := nI n) (v := nI (q + 1)) (k1.mw hW) (nj11 hd12) (fun _ => h5 (by rw [x0, d0]; exact Or.inr k2))
            rw [x5, wu_648, wu_648] at this
            exact this
          · show TK (m_feW (m_kIf M f) (nI n) v 648) (T + 200)
            rw [em]
            exact hT.mo (by rw [pk_un (by omega), pk_un (by omega)]) (by omega) (fun r hr => by rw [pk_un (by omega), pk_un (by omega)])
        · rw [if_neg c12, if_neg c12, if_pos (show C (b + 30 + 2 * n) 8 = 12 from (full5 (N := 12) hk.2.1).mpr c12)]
          exact Or.inl ⟨show (-4 : Int32) < 0 by decide, rfl, rfl⟩
    · rw [if_neg k2, if_neg k2, if_neg k2]
      exact Or.inl ⟨show (-1 : Int32) < 0 by decide, rfl, rfl⟩
theorem fl_n {C : fOm} {k : Nat} (j : Nat) : ∃ n : Nat, n ≤ j ∧ f_fl C k j = nI n := by
  induction j with
  | zero => exact ⟨0, Nat.le_refl 0, rfl⟩
  | succ j ih =>
    obtain ⟨n, hn, e⟩ := ih
    show ∃ n : Nat, n ≤ j + 1 ∧ (if C (k + 2) j ≤ 0 then f_fl C k j else f_fl C k j + 1) = nI n
    split
    · exact ⟨n, by omega, e⟩
    · exact ⟨n + 1, by omega, by rw [e, nI_1]⟩
theorem light_D {C M : fOm} {b : Nat} {l p v f : Int32} {T : Nat} (h : SR C b (M 648)) (hW : MW (M 648)) (hT : TK (M 648) T) : Done C (f_lightW C b l p v) b (f_lightR C b l p v) M (m_tL M l p v f) (m_kIf M f) T := by
  unfold f_lightR f_lightW m_tL
  rcases h.placeOf l p with ⟨q1, q2⟩ | ⟨r, q, rfl, rfl, hr, hr5, hq, hq32, h1, h2⟩
  · rw [q2, if_pos q1]
    exact Or.inl ⟨show (-1 : Int32) < 0 by decide, rfl, rfl⟩
  · rw [h2, if_neg h1]
    try dsimp only
    by_cases cv : f_isV v = 0
    · rw [if_pos cv, if_pos cv, if_pos cv]
      exact Or.inl ⟨show (-2 : Int32) < 0 by decide, rfl, rfl⟩
    · rw [if_neg cv, if_neg cv, if_neg cv]
      have hv := btw_pl cv
      have hL := h.2.2.2.2.1 r hr
      have hc := (hL.2.2.2 q hq).iff
      rw [hL.str hq, (mc_tn hr5 hq32).1]
      by_cases c : C (b + 5 + 5 * r + 2) q ≤ 0
      · rw [if_pos c, if_pos c, if_pos (hc.1.mp c)]
        have s3 : f_setting C b 3 = M 648 3 := h.set (i := 3) (by omega)
        have t4 : C b 4 = M 648 4 := h.c5.2.2.2.symm
        have hL2 := hL.shine (M := M) (v := v) (s := f_setting C b 3) (t := C b 4) hr5 hq hv (by rw [s3]; exact h.2.2.1.2.2.2) s3.symm t4.symm
        have sh : ∀ i, ¬ inL r i → m_shine M (nI r) (mc (nI r) (nI q)) v 648 i = M 648 i := fun i hi => by
          unfold inL at hi
          rw [mc_n, shine_r hr5 (by omega) (by omega), pk_un (by omega), pk_un (by omega), pk_un (by omega), pk_un (by omega)]
        have ek : m_shine (m_kIf M f) (nI r) (mc (nI r) (nI q)) v 648 = m_shine M (nI r) (mc (nI r) (nI q)) v 648 := by
          rw [mc_n, shine_r hr5 (by omega) (by omega), shine_r hr5 (by omega) (by omega), kIf_648]
        have hS : SR (f_putIn C (b + 5 + 5 * r) (nI q) v (f_setting C b 3) (C b 4)) b (m_shine M (nI r) (mc (nI r) (nI q)) v 648) := by
          refine h.upd (fun z => z = r) (fun _ => False) (fun _ => False) (fun z e => by rw [e]; exact hr) (fun _ e => e.elim) (fun _ e => e.elim) (fun z _ _ h1 _ _ => ?_) (fun i h1 _ _ => sh i (h1 r rfl)) (fun z e => by rw [e]; exact hL2) (fun _ e => e.elim) (fun _ e => e.elim)
          exact putIn_M z (fun y => h1 r rfl ⟨y.1, by have := y.2; omega⟩)
        have hfl := (hS.2.2.2.2.1 r (by rw [sh 5 (by unfold inL; omega)]; exact hr)).flashes hr5
        have hfl2 : m_flashes (m_shine (m_kIf M f) (nI r) (mc (nI r) (nI q)) v) (nI r) = m_flashes (m_shine M (nI r) (mc (nI r) (nI q)) v) (nI r) := by
          unfold m_flashes
          rw [ek]
          have : ∀ j, m_fl (m_shine (m_kIf M f) (nI r) (mc (nI r) (nI q)) v) (nI r) j = m_fl (m_shine M (nI r) (mc (nI r) (nI q)) v) (nI r) j := by
            intro j
            induction j with
            | zero => rfl
            | succ j ih =>
              show m_fl (m_shine (m_kIf M f) (nI r) (mc (nI r) (nI q)) v) (nI r) j + (if m_shine (m_kIf M f) (nI r) (mc (nI r) (nI q)) v 648 (mc (nI r) (nI j)).toNatClampNeg < 0 then 0 else 1) = m_fl (m_shine M (nI r) (mc (nI r) (nI q)) v) (nI r) j + (if m_shine M (nI r) (mc (nI r) (nI q)) v 648 (mc (nI r) (nI j)).toNatClampNeg < 0 then 0 else 1)
              rw [ih, ek]
          exact this _
        refine Or.inr ⟨?_, by show m_flashes (m_shine (m_kIf M f) (nI r) (mc (nI r) (nI q)) v) (nI r) = _; rw [hfl2, hfl], shine_M, ?_, ?_, ?_⟩
        · unfold f_flashes
          have hL3 := hS.2.2.2.2.1 r (by rw [sh 5 (by unfold inL; omega)]; exact hr)
          obtain ⟨P, hP4, hP, eP, eP2⟩ := hL3.P
          obtain ⟨n, hn, e⟩ := fl_n (C := f_putIn C (b + 5 + 5 * r) (nI q) v (f_setting C b 3) (C b 4)) (k := b + 5 + 5 * r) (f_putIn C (b + 5 + 5 * r) (nI q) v (f_setting C b 3) (C b 4) (b + 5 + 5 * r) 0).toNatClampNeg
          rw [e]
          exact nI_pos' (by omega)
        · show SR _ b (m_shine (m_kIf M f) (nI r) (mc (nI r) (nI q)) v 648)
          rw [ek]
          exact hS
        · show MW (m_shine (m_kIf M f) (nI r) (mc (nI r) (nI q)) v 648)
          rw [ek]
          exact (shine_K (ω := M) KP.rf (nj4 hr5) (mc_rg (nj4 hr5) (nj_rg hq32))).mw hW
        · show TK (m_shine (m_kIf M f) (nI r) (mc (nI r) (nI q)) v 648) (T + 200)
          rw [ek]
          exact hT.mo (sh 4 (by unfold inL; omega)) (by omega) (fun z hz => by rw [mc_n, shine_r hr5 (by omega) (by omega), pk_un (by omega), pk_un (by omega), pk_un (by omega), pk_un (by omega)])
      · rw [if_neg c, if_neg c, if_neg (fun z => c (hc.1.mpr z))]
        exact Or.inl ⟨show (-5 : Int32) < 0 by decide, rfl, rfl⟩
theorem passN_t {C : fOm} {b : Nat} (h : cB C b) (n : Nat) : f_passN b C n b 4 = C b 4 + nI n := by
  induction n with
  | zero => rw [nI_0, Int32.add_zero]; rfl
  | succ n ih =>
    show f_passOne (f_passN b C n) b b 4 = _
    rw [passOne_b (passN_MB h n).2, pk_us, ih, nI_succ, Int32.add_assoc]
theorem ticks_D {C M : fOm} {b : Nat} {t f : Int32} {T : Nat} (h : SR C b (M 648)) (hW : MW (M 648)) (hT : TK (M 648) T) (hT2 : T < 1000000000) : Done C (f_passTW C b t) b (f_passTR C b t) M (m_tK M t f) (m_kIf M f) T := by
  unfold f_passTR f_passTW m_tK
  rcases btw_k (x := t) 1 200 (by omega) (by omega) with ⟨v, v1, v2, v3, v4⟩ | ⟨v1, -⟩
  · have v4 : ¬ f_btw t 1 200 = 0 := v4
    rw [if_neg v4, if_neg v4, if_neg v4]
    have et : t.toNatClampNeg = v := by rw [v3, nI_clamp (by omega)]
    have hK : SR C b (m_kIf M f 648) := by rw [kIf_648]; exact h
    have hP := hK.passN v
    rw [et]
    obtain ⟨n, hn, en, ex⟩ := hT
    have hWK : MW (m_kIf M f 648) := by rw [kIf_648]; exact hW
    have e4 : f_passN b C v b 4 = nI (n + v) := by rw [passN_t h.cB, ← h.c5.2.2.2, en, nI_add]
    have m4 : m_pN (m_kIf M f) v 648 4 = nI (n + v) := hP.c5.2.2.2.trans e4
    refine Or.inr ⟨by rw [e4]; exact nI_pos' (by omega), by show m_pN (m_kIf M f) v 648 4 = _; rw [m4, e4], mpN_M v, hP, (pN_K hWK v).2, n + v, by omega, m4, fun r hr => ?_⟩
    obtain ⟨x, hx, exr⟩ := ex r hr
    obtain ⟨y, hy, ey⟩ := pN_GL hWK hr v
    rw [kIf_648] at ey
    exact ⟨x + y, by omega, by show m_pN (m_kIf M f) v 648 (10 + 6 * r) = _; rw [ey, exr, nI_add]⟩
  · rw [if_pos (show f_btw t 1 200 = 0 from v1), if_pos (show f_btw t 1 200 = 0 from v1), if_pos (show f_btw t 1 200 = 0 from v1)]
    exact Or.inl ⟨show (-2 : Int32) < 0 by decide, rfl, rfl⟩
