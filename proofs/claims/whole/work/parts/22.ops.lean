/-! ===== a state is copied ===== -/
theorem LRp.cp {C W : fOm} {k k2 r : Nat} {a : Nat → Int32} (h : LRp C k2 a r) (h0 : W k 0 = C k2 0) (h1 : ∀ p, p < 32 → W (k + 1) p = C (k2 + 1) p ∧ W (k + 2) p = C (k2 + 2) p ∧ W (k + 3) p = C (k2 + 3) p) (h4 : ∀ t, t < 5 → W (k + 4) t = C (k2 + 4) t) : LRp W k a r := by
  obtain ⟨P, hP4, hP, eP, eP2⟩ := h.P
  refine ⟨by rw [h0]; exact h.1, by rw [h0]; exact h.2.1, fun t ht => by rw [h4 t ht]; exact h.2.2.1 t ht, fun p hp => ?_⟩
  rw [h0] at hp
  obtain ⟨x1, x2, x3⟩ := h1 p (by omega)
  exact (h.2.2.2 p hp).tx x1 x2 x3 rfl rfl rfl
theorem DR.cp {C W : fOm} {k k2 d : Nat} {a : Nat → Int32} (h : DR C k2 a d) (h0 : ∀ j, j < 9 → j ≠ 7 → W k j = C k2 j) (h1 : ∀ i, i < 12 → W (k + 1) i = C (k2 + 1) i) : DR W k a d := by
  obtain ⟨g1, g2, g3⟩ := h
  unfold DR
  rw [h0 0 (by omega) (by omega), h0 1 (by omega) (by omega), h0 2 (by omega) (by omega), h0 3 (by omega) (by omega), h0 4 (by omega) (by omega), h0 5 (by omega) (by omega), h0 6 (by omega) (by omega), h0 8 (by omega) (by omega)]
  refine ⟨g1, g2, ?_⟩
  rcases g3 with q | ⟨q1, q2, q3, q4⟩ | ⟨q1, q2, q3, q4⟩ | q | q
  · exact Or.inl q
  · refine Or.inr (Or.inl ⟨q1, q2, q3, fun i hi => ?_⟩)
    have hi2 := Nat.lt_of_lt_of_le hi (tn_le (n := 8) q3 rfl)
    rw [h1 i (by omega)]
    exact q4 i hi
  · refine Or.inr (Or.inr (Or.inl ⟨q1, q2, q3, fun i hi => ?_⟩))
    have hi2 := Nat.lt_of_lt_of_le hi (tn_le (n := 12) q3 rfl)
    rw [h1 i (by omega)]
    exact q4 i hi
  · exact Or.inr (Or.inr (Or.inr (Or.inl q)))
  · exact Or.inr (Or.inr (Or.inr (Or.inr q)))
theorem JR.cp {C W : fOm} {k k2 j : Nat} {a : Nat → Int32} (h : JR C k2 a j) (h0 : ∀ i, i < 6 → W k i = C k2 i) : JR W k a j := by
  obtain ⟨g1, g2, g3, g4, g5⟩ := h
  exact ⟨fun i hi => by rw [h0 i hi]; exact g1 i hi, g2, g3, g4, by rw [h0 4 (by omega)]; exact g5⟩
theorem cp_e {ω : fOm} {k0 k1 q x : Nat} (hx : x < ln q) : f_cp ω k0 k1 q k1 x = ω k0 x := by
  unfold f_cp
  rw [wr_s, pk_cpy_in (by omega) (by omega)]
  congr 1
  omega
theorem rcopy_c {ω : fOm} {k k2 : Nat} (hd : k + 5 ≤ k2 ∨ k2 + 5 ≤ k) : f_rcopy ω k k2 k 0 = ω k2 0 ∧ (∀ p, p < 32 → f_rcopy ω k k2 (k + 1) p = ω (k2 + 1) p ∧ f_rcopy ω k k2 (k + 2) p = ω (k2 + 2) p ∧ f_rcopy ω k k2 (k + 3) p = ω (k2 + 3) p) ∧ ∀ t, t < 5 → f_rcopy ω k k2 (k + 4) t = ω (k2 + 4) t := by
  have n : ∀ {w : fOm} {k0 k1 q z : Nat}, z ≠ k1 → f_cp w k0 k1 q z = w z := fun hz => wr_ne hz
  unfold f_rcopy
  refine ⟨?_, fun p hp => ⟨?_, ?_, ?_⟩, fun t ht => ?_⟩
  · rw [n (by omega), n (by omega), n (by omega), n (by omega), wu_i, if_pos rfl]
  · rw [n (by omega), n (by omega), n (by omega), cp_e (q := 7) (show p < 32 from hp), wu_ne (by omega)]
  · rw [n (by omega), n (by omega), cp_e (q := 7) (show p < 32 from hp), n (by omega), wu_ne (by omega)]
  · rw [n (by omega), cp_e (q := 7) (show p < 32 from hp), n (by omega), n (by omega), wu_ne (by omega)]
  · rw [cp_e (q := 8) (show t < 5 from ht), n (by omega), n (by omega), n (by omega), wu_ne (by omega)]
theorem dcopy_c {ω : fOm} {k k2 : Nat} (hd : k + 2 ≤ k2 ∨ k2 + 2 ≤ k) : (∀ j, j < 9 → j ≠ 7 → f_dcopy ω k k2 k j = ω k2 j) ∧ ∀ i, i < 12 → f_dcopy ω k k2 (k + 1) i = ω (k2 + 1) i := by
  have s : ∀ (w : fOm) (j : Nat) (v : Int32), wu w k j v k2 = w k2 := fun w j v => wu_ne (by omega)
  have s1 : ∀ (w : fOm) (j : Nat) (v : Int32), wu w k j v (k2 + 1) = w (k2 + 1) := fun w j v => wu_ne (by omega)
  unfold f_dcopy
  simp only [s]
  refine ⟨fun j hj h7 => ?_, fun i hi => ?_⟩
  · have n : ∀ {w : fOm} {k0 k1 q z : Nat}, z ≠ k1 → f_cp w k0 k1 q z = w z := fun hz => wr_ne hz
    rw [n (by omega)]
    simp only [wu_i]
    rcases (show j = 0 ∨ j = 1 ∨ j = 2 ∨ j = 3 ∨ j = 4 ∨ j = 5 ∨ j = 6 ∨ j = 8 by omega) with rfl | rfl | rfl | rfl | rfl | rfl | rfl | rfl <;> simp
  · rw [cp_e (q := 10) (show i < 12 from hi)]
    simp only [s1]
theorem jcopy_c {ω : fOm} {k k2 : Nat} (hd : k ≠ k2) : ∀ j, j < 6 → f_jcopy ω k k2 k j = ω k2 j := by
  have s : ∀ (w : fOm) (j : Nat) (v : Int32), wu w k j v k2 = w k2 := fun w j v => wu_ne (Ne.symm hd)
  intro j hj
  unfold f_jcopy
  simp only [s, wu_i]
  rcases (show j = 0 ∨ j = 1 ∨ j = 2 ∨ j = 3 ∨ j = 4 ∨ j = 5 by omega) with rfl | rfl | rfl | rfl | rfl | rfl <;> simp
abbrev apart (b b2 : Nat) : Prop := b + 58 ≤ b2 ∨ b2 + 58 ≤ b
theorem cpR_c {w : fOm} {b b2 n : Nat} (hd : apart b b2) (hn : n ≤ 5) : ∀ r, r < n → f_cpR b b2 w n (b + 5 + 5 * r) 0 = w (b2 + 5 + 5 * r) 0 ∧ (∀ p, p < 32 → f_cpR b b2 w n (b + 5 + 5 * r + 1) p = w (b2 + 5 + 5 * r + 1) p ∧ f_cpR b b2 w n (b + 5 + 5 * r + 2) p = w (b2 + 5 + 5 * r + 2) p ∧ f_cpR b b2 w n (b + 5 + 5 * r + 3) p = w (b2 + 5 + 5 * r + 3) p) ∧ ∀ t, t < 5 → f_cpR b b2 w n (b + 5 + 5 * r + 4) t = w (b2 + 5 + 5 * r + 4) t := by
  induction n with
  | zero => exact fun r hr => absurd hr (by omega)
  | succ n ih =>
    intro r hr
    have src : ∀ q, b2 ≤ q → q < b2 + 58 → f_cpR b b2 w n q = w q := fun q h1 h2 => cpR_M (by omega) q (by show ¬ (b + 5 ≤ q ∧ q < b + 58); unfold apart at hd; omega)
    show f_rcopy (f_cpR b b2 w n) (b + 5 + 5 * n) (b2 + 5 + 5 * n) _ 0 = _ ∧ (∀ p, p < 32 → f_rcopy (f_cpR b b2 w n) (b + 5 + 5 * n) (b2 + 5 + 5 * n) _ p = _ ∧ f_rcopy (f_cpR b b2 w n) (b + 5 + 5 * n) (b2 + 5 + 5 * n) _ p = _ ∧ f_rcopy (f_cpR b b2 w n) (b + 5 + 5 * n) (b2 + 5 + 5 * n) _ p = _) ∧ ∀ t, t < 5 → f_rcopy (f_cpR b b2 w n) (b + 5 + 5 * n) (b2 + 5 + 5 * n) _ t = _
    by_cases e : r = n
    · subst e
      obtain ⟨c1, c2, c3⟩ := rcopy_c (ω := f_cpR b b2 w r) (k := b + 5 + 5 * r) (k2 := b2 + 5 + 5 * r) (by unfold apart at hd; omega)
      refine ⟨by rw [c1, src _ (by omega) (by omega)], fun p hp => ?_, fun t ht => by rw [c3 t ht, src _ (by omega) (by omega)]⟩
      obtain ⟨d1, d2, d3⟩ := c2 p hp
      exact ⟨by rw [d1, src _ (by omega) (by omega)], by rw [d2, src _ (by omega) (by omega)], by rw [d3, src _ (by omega) (by omega)]⟩
    · have o : ∀ i, i < 5 → f_rcopy (f_cpR b b2 w n) (b + 5 + 5 * n) (b2 + 5 + 5 * n) (b + 5 + 5 * r + i) = f_cpR b b2 w n (b + 5 + 5 * r + i) := fun i hi => rcopy_M _ (by show ¬ (b + 5 + 5 * n ≤ b + 5 + 5 * r + i ∧ b + 5 + 5 * r + i < b + 5 + 5 * n + 5); omega)
      have o0 : f_rcopy (f_cpR b b2 w n) (b + 5 + 5 * n) (b2 + 5 + 5 * n) (b + 5 + 5 * r) = f_cpR b b2 w n (b + 5 + 5 * r) := o 0 (by omega)
      obtain ⟨i1, i2, i3⟩ := ih (by omega) r (by omega)
      rw [o0, o 1 (by omega), o 2 (by omega), o 3 (by omega), o 4 (by omega)]
      exact ⟨i1, i2, i3⟩
theorem cpD_c {w : fOm} {b b2 n : Nat} (hd : apart b b2) (hn : n ≤ 12) : ∀ d, d < n → (∀ j, j < 9 → j ≠ 7 → f_cpD b b2 w n (b + 30 + 2 * d) j = w (b2 + 30 + 2 * d) j) ∧ ∀ i, i < 12 → f_cpD b b2 w n (b + 30 + 2 * d + 1) i = w (b2 + 30 + 2 * d + 1) i := by
  induction n with
  | zero => exact fun r hr => absurd hr (by omega)
  | succ n ih =>
    intro d hdn
    have src : ∀ q, b2 ≤ q → q < b2 + 58 → f_cpD b b2 w n q = w q := fun q h1 h2 => cpD_M (by omega) q (by show ¬ (b + 5 ≤ q ∧ q < b + 58); unfold apart at hd; omega)
    show (∀ j, j < 9 → j ≠ 7 → f_dcopy (f_cpD b b2 w n) (b + 30 + 2 * n) (b2 + 30 + 2 * n) _ j = _) ∧ ∀ i, i < 12 → f_dcopy (f_cpD b b2 w n) (b + 30 + 2 * n) (b2 + 30 + 2 * n) _ i = _
    by_cases e : d = n
    · subst e
      obtain ⟨c1, c2⟩ := dcopy_c (ω := f_cpD b b2 w d) (k := b + 30 + 2 * d) (k2 := b2 + 30 + 2 * d) (by unfold apart at hd; omega)
      exact ⟨fun j hj h7 => by rw [c1 j hj h7, src _ (by omega) (by omega)], fun i hi => by rw [c2 i hi, src _ (by omega) (by omega)]⟩
    · have o : ∀ i, i < 2 → f_dcopy (f_cpD b b2 w n) (b + 30 + 2 * n) (b2 + 30 + 2 * n) (b + 30 + 2 * d + i) = f_cpD b b2 w n (b + 30 + 2 * d + i) := fun i hi => dcopy_M _ (by show ¬ (b + 30 + 2 * d + i = b + 30 + 2 * n ∨ b + 30 + 2 * d + i = b + 30 + 2 * n + 1); omega)
      have o0 : f_dcopy (f_cpD b b2 w n) (b + 30 + 2 * n) (b2 + 30 + 2 * n) (b + 30 + 2 * d) = f_cpD b b2 w n (b + 30 + 2 * d) := o 0 (by omega)
      rw [o0, o 1 (by omega)]
      exact ih (by omega) d (by omega)
theorem cpJ_c {w : fOm} {b b2 n : Nat} (hd : apart b b2) (hn : n ≤ 4) : ∀ d, d < n → ∀ j, j < 6 → f_cpJ b b2 w n (b + 54 + d) j = w (b2 + 54 + d) j := by
  induction n with
  | zero => exact fun r hr => absurd hr (by omega)
  | succ n ih =>
    intro d hdn j hj
    have src : ∀ q, b2 ≤ q → q < b2 + 58 → f_cpJ b b2 w n q = w q := fun q h1 h2 => cpJ_M (by omega) q (by show ¬ (b + 5 ≤ q ∧ q < b + 58); unfold apart at hd; omega)
    show f_jcopy (f_cpJ b b2 w n) (b + 54 + n) (b2 + 54 + n) _ j = _
    by_cases e : d = n
    · subst e
      rw [jcopy_c (by unfold apart at hd; omega) j hj, src _ (by omega) (by omega)]
    · rw [jcopy_M (b + 54 + d) (by show ¬ (b + 54 + d = b + 54 + n); omega)]
      exact ih (by omega) d (by omega) j hj
theorem SR.copy {C : fOm} {b b2 : Nat} {a : Nat → Int32} (h : SR C b2 a) (hd : apart b b2) : SR (f_scopy C b b2) b a := by
  have hne : b2 ≠ b + 1 := by unfold apart at hd; omega
  have hB := h.cB
  have n5 : (C b2 5).toNatClampNeg ≤ 5 := tn_le hB.1 rfl
  have n6 : (C b2 6).toNatClampNeg ≤ 12 := tn_le hB.2.1 rfl
  have n7 : (C b2 7).toNatClampNeg ≤ 4 := tn_le hB.2.2 rfl
  have eb := scopy_b (b := b) hB hne
  rw [scopy_e hB hne] at eb ⊢
  have s0 : ∀ q, b2 ≤ q → q < b2 + 58 → f_cp0 C b b2 q = C q := fun q h1 h2 => cp0_M q (by show ¬ (q = b ∨ q = b + 1); unfold apart at hd; omega)
  have sR : ∀ q, b2 ≤ q → q < b2 + 58 → f_cpR b b2 (f_cp0 C b b2) (C b2 5).toNatClampNeg q = C q := fun q h1 h2 => (cpR_M n5 q (by show ¬ (b + 5 ≤ q ∧ q < b + 58); unfold apart at hd; omega)).trans (s0 q h1 h2)
  have sD : ∀ q, b2 ≤ q → q < b2 + 58 → f_cpD b b2 (f_cpR b b2 (f_cp0 C b b2) (C b2 5).toNatClampNeg) (C b2 6).toNatClampNeg q = C q := fun q h1 h2 => (cpD_M n6 q (by show ¬ (b + 5 ≤ q ∧ q < b + 58); unfold apart at hd; omega)).trans (sR q h1 h2)
  have cR := cpR_c (w := f_cp0 C b b2) hd n5
  have cD := cpD_c (w := f_cpR b b2 (f_cp0 C b b2) (C b2 5).toNatClampNeg) hd n6
  have cJ := cpJ_c (w := f_cpD b b2 (f_cpR b b2 (f_cp0 C b b2) (C b2 5).toNatClampNeg) (C b2 6).toNatClampNeg) hd n7
  -- what the later steps leave
  have lD : ∀ n q, n ≤ 12 → ∀ w : fOm, (q < b + 30 ∨ b + 54 ≤ q) → f_cpD b b2 w n q = w q := by
    intro n
    induction n with
    | zero => exact fun q _ w _ => rfl
    | succ n ih =>
      intro q hn w hq
      exact (dcopy_M q (by show ¬ (q = b + 30 + 2 * n ∨ q = b + 30 + 2 * n + 1); omega)).trans (ih q (by omega) w hq)
  have lJ : ∀ n q, n ≤ 4 → ∀ w : fOm, (q < b + 54 ∨ b + 58 ≤ q) → f_cpJ b b2 w n q = w q := by
    intro n
    induction n with
    | zero => exact fun q _ w _ => rfl
    | succ n ih =>
      intro q hn w hq
      exact (jcopy_M q (by show ¬ (q = b + 54 + n); omega)).trans (ih q (by omega) w hq)
  have lR : ∀ n q, n ≤ 5 → ∀ w : fOm, (q < b + 5 ∨ b + 30 ≤ q) → f_cpR b b2 w n q = w q := by
    intro n
    induction n with
    | zero => exact fun q _ w _ => rfl
    | succ n ih =>
      intro q hn w hq
      exact (rcopy_M q (by show ¬ (b + 5 + 5 * n ≤ q ∧ q < b + 5 + 5 * n + 5); omega)).trans (ih q (by omega) w hq)
  obtain ⟨e5, e6, e7, e4⟩ := h.c5
  have e1 : ∀ i, i < 4 → f_cpJ b b2 (f_cpD b b2 (f_cpR b b2 (f_cp0 C b b2) (C b2 5).toNatClampNeg) (C b2 6).toNatClampNeg) (C b2 7).toNatClampNeg (b + 1) i = C (b2 + 1) i := fun i hi => by
    rw [lJ _ _ n7 _ (by omega), lD _ _ n6 _ (by omega), lR _ _ n5 _ (by omega)]
    unfold f_cp0
    try dsimp only
    rw [wu_ne (by omega), wu_ne (by omega), wu_ne (by omega), wu_ne (by omega)]
    exact cp_e (q := 2) (show i < 4 from hi)
  generalize hw : f_cpJ b b2 (f_cpD b b2 (f_cpR b b2 (f_cp0 C b b2) (C b2 5).toNatClampNeg) (C b2 6).toNatClampNeg) (C b2 7).toNatClampNeg = W at *
  refine ⟨fun i hi => by rw [e1 i hi]; exact h.1 i hi, fun i hi hi2 => ?_, h.2.2.1, h.W, fun r hr => ?_, h.2.2.2.2.2.1, fun d hd2 => ?_, fun j hj2 => ?_⟩
  · rw [eb, h.2.1 i hi hi2]
    rcases (show i = 4 ∨ i = 5 ∨ i = 6 ∨ i = 7 by omega) with rfl | rfl | rfl | rfl
    · rw [pk_un (by omega), pk_un (by omega), pk_un (by omega), pk_us]
    · rw [pk_un (by omega), pk_un (by omega), pk_us]
    · rw [pk_un (by omega), pk_us]
    · rw [pk_us]
  · have hL := h.2.2.2.2.1 r hr
    rw [e5] at hr
    obtain ⟨c1, c2, c3⟩ := cR r hr
    have z : ∀ i, i < 5 → W (b + 5 + 5 * r + i) = f_cpR b b2 (f_cp0 C b b2) (C b2 5).toNatClampNeg (b + 5 + 5 * r + i) := fun i hi => by rw [← hw, lJ _ _ n7 _ (by omega), lD _ _ n6 _ (by omega)]
    have z0 := z 0 (by omega)
    rw [Nat.add_zero] at z0
    refine hL.cp (by rw [z0, c1, s0 _ (by omega) (by omega)]) (fun p hp => ?_) (fun t ht => by rw [z 4 (by omega), c3 t ht, s0 _ (by omega) (by omega)])
    obtain ⟨d1, d2, d3⟩ := c2 p hp
    exact ⟨by rw [z 1 (by omega), d1, s0 _ (by omega) (by omega)], by rw [z 2 (by omega), d2, s0 _ (by omega) (by omega)], by rw [z 3 (by omega), d3, s0 _ (by omega) (by omega)]⟩
  · have hD := h.2.2.2.2.2.2.1 d hd2
    rw [e6] at hd2
    obtain ⟨c1, c2⟩ := cD d hd2
    have z : ∀ i, i < 2 → W (b + 30 + 2 * d + i) = f_cpD b b2 (f_cpR b b2 (f_cp0 C b b2) (C b2 5).toNatClampNeg) (C b2 6).toNatClampNeg (b + 30 + 2 * d + i) := fun i hi => by rw [← hw, lJ _ _ n7 _ (by omega)]
    have z0 := z 0 (by omega)
    rw [Nat.add_zero] at z0
    exact hD.cp (fun j hj h7 => by rw [z0, c1 j hj h7, sR _ (by omega) (by omega)]) (fun i hi => by rw [z 1 (by omega), c2 i hi, sR _ (by omega) (by omega)])
  · have hJ := h.2.2.2.2.2.2.2 j hj2
    rw [e7] at hj2
    exact hJ.cp (fun i hi => by rw [cJ j hj2 i hi, sD _ (by omega) (by omega)])
/-- another world with the same cells there -/
theorem SR.eqv {C W : fOm} {b : Nat} {a a2 : Nat → Int32} (h : SR C b a) (hC : ∀ q, b ≤ q → q < b + 58 → W q = C q) (ha : ∀ i, i < 770 → a2 i = a i) : SR W b a2 := by
  have n5 := h.W.n5
  have n6 := h.W.n6
  have n7 := h.W.n7
  have e5 := ha 5 (by omega)
  have e8 : ∀ l, l < 5 → a2 (8 + 6 * l) = a (8 + 6 * l) := fun l hl => ha _ (by omega)
  obtain ⟨g1, g2, g3, g4, g5, g6, g7, g8⟩ := h
  refine ⟨fun i hi => by rw [ha i (by omega), hC _ (by omega) (by omega)]; exact g1 i hi, fun i hi hi2 => by rw [ha i (by omega), hC _ (by omega) (by omega)]; exact g2 i hi hi2, ?_, ?_, fun r hr => ?_, fun r hr hr2 => ?_, fun d hd => ?_, fun j hj => ?_⟩
  · unfold SB
    rw [ha 0 (by omega), ha 1 (by omega), ha 2 (by omega), ha 3 (by omega)]
    exact g3
  · unfold SN
    rw [e5, ha 6 (by omega), ha 7 (by omega)]
    exact g4
  · rw [e5] at hr
    exact (g5 r hr).fr (fun q q1 q2 => hC q (by omega) (by omega)) (fun i hi => ha i (by unfold inL at hi; omega)) (e8 r (by omega))
  · rw [e5] at hr2
    obtain ⟨x1, x2⟩ := g6 r hr hr2
    refine ⟨fun t ht => (ha _ (by omega)).trans (x1 t ht), fun p hp => ?_⟩
    rw [ha _ (by omega), ha _ (by omega), ha _ (by omega)]
    exact x2 p hp
  · rw [ha 6 (by omega)] at hd
    exact (g7 d hd).fr (hC _ (by omega) (by omega)) (hC _ (by omega) (by omega)) (fun i hi => ha i (by unfold inD at hi; omega)) e5 e8 g4.1.2
  · rw [ha 7 (by omega)] at hj
    exact (g8 j hj).fr (hC _ (by omega) (by omega)) (fun i hi => ha i (by unfold inJ at hi; omega)) e5 e8 g4.1.2
