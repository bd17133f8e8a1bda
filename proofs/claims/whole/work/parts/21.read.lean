/-! ===== what is read off a state ===== -/
theorem btw_m {l n5 : Int32} {N : Nat} (h : 0 ≤ n5 ∧ n5 ≤ nI N) (hN : N < 1000) : (f_btw l 0 (n5 - 1) = 0 ∧ (l < 0 ∨ n5 ≤ l)) ∨ (∃ r, l = nI r ∧ r < n5.toNatClampNeg ∧ ¬ f_btw l 0 (n5 - 1) = 0 ∧ ¬ l < 0 ∧ ¬ n5 ≤ l) := by
  obtain ⟨n, hn, e⟩ := rgN (n := N) h (nI_toInt (by omega))
  rw [e, nI_clamp (by omega)]
  rcases pk_ix l (n := n) (by omega) with q | q | ⟨r, hr, q⟩
  · refine Or.inl ⟨?_, Or.inl q⟩
    unfold f_btw
    rw [if_pos q]
  · refine Or.inl ⟨?_, Or.inr q⟩
    unfold f_btw
    by_cases h0 : l < 0
    · rw [if_pos h0]
    · rw [if_neg h0, if_pos]
      refine Int32.lt_of_lt_of_le ?_ q
      have h1 : 0 ≤ n := Nat.zero_le n
      cases n with
      | zero => decide
      | succ n =>
        rw [nI_pred]
        exact nI_lt (by omega) (by omega)
  · subst q
    refine Or.inr ⟨r, rfl, hr, ?_, nI_pos (by omega), nI_ge hr (by omega)⟩
    obtain ⟨m, rfl⟩ : ∃ m, n = m + 1 := ⟨n - 1, by omega⟩
    unfold f_btw
    rw [if_neg (nI_pos (by omega)), nI_pred, if_neg (nI_nlt (by omega) (by omega))]
    decide
theorem SR.loopOf {C M : fOm} {b : Nat} (h : SR C b (M 648)) (l : Int32) : (f_btw l 0 (M 648 5 - 1) = 0 ∧ f_ringOf C b l = none) ∨ (∃ r, l = nI r ∧ r < (M 648 5).toNatClampNeg ∧ ¬ f_btw l 0 (M 648 5 - 1) = 0 ∧ f_ringOf C b l = some (b + 5 + 5 * r)) := by
  rcases btw_m (l := l) (N := 5) h.W.1 (by decide) with ⟨q, z⟩ | ⟨r, q1, q2, q3, q4, q5⟩
  · refine Or.inl ⟨q, ?_⟩
    unfold f_ringOf
    rw [← h.c5.1]
    rcases z with z | z
    · rw [if_pos z]
    · by_cases c : l < 0
      · rw [if_pos c]
      · rw [if_neg c, if_pos z]
  · exact Or.inr ⟨r, q1, q2, q3, by rw [q1]; exact h.ring q2⟩
theorem SR.placeOf {C M : fOm} {b : Nat} (h : SR C b (M 648)) (l p : Int32) : (m_isP M l p = 0 ∧ f_ringWith C b l p = none) ∨ (∃ r q, l = nI r ∧ p = nI q ∧ r < (M 648 5).toNatClampNeg ∧ r < 5 ∧ q < (C (b + 5 + 5 * r) 0).toNatClampNeg ∧ q < 32 ∧ ¬ m_isP M l p = 0 ∧ f_ringWith C b l p = some (b + 5 + 5 * r)) := by
  unfold m_isP f_ringWith
  rcases h.loopOf l with ⟨q1, q2⟩ | ⟨r, q1, q2, q3, q4⟩
  · rw [if_pos q1, q2]
    exact Or.inl ⟨rfl, rfl⟩
  · have hr5 : r < 5 := Nat.lt_of_lt_of_le q2 h.W.n5
    have hL := h.2.2.2.2.1 r q2
    obtain ⟨P, hP4, hP, eP, eP2⟩ := hL.P
    have hi0 : iL (nI r) 0 = 8 + 6 * r := (iL_n (m := 0) hr5 (by omega)).trans (by omega)
    rw [if_neg q3, q4, q1, hi0, hL.1]
    try dsimp only
    rcases btw_m (l := p) (N := 32) ⟨Int32.le_trans (by decide) hL.2.1.1, hL.2.1.2⟩ (by decide) with ⟨z, y⟩ | ⟨q, z1, z2, z3, z4, z5⟩
    · rw [if_pos z]
      refine Or.inl ⟨rfl, ?_⟩
      have : f_has C (b + 5 + 5 * r) p = 0 := by
        unfold f_has
        rcases y with y | y
        · rw [if_pos y]
        · by_cases c : p < 0
          · rw [if_pos c]
          · rw [if_neg c, if_pos y]
      rw [this, if_pos rfl]
    · rw [if_neg z3]
      refine Or.inr ⟨r, q, rfl, z1, q2, hr5, z2, by omega, by decide, ?_⟩
      rw [z1, has_n hL z2, if_neg (by decide)]
theorem SR.devOf {C M : fOm} {b : Nat} (h : SR C b (M 648)) (l : Int32) : (f_btw l 0 (M 648 6 - 1) = 0 ∧ f_devOf C b l = none) ∨ (∃ d, l = nI d ∧ d < (M 648 6).toNatClampNeg ∧ d < 12 ∧ ¬ f_btw l 0 (M 648 6 - 1) = 0 ∧ f_devOf C b l = some (b + 30 + 2 * d)) := by
  rcases btw_m (l := l) (N := 12) h.W.2.1 (by decide) with ⟨q, z⟩ | ⟨r, q1, q2, q3, q4, q5⟩
  · refine Or.inl ⟨q, ?_⟩
    unfold f_devOf
    rw [← h.c5.2.1]
    rcases z with z | z
    · rw [if_pos z]
    · by_cases c : l < 0
      · rw [if_pos c]
      · rw [if_neg c, if_pos z]
  · have := h.W.n6
    refine Or.inr ⟨r, q1, q2, by omega, q3, ?_⟩
    unfold f_devOf
    rw [if_neg q4, ← h.c5.2.1, if_neg q5, q1, nI_clamp (by omega)]
theorem SR.joinOf {C M : fOm} {b : Nat} (h : SR C b (M 648)) (l : Int32) : (f_btw l 0 (M 648 7 - 1) = 0 ∧ f_joinOf C b l = none) ∨ (∃ d, l = nI d ∧ d < (M 648 7).toNatClampNeg ∧ d < 4 ∧ ¬ f_btw l 0 (M 648 7 - 1) = 0 ∧ f_joinOf C b l = some (b + 54 + d)) := by
  rcases btw_m (l := l) (N := 4) h.W.2.2 (by decide) with ⟨q, z⟩ | ⟨r, q1, q2, q3, q4, q5⟩
  · refine Or.inl ⟨q, ?_⟩
    unfold f_joinOf
    rw [← h.c5.2.2.1]
    rcases z with z | z
    · rw [if_pos z]
    · by_cases c : l < 0
      · rw [if_pos c]
      · rw [if_neg c, if_pos z]
  · have := h.W.n7
    refine Or.inr ⟨r, q1, q2, by omega, q3, ?_⟩
    unfold f_joinOf
    rw [if_neg q4, ← h.c5.2.2.1, if_neg q5, q1, nI_clamp (by omega)]
theorem iL0 {r : Nat} (hr : r < 5) : iL (nI r) 0 = 8 + 6 * r := (iL_n (m := 0) hr (by omega)).trans (by omega)
theorem mc_tn {r p : Nat} (hr : r < 5) (hp : p < 32) : (mc (nI r) (nI p)).toNatClampNeg = 290 + 96 * r + 3 * p ∧ (mc (nI r) (nI p) + 1).toNatClampNeg = 290 + 96 * r + 3 * p + 1 ∧ (mc (nI r) (nI p) + 2).toNatClampNeg = 290 + 96 * r + 3 * p + 2 := by
  rw [mc_n, nI_1, nI_2, nI_clamp (by omega), nI_clamp (by omega), nI_clamp (by omega)]
  exact ⟨rfl, rfl, rfl⟩
theorem LRp.flashes {C M : fOm} {k r : Nat} (h : LRp C k (M 648) r) (hr : r < 5) : f_flashes C k = m_flashes M (nI r) := by
  obtain ⟨P, hP4, hP, eP, eP2⟩ := h.P
  unfold f_flashes m_flashes
  rw [iL0 hr, h.1]
  have key : ∀ j, j ≤ (C k 0).toNatClampNeg → f_fl C k j = m_fl M (nI r) j := by
    intro j
    induction j with
    | zero => exact fun _ => rfl
    | succ j ih =>
      intro hj
      have hc := (h.2.2.2 j (by omega)).iff
      show (if C (k + 2) j ≤ 0 then f_fl C k j else f_fl C k j + 1) = m_fl M (nI r) j + (if M 648 (mc (nI r) (nI j)).toNatClampNeg < 0 then 0 else 1)
      rw [(mc_tn hr (by omega)).1, ih (by omega)]
      by_cases q : C (k + 2) j ≤ 0
      · rw [if_pos q, if_pos (hc.1.mp q), Int32.add_zero]
      · rw [if_neg q, if_neg (fun z => q (hc.1.mpr z))]
  exact key _ (Nat.le_refl _)
theorem LRp.strengths {C M : fOm} {k r : Nat} (h : LRp C k (M 648) r) (hr : r < 5) : f_strengths C k = m_strengths M (nI r) := by
  obtain ⟨P, hP4, hP, eP, eP2⟩ := h.P
  unfold f_strengths m_strengths
  rw [iL0 hr, h.1]
  have key : ∀ j, j ≤ (C k 0).toNatClampNeg → f_sm C k j = m_sm M (nI r) j := by
    intro j
    induction j with
    | zero => exact fun _ => rfl
    | succ j ih =>
      intro hj
      have hc := (h.2.2.2 j (by omega)).iff
      show f_sm C k j + C (k + 2) j = m_sm M (nI r) j + M 648 (mc (nI r) (nI j) + 1).toNatClampNeg
      rw [(mc_tn hr (by omega)).2.1, ih (by omega), hc.2.2.2]
  exact key _ (Nat.le_refl _)
theorem LRp.faintest {C M : fOm} {k r : Nat} (h : LRp C k (M 648) r) (hr : r < 5) : f_faintest C k = m_faintest M (nI r) := by
  obtain ⟨P, hP4, hP, eP, eP2⟩ := h.P
  unfold f_faintest m_faintest
  rw [iL0 hr, h.1]
  have key : ∀ j, j ≤ (C k 0).toNatClampNeg → f_fa C k j = m_fn M (nI r) j := by
    intro j
    induction j with
    | zero => exact fun _ => rfl
    | succ j ih =>
      intro hj
      have hc := (h.2.2.2 j (by omega)).iff
      show (if C (k + 2) j ≤ 0 then f_fa C k j else if f_fa C k j = 0 then C (k + 2) j else if f_fa C k j ≤ C (k + 2) j then f_fa C k j else C (k + 2) j) = (if M 648 (mc (nI r) (nI j) + 1).toNatClampNeg ≤ 0 then m_fn M (nI r) j else if m_fn M (nI r) j = 0 then M 648 (mc (nI r) (nI j) + 1).toNatClampNeg else if m_fn M (nI r) j ≤ M 648 (mc (nI r) (nI j) + 1).toNatClampNeg then m_fn M (nI r) j else M 648 (mc (nI r) (nI j) + 1).toNatClampNeg)
      rw [(mc_tn hr (by omega)).2.1, ih (by omega), hc.2.2.2]
  exact key _ (Nat.le_refl _)
theorem LRp.tal {C M : fOm} {k r t : Nat} (h : LRp C k (M 648) r) (ht : t < 5) : f_tally C k (nI t) = M 648 (9 + 6 * r + t) := by
  have key : ∀ t, t < 5 → ¬ f_btw (nI t) 0 4 = 0 := by decide +kernel
  unfold f_tally
  rw [if_neg (key t ht), nI_clamp (by omega)]
  exact (h.2.2.1 t ht).symm
theorem SR.flAll {C M : fOm} {b : Nat} (h : SR C b (M 648)) : f_flAll C b = m_sum M 0 := by
  have n5 := h.W.n5
  unfold f_flAll m_sum
  rw [← h.c5.1]
  have key : ∀ j, j ≤ (M 648 5).toNatClampNeg → f_flA C b j = m_su M 0 j := by
    intro j
    induction j with
    | zero => exact fun _ => rfl
    | succ j ih =>
      intro hj
      show f_flA C b j + f_flashes C (b + 5 + 5 * j) = m_su M 0 j + (if (0 : Int32) = 0 then m_flashes M (nI j) else M 648 (iL (nI j) 0))
      rw [if_pos rfl, ih (by omega), (h.2.2.2.2.1 j (by omega)).flashes (by omega)]
  exact key _ (Nat.le_refl _)
theorem SR.taAll {C M : fOm} {b t : Nat} (h : SR C b (M 648)) (ht : t < 5) : f_taAll C b (nI t) = m_sum M (nI (t + 1)) := by
  have n5 := h.W.n5
  unfold f_taAll m_sum
  rw [← h.c5.1]
  have key : ∀ j, j ≤ (M 648 5).toNatClampNeg → f_taA C b (nI t) j = m_su M (nI (t + 1)) j := by
    intro j
    induction j with
    | zero => exact fun _ => rfl
    | succ j ih =>
      intro hj
      show f_taA C b (nI t) j + f_tally C (b + 5 + 5 * j) (nI t) = m_su M (nI (t + 1)) j + (if nI (t + 1) = 0 then m_flashes M (nI j) else M 648 (iL (nI j) (nI (t + 1))))
      rw [if_neg (nI_ne0 (by omega) (by omega)), ih (by omega), (h.2.2.2.2.1 j (by omega)).tal ht, iL_n (by omega) (by omega), show 8 + 6 * j + (t + 1) = 9 + 6 * j + t by omega]
  exact key _ (Nat.le_refl _)
/-! ===== answers that change nothing ===== -/
theorem at_Q {C M : fOm} (h : SR C 1 (M 648)) (l p wh : Int32) : f_at C l p wh = m_at M l p wh := by
  unfold f_at m_at
  rcases h.placeOf l p with ⟨q1, q2⟩ | ⟨r, q, rfl, rfl, hr, hr5, hq, hq32, h1, h2⟩
  · rw [q2, if_pos q1]
  · have hL := h.2.2.2.2.1 r hr
    obtain ⟨m0, m1, m2⟩ := mc_tn hr5 hq32
    rw [h2, if_neg h1]
    try dsimp only
    rw [hL.val hq, hL.str hq, hL.bir hq]
    have hc := hL.2.2.2 q hq
    by_cases w0 : wh = 0
    · rw [if_pos w0, if_pos w0, w0, Int32.add_zero, m0]
    · rw [if_neg w0, if_neg w0]
      by_cases w1 : wh = 1
      · rw [if_pos w1, if_pos w1, w1, m1, hc.iff.2.2.2]
      · rw [if_neg w1, if_neg w1]
        by_cases w2 : wh = 2
        · rw [if_pos w2, if_pos w2, m0, m2]
          by_cases z : C (1 + 5 + 5 * r + 2) q ≤ 0
          · rw [if_pos z, if_pos (hc.iff.1.mp z)]
          · rw [if_neg z, if_neg (fun y => z (hc.iff.1.mpr y)), ← h.c5.2.2.2, (hc.lit z).2.2.2.2]
        · rw [if_neg w2, if_neg w2, iL0 hr5, hL.1]
theorem btw_k {x : Int32} (a b : Nat) (hab : a ≤ b) (hb : b < 1000) : (∃ n : Nat, a ≤ n ∧ n ≤ b ∧ x = nI n ∧ ¬ f_btw x (nI a) (nI b) = 0) ∨ (f_btw x (nI a) (nI b) = 0 ∧ ∀ n : Nat, a ≤ n → n ≤ b → ¬ x = nI n) := by
  by_cases h : f_btw x (nI a) (nI b) = 0
  · refine Or.inr ⟨h, fun n h1 h2 e => ?_⟩
    rw [e] at h
    unfold f_btw at h
    rw [if_neg (nI_nlt h1 (by omega)), if_neg (nI_nlt h2 (by omega))] at h
    exact absurd h (by decide)
  · obtain ⟨n, h1, h2, h3⟩ := btw_n h (a := a) (b := b) (nI_toInt (by omega)) (nI_toInt (by omega)) (by omega)
    exact Or.inl ⟨n, h1, h2, h3, h⟩
theorem ofLoop_Q {C M : fOm} (h : SR C 1 (M 648)) (l wh : Int32) : f_ofLoop C l wh = m_ofLoop M l wh := by
  unfold f_ofLoop m_ofLoop
  rcases h.loopOf l with ⟨q1, q2⟩ | ⟨r, rfl, hr, h1, h2⟩
  · rw [q2, if_pos q1]
  · have hr5 : r < 5 := Nat.lt_of_lt_of_le hr h.W.n5
    have hL := h.2.2.2.2.1 r hr
    have ht := fun t ht => hL.tal (t := t) ht
    have t0 : f_tally C (1 + 5 + 5 * r) 0 = M 648 (9 + 6 * r + 0) := ht 0 (by omega)
    have t1 : f_tally C (1 + 5 + 5 * r) 1 = M 648 (9 + 6 * r + 1) := ht 1 (by omega)
    have t2 : f_tally C (1 + 5 + 5 * r) 2 = M 648 (9 + 6 * r + 2) := ht 2 (by omega)
    have t3 : f_tally C (1 + 5 + 5 * r) 3 = M 648 (9 + 6 * r + 3) := ht 3 (by omega)
    have t4 : f_tally C (1 + 5 + 5 * r) 4 = M 648 (9 + 6 * r + 4) := ht 4 (by omega)
    rw [h2, if_neg h1]
    try dsimp only
    rw [iL0 hr5, hL.1, hL.flashes hr5, hL.strengths hr5, hL.faintest hr5, t0, t1, t2, t3, t4]
    by_cases w0 : wh = 0
    · rw [if_pos w0, if_pos w0]
    · rw [if_neg w0, if_neg w0]
      by_cases w1 : wh = 1
      · rw [if_pos w1, if_pos w1]
      · rw [if_neg w1, if_neg w1]
        by_cases w2 : wh = 2
        · rw [if_pos w2, if_pos w2]
        · rw [if_neg w2, if_neg w2]
          by_cases w3 : wh = 3
          · rw [if_pos w3, if_pos w3]
          · rw [if_neg w3, if_neg w3]
            rcases btw_k (x := wh) 4 8 (by omega) (by omega) with ⟨n, n1, n2, n3, n4⟩ | ⟨n1, n2⟩
            · rw [if_neg (show ¬ f_btw wh 4 8 = 0 from n4), n3, show (3 : Int32) = nI 3 from rfl, pk_sub (by omega), iL_n hr5 (by omega)]
              rcases (show n = 4 ∨ n = 5 ∨ n = 6 ∨ n = 7 ∨ n = 8 by omega) with rfl | rfl | rfl | rfl | rfl
              · rw [if_pos (by decide), show 8 + 6 * r + (4 - 3) = 9 + 6 * r + 0 by omega]
              · rw [if_neg (by decide), if_pos (by decide), show 8 + 6 * r + (5 - 3) = 9 + 6 * r + 1 by omega]
              · rw [if_neg (by decide), if_neg (by decide), if_pos (by decide), show 8 + 6 * r + (6 - 3) = 9 + 6 * r + 2 by omega]
              · rw [if_neg (by decide), if_neg (by decide), if_neg (by decide), if_pos (by decide), show 8 + 6 * r + (7 - 3) = 9 + 6 * r + 3 by omega]
              · rw [if_neg (by decide), if_neg (by decide), if_neg (by decide), if_neg (by decide), if_pos (by decide), show 8 + 6 * r + (8 - 3) = 9 + 6 * r + 4 by omega]
            · rw [if_pos (show f_btw wh 4 8 = 0 from n1), if_neg (show ¬ wh = 4 from n2 4 (by omega) (by omega)), if_neg (show ¬ wh = 5 from n2 5 (by omega) (by omega)), if_neg (show ¬ wh = 6 from n2 6 (by omega) (by omega)), if_neg (show ¬ wh = 7 from n2 7 (by omega) (by omega)), if_neg (show ¬ wh = 8 from n2 8 (by omega) (by omega))]
theorem DR.s5 {C : fOm} {k d : Nat} {a : Nat → Int32} (h : DR C k a d) : a (43 + 19 * d) = if C k 0 = 0 then C k 5 else C k 8 := by
  rcases h.2.2 with ⟨q, e, -⟩ | ⟨q, e, -⟩ | ⟨q, e, -⟩ | ⟨q, e, -⟩ | ⟨q, e, -⟩
  · rw [if_pos q, e]
  · rw [if_neg (by rw [q]; decide), e]
  · rw [if_neg (by rw [q]; decide), e]
  · rw [if_neg (by rw [q]; decide), e]
  · rw [if_neg (by rw [q]; decide), e]
theorem ofDev_Q {C M : fOm} (h : SR C 1 (M 648)) (l wh : Int32) : f_ofDev C l wh = m_ofDev M l wh := by
  unfold f_ofDev m_ofDev
  rcases h.devOf l with ⟨q1, q2⟩ | ⟨d, rfl, hd, hd12, h1, h2⟩
  · rw [q2, if_pos q1]
  · have hD := h.2.2.2.2.2.2.1 d hd
    obtain ⟨⟨d0, d1, d2, d3, d4, d6⟩, -, -⟩ := id hD
    obtain ⟨x0, x1, x2, x3, x4, x5, x6, x7⟩ := iDs hd12
    rw [h2, if_neg h1]
    try dsimp only
    rcases btw_k (x := wh) 0 6 (by omega) (by omega) with ⟨n, n1, n2, n3, n4⟩ | ⟨n1, n2⟩
    · rw [if_neg (show ¬ f_btw wh 0 6 = 0 from n4), n3]
      rcases (show n = 0 ∨ n = 1 ∨ n = 2 ∨ n = 3 ∨ n = 4 ∨ n = 5 ∨ n = 6 by omega) with rfl | rfl | rfl | rfl | rfl | rfl | rfl
      · rw [if_pos (by decide)]; exact (d0.symm.trans (by rw [show nI 0 = (0 : Int32) from rfl, x0]))
      · rw [if_neg (by decide), if_pos (by decide)]; exact (d1.symm.trans (by rw [show nI 1 = (1 : Int32) from rfl, x1]))
      · rw [if_neg (by decide), if_neg (by decide), if_pos (by decide)]; exact (d2.symm.trans (by rw [show nI 2 = (2 : Int32) from rfl, x2]))
      · rw [if_neg (by decide), if_neg (by decide), if_neg (by decide), if_pos (by decide)]; exact (d3.symm.trans (by rw [show nI 3 = (3 : Int32) from rfl, x3]))
      · rw [if_neg (by decide), if_neg (by decide), if_neg (by decide), if_neg (by decide), if_pos (by decide)]; exact (d4.symm.trans (by rw [show nI 4 = (4 : Int32) from rfl, x4]))
      · rw [if_neg (by decide), if_neg (by decide), if_neg (by decide), if_neg (by decide), if_neg (by decide), if_pos (by decide)]; exact (hD.s5.symm.trans (by rw [show nI 5 = (5 : Int32) from rfl, x5]))
      · rw [if_neg (by decide), if_neg (by decide), if_neg (by decide), if_neg (by decide), if_neg (by decide), if_neg (by decide), if_pos (by decide)]; exact (d6.symm.trans (by rw [show nI 6 = (6 : Int32) from rfl, x6]))
    · rw [if_pos (show f_btw wh 0 6 = 0 from n1), if_neg (show ¬ wh = 0 from n2 0 (by omega) (by omega)), if_neg (show ¬ wh = 1 from n2 1 (by omega) (by omega)), if_neg (show ¬ wh = 2 from n2 2 (by omega) (by omega)), if_neg (show ¬ wh = 3 from n2 3 (by omega) (by omega)), if_neg (show ¬ wh = 4 from n2 4 (by omega) (by omega)), if_neg (show ¬ wh = 5 from n2 5 (by omega) (by omega)), if_neg (show ¬ wh = 6 from n2 6 (by omega) (by omega))]
theorem noted_Q {C M : fOm} (h : SR C 1 (M 648)) (l i : Int32) : f_noted C l i = m_noted M l i := by
  unfold f_noted m_noted
  rcases h.devOf l with ⟨q1, q2⟩ | ⟨d, rfl, hd, hd12, h1, h2⟩
  · rw [q2, if_pos q1]
  · have hD := h.2.2.2.2.2.2.1 d hd
    obtain ⟨⟨d0, -⟩, -, -⟩ := id hD
    obtain ⟨x0, x1, x2, x3, x4, x5, x6, x7⟩ := iDs hd12
    rw [h2, if_neg h1]
    try dsimp only
    rw [x0, d0, x5]
    by_cases k1 : C (1 + 30 + 2 * d) 0 = 1
    · have hk := hD.k1 k1
      rw [if_pos k1, if_pos k1, hk.1]
      unfold f_keptAt
      rcases btw_m (l := i) (N := 8) hk.2.1 (by decide) with ⟨q, z⟩ | ⟨r, e1, e2, e3, e4, e5⟩
      · rw [if_pos q]
        rcases z with z | z
        · rw [if_pos z]
        · by_cases c : i < 0
          · rw [if_pos c]
          · rw [if_neg c, if_pos z]
      · have hr8 : r < 8 := Nat.lt_of_lt_of_le e2 (tn_le (n := 8) hk.2.1 rfl)
        rw [if_neg e3, if_neg e4, if_neg e5, e1, nI_clamp (by omega), show (7 : Int32) = nI 7 from rfl, nI_add, iD_n hd12 (by omega), show 38 + 19 * d + (7 + r) = 45 + 19 * d + r by omega]
        exact (hk.2.2 r e2).symm
    · rw [if_neg k1, if_neg k1]
theorem ofJoin_Q {C M : fOm} (h : SR C 1 (M 648)) (l wh : Int32) : f_ofJoin C l wh = m_ofJoin M l wh := by
  unfold f_ofJoin m_ofJoin
  rcases h.joinOf l with ⟨q1, q2⟩ | ⟨j, rfl, hj, hj4, h1, h2⟩
  · rw [q2, if_pos q1]
  · have hJ := (h.2.2.2.2.2.2.2 j hj).1
    rw [h2, if_neg h1]
    try dsimp only
    rcases btw_k (x := wh) 0 5 (by omega) (by omega) with ⟨n, n1, n2, n3, n4⟩ | ⟨n1, n2⟩
    · rw [if_neg (show ¬ f_btw wh 0 5 = 0 from n4), n3, iJ_n hj4 (by omega), hJ n (by omega)]
      rcases (show n = 0 ∨ n = 1 ∨ n = 2 ∨ n = 3 ∨ n = 4 ∨ n = 5 by omega) with rfl | rfl | rfl | rfl | rfl | rfl
      · rw [if_pos (by decide)]
      · rw [if_neg (by decide), if_pos (by decide)]
      · rw [if_neg (by decide), if_neg (by decide), if_pos (by decide)]
      · rw [if_neg (by decide), if_neg (by decide), if_neg (by decide), if_pos (by decide)]
      · rw [if_neg (by decide), if_neg (by decide), if_neg (by decide), if_neg (by decide), if_pos (by decide)]
      · rw [if_neg (by decide), if_neg (by decide), if_neg (by decide), if_neg (by decide), if_neg (by decide), if_pos (by decide)]
    · rw [if_pos (show f_btw wh 0 5 = 0 from n1), if_neg (show ¬ wh = 0 from n2 0 (by omega) (by omega)), if_neg (show ¬ wh = 1 from n2 1 (by omega) (by omega)), if_neg (show ¬ wh = 2 from n2 2 (by omega) (by omega)), if_neg (show ¬ wh = 3 from n2 3 (by omega) (by omega)), if_neg (show ¬ wh = 4 from n2 4 (by omega) (by omega)), if_neg (show ¬ wh = 5 from n2 5 (by omega) (by omega))]
theorem count_Q {C M : fOm} (h : SR C 1 (M 648)) (hp : C 527 1 = M 647 8) (hn : C 117 1 = M 647 3) (wh : Int32) : f_count C wh = m_count M wh := by
  obtain ⟨c5, c6, c7, c4⟩ := h.c5
  have s0 : f_setting C 1 0 = M 648 0 := h.set (i := 0) (by omega)
  have s1 : f_setting C 1 1 = M 648 1 := h.set (i := 1) (by omega)
  have s2 : f_setting C 1 2 = M 648 2 := h.set (i := 2) (by omega)
  have s3 : f_setting C 1 3 = M 648 3 := h.set (i := 3) (by omega)
  have u0 : f_taAll C 1 0 = m_sum M 1 := h.taAll (t := 0) (by omega)
  have u1 : f_taAll C 1 1 = m_sum M 2 := h.taAll (t := 1) (by omega)
  have u2 : f_taAll C 1 2 = m_sum M 3 := h.taAll (t := 2) (by omega)
  unfold f_count m_count
  rw [h.flAll, u0, u1, u2, s0, s1, s2, s3, ← c4, ← c5, ← c6, ← c7, hp, hn]
  rcases btw_k (x := wh) 0 3 (by omega) (by omega) with ⟨n, n1, n2, n3, n4⟩ | ⟨n1, n2⟩
  · rw [if_neg (show ¬ f_btw wh 0 3 = 0 from n4), n3, show (4 : Int32) = nI 4 from rfl, nI_add, nI_clamp (by omega)]
    rcases (show n = 0 ∨ n = 1 ∨ n = 2 ∨ n = 3 by omega) with rfl | rfl | rfl | rfl
    · rw [if_pos (by decide)]
    · rw [if_neg (by decide), if_pos (by decide)]
    · rw [if_neg (by decide), if_neg (by decide), if_pos (by decide)]
    · rw [if_neg (by decide), if_neg (by decide), if_neg (by decide), if_pos (by decide)]
  · rw [if_pos (show f_btw wh 0 3 = 0 from n1), if_neg (show ¬ wh = 0 from n2 0 (by omega) (by omega)), if_neg (show ¬ wh = 1 from n2 1 (by omega) (by omega)), if_neg (show ¬ wh = 2 from n2 2 (by omega) (by omega)), if_neg (show ¬ wh = 3 from n2 3 (by omega) (by omega))]
    rcases btw_k (x := wh) 4 7 (by omega) (by omega) with ⟨n, m1, m2, m3, m4⟩ | ⟨m1, m2⟩
    · rw [if_neg (show ¬ f_btw wh 4 7 = 0 from m4), m3, show (4 : Int32) = nI 4 from rfl, pk_sub m1]
      rcases (show n = 4 ∨ n = 5 ∨ n = 6 ∨ n = 7 by omega) with rfl | rfl | rfl | rfl
      · rw [if_pos (by decide)]; rfl
      · rw [if_neg (by decide), if_pos (by decide)]; rfl
      · rw [if_neg (by decide), if_neg (by decide), if_pos (by decide)]; rfl
      · rw [if_neg (by decide), if_neg (by decide), if_neg (by decide), if_pos (by decide)]; rfl
    · rw [if_pos (show f_btw wh 4 7 = 0 from m1), if_neg (show ¬ wh = 4 from m2 4 (by omega) (by omega)), if_neg (show ¬ wh = 5 from m2 5 (by omega) (by omega)), if_neg (show ¬ wh = 6 from m2 6 (by omega) (by omega)), if_neg (show ¬ wh = 7 from m2 7 (by omega) (by omega))]
      rcases btw_k (x := wh) 8 11 (by omega) (by omega) with ⟨n, k1, k2, k3, k4⟩ | ⟨k1, k2⟩
      · rw [if_neg (show ¬ f_btw wh 8 11 = 0 from k4), k3, show (8 : Int32) = nI 8 from rfl, pk_sub k1, nI_clamp (by omega)]
        rcases (show n = 8 ∨ n = 9 ∨ n = 10 ∨ n = 11 by omega) with rfl | rfl | rfl | rfl
        · rw [if_pos (by decide)]
        · rw [if_neg (by decide), if_pos (by decide)]
        · rw [if_neg (by decide), if_neg (by decide), if_pos (by decide)]
        · rw [if_neg (by decide), if_neg (by decide), if_neg (by decide), if_pos (by decide)]
      · rw [if_pos (show f_btw wh 8 11 = 0 from k1), if_neg (show ¬ wh = 8 from k2 8 (by omega) (by omega)), if_neg (show ¬ wh = 9 from k2 9 (by omega) (by omega)), if_neg (show ¬ wh = 10 from k2 10 (by omega) (by omega)), if_neg (show ¬ wh = 11 from k2 11 (by omega) (by omega))]
/-- looking for a value -/
theorem find_Q {C M : fOm} (h : SR C 1 (M 648)) (v wh : Int32) : f_find C v wh = m_find M v wh := by
  have n5 := h.W.n5
  have inner : ∀ r, r < (M 648 5).toNatClampNeg → ∀ (t : f3) (u : Int32 × Int32), t.2.2 = u.2 → (u.2 = 0 → u.1 = -6) → (u.2 ≠ 0 → u.1 = if wh = 0 then t.1 else t.2.1) → (∃ n : Nat, u.2 = nI n ∧ n ≤ 32 * r) → ∀ j, j ≤ (C (1 + 5 + 5 * r) 0).toNatClampNeg →
      (f_fi1 C (1 + 5 + 5 * r) v (nI r) t j).2.2 = (m_fi1 M v wh (nI r) u j).2 ∧ ((m_fi1 M v wh (nI r) u j).2 = 0 → (m_fi1 M v wh (nI r) u j).1 = -6) ∧ ((m_fi1 M v wh (nI r) u j).2 ≠ 0 → (m_fi1 M v wh (nI r) u j).1 = if wh = 0 then (f_fi1 C (1 + 5 + 5 * r) v (nI r) t j).1 else (f_fi1 C (1 + 5 + 5 * r) v (nI r) t j).2.1) ∧ (∃ n : Nat, (m_fi1 M v wh (nI r) u j).2 = nI n ∧ n ≤ 32 * r + j) := by
    intro r hr t u e1 e2 e3 e4 j
    have hL := h.2.2.2.2.1 r hr
    obtain ⟨P, hP4, hP, eP, eP2⟩ := hL.P
    induction j with
    | zero => exact fun _ => ⟨e1, e2, e3, e4⟩
    | succ j ih =>
      intro hj
      obtain ⟨i1, i2, i3, n, i4, i5⟩ := ih (by omega)
      have hv := hL.val (p := j) (by omega)
      have hm := (mc_tn (r := r) (p := j) (by omega) (by omega)).1
      by_cases c : f_valueAt C (1 + 5 + 5 * r) (nI j) = v
      · rw [fi1_p c, mfi1_p (by rw [hm, ← hv]; exact c)]
        have hne : (m_fi1 M v wh (nI r) u j).2 + 1 ≠ 0 := by rw [i4, nI_1]; exact nI_ne0 (by omega) (by omega)
        refine ⟨by show _ + 1 = _ + 1; rw [i1], fun z => absurd z hne, fun _ => ?_, n + 1, by show _ + 1 = _; rw [i4, nI_1], by omega⟩
        show (if (m_fi1 M v wh (nI r) u j).2 = 0 then (if wh = 0 then nI r else nI j) else (m_fi1 M v wh (nI r) u j).1) = if wh = 0 then (if (f_fi1 C (1 + 5 + 5 * r) v (nI r) t j).2.2 = 0 then nI r else (f_fi1 C (1 + 5 + 5 * r) v (nI r) t j).1) else (if (f_fi1 C (1 + 5 + 5 * r) v (nI r) t j).2.2 = 0 then nI j else (f_fi1 C (1 + 5 + 5 * r) v (nI r) t j).2.1)
        rw [i1]
        by_cases z : (m_fi1 M v wh (nI r) u j).2 = 0
        · rw [if_pos z, if_pos z, if_pos z]
        · rw [if_neg z, if_neg z, if_neg z]
          exact i3 z
      · rw [fi1_n c, mfi1_n (by rw [hm, ← hv]; exact c)]
        exact ⟨i1, i2, i3, n, i4, by omega⟩
  have outer : ∀ j, j ≤ (M 648 5).toNatClampNeg → (f_fi2 C v j).2.2 = (m_fi2 M v wh j).2 ∧ ((m_fi2 M v wh j).2 = 0 → (m_fi2 M v wh j).1 = -6) ∧ ((m_fi2 M v wh j).2 ≠ 0 → (m_fi2 M v wh j).1 = if wh = 0 then (f_fi2 C v j).1 else (f_fi2 C v j).2.1) ∧ (∃ n : Nat, (m_fi2 M v wh j).2 = nI n ∧ n ≤ 32 * j) := by
    intro j
    induction j with
    | zero => exact fun _ => ⟨rfl, fun _ => rfl, fun z => absurd rfl z, 0, rfl, by omega⟩
    | succ j ih =>
      intro hj
      obtain ⟨i1, i2, i3, i4⟩ := ih (by omega)
      have hL := h.2.2.2.2.1 j (by omega)
      obtain ⟨P, hP4, hP, eP, eP2⟩ := hL.P
      rw [fi2_p (h.ring (r := j) (by omega))]
      have es : m_fi2 M v wh (j + 1) = m_fi1 M v wh (nI j) (m_fi2 M v wh j) (C (1 + 5 + 5 * j) 0).toNatClampNeg := by
        show m_fi1 M v wh (nI j) (m_fi2 M v wh j) (M 648 (iL (nI j) 0)).toNatClampNeg = _
        rw [iL0 (by omega), hL.1]
      rw [es]
      obtain ⟨k1, k2, k3, n, k4, k5⟩ := inner j (by omega) (f_fi2 C v j) (m_fi2 M v wh j) i1 i2 i3 i4 _ (Nat.le_refl _)
      exact ⟨k1, k2, k3, n, k4, by omega⟩
  obtain ⟨o1, o2, o3, -⟩ := outer _ (Nat.le_refl _)
  unfold f_find m_find
  rw [← h.c5.1]
  by_cases c1 : f_isV v = 0
  · rw [if_pos c1, if_pos c1]
  · rw [if_neg c1, if_neg c1]
    rcases btw_k (x := wh) 0 2 (by omega) (by omega) with ⟨n, n1, n2, n3, n4⟩ | ⟨n1, -⟩
    · rw [if_neg (show ¬ f_btw wh 0 2 = 0 from n4), if_neg (show ¬ f_btw wh 0 2 = 0 from n4), o1]
      by_cases z : (m_fi2 M v wh (M 648 5).toNatClampNeg).2 = 0
      · rw [if_pos z, if_pos z, o2 z]
      · rw [if_neg z, if_neg z, o3 z]
        rw [n3]
        rcases (show n = 0 ∨ n = 1 ∨ n = 2 by omega) with rfl | rfl | rfl
        · rw [if_pos (by decide), if_neg (by decide), if_pos (by decide)]
        · rw [if_neg (by decide), if_pos (by decide), if_neg (by decide), if_neg (by decide)]
        · rw [if_neg (by decide), if_neg (by decide), if_pos (by decide)]
    · rw [if_pos (show f_btw wh 0 2 = 0 from n1), if_pos (show f_btw wh 0 2 = 0 from n1)]
