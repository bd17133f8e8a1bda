/-! ===== the two readers of orders ===== -/
def TC (W : fOm) (g : Nat → Nat) (m : Nat) : Prop := m ≤ 80 ∧ W 527 1 = nI m ∧ (∀ i, i < m → W 528 i = nI (g i) ∧ 33 ≤ g i ∧ g i ≤ 126) ∧ ∀ i, m ≤ i → g i = 0
def TM (X : fOm) (g : Nat → Nat) (m : Nat) : Prop := m ≤ 80 ∧ X 647 8 = nI m ∧ (∀ i, i < m → X 653 i = nI (g i) ∧ 33 ≤ g i ∧ g i ≤ 126) ∧ ∀ i, m ≤ i → g i = 0
def dg (a : Nat) : Prop := 48 ≤ a ∧ a ≤ 57
theorem dg_b {a : Nat} (ha : a ≤ 126) : f_btw (nI a) 48 57 = 0 ↔ ¬ dg a := by
  have key : ∀ a : Nat, a < 127 → (f_btw (nI a) 48 57 = 0 ↔ ¬ (48 ≤ a ∧ a ≤ 57)) := by decide +kernel
  exact key a (by omega)
theorem TC.g {W : fOm} {g : Nat → Nat} {m : Nat} (h : TC W g m) (i : Nat) : g i ≤ 126 := by
  rcases Nat.lt_or_ge i m with c | c
  · exact (h.2.2.1 i c).2.2
  · rw [h.2.2.2 i c]
    omega
theorem TC.lt {W : fOm} {g : Nat → Nat} {m i : Nat} (h : TC W g m) (c : g i ≠ 0) : i < m := by
  rcases Nat.lt_or_ge i m with q | q
  · exact q
  · exact absurd (h.2.2.2 i q) c
theorem TC.sg {W : fOm} {g : Nat → Nat} {m p : Nat} (h : TC W g m) (hp : p ≤ m) (e : W 529 1 = nI p) : f_signAt W (W 529 1) = nI (g p) := by
  have hm := h.1
  unfold f_signAt
  rw [e, if_neg (nI_pos (by omega)), h.2.1]
  rcases Nat.lt_or_ge p m with c | c
  · rw [if_neg (nI_ge c (by omega)), nI_clamp (by omega)]
    exact (h.2.2.1 p c).1
  · rw [if_pos (nI_le c (by omega)), h.2.2.2 p c]
    rfl
theorem TM.nx {X : fOm} {g : Nat → Nat} {m p : Nat} (h : TM X g m) (hp : p ≤ m) (e : X 647 9 = nI p) : m_nx X = nI (g p) := by
  have hm := h.1
  unfold m_nx
  rw [e, h.2.1]
  rcases Nat.lt_or_ge p m with c | c
  · rw [if_neg (nI_ge c (by omega)), nI_clamp (by omega)]
    exact (h.2.2.1 p c).1
  · rw [if_pos (nI_le c (by omega)), h.2.2.2 p c]
    rfl
theorem TC.eq {W W2 : fOm} {g : Nat → Nat} {m : Nat} (h : TC W g m) (e : W2 527 = W 527) (e2 : W2 528 = W 528) : TC W2 g m := by
  unfold TC
  rw [e, e2]
  exact h
theorem TM.eq {X X2 : fOm} {g : Nat → Nat} {m : Nat} (h : TM X g m) (e : X2 647 8 = X 647 8) (e2 : X2 653 = X 653) : TM X2 g m := by
  unfold TM
  rw [e, e2]
  exact h
def EC (W W2 : fOm) (p : Nat) : Prop := (∀ q, q ≠ 529 → W2 q = W q) ∧ (∀ i, i ≠ 1 → W2 529 i = W 529 i) ∧ W2 529 1 = nI p
def EM (X X2 : fOm) (p : Nat) (e : Int32) : Prop := (∀ q, q ≠ 647 → X2 q = X q) ∧ (∀ i, i ≠ 9 → i ≠ 10 → X2 647 i = X 647 i) ∧ X2 647 9 = nI p ∧ X2 647 10 = e
theorem EC.tr {W W2 W3 : fOm} {p q : Nat} (h : EC W W2 p) (h2 : EC W2 W3 q) : EC W W3 q := ⟨fun k hk => (h2.1 k hk).trans (h.1 k hk), fun i hi => (h2.2.1 i hi).trans (h.2.1 i hi), h2.2.2⟩
theorem EM.tr {X X2 X3 : fOm} {p q : Nat} {e e2 : Int32} (h : EM X X2 p e) (h2 : EM X2 X3 q e2) : EM X X3 q e2 := ⟨fun k hk => (h2.1 k hk).trans (h.1 k hk), fun i hi hj => (h2.2.1 i hi hj).trans (h.2.1 i hi hj), h2.2.2⟩
theorem EC.rf {W : fOm} {p : Nat} (e : W 529 1 = nI p) : EC W W p := ⟨fun _ _ => rfl, fun _ _ => rfl, e⟩
theorem EM.rf {X : fOm} {p : Nat} {e : Int32} (e1 : X 647 9 = nI p) (e2 : X 647 10 = e) : EM X X p e := ⟨fun _ _ => rfl, fun _ _ _ => rfl, e1, e2⟩
theorem EC.w {W : fOm} {p : Nat} : EC W (wu W 529 1 (nI p)) p := ⟨fun q h => wu_ne h, fun i h => by rw [wu_i, if_neg h], by rw [wu_i, if_pos rfl]⟩
theorem EM.w {X : fOm} {p : Nat} {e : Int32} : EM X (wu (wu X 647 10 e) 647 9 (nI p)) p e :=
  ⟨fun q h => by rw [wu_ne h, wu_ne h], fun i h h2 => by rw [wu_i, if_neg h, wu_i, if_neg h2], by rw [wu_i, if_pos rfl], by rw [wu_i, if_neg (by decide), wu_i, if_pos rfl]⟩
theorem EC.T {W W2 : fOm} {p : Nat} {g : Nat → Nat} {m : Nat} (h : EC W W2 p) (t : TC W g m) : TC W2 g m := t.eq (h.1 527 (by decide)) (h.1 528 (by decide))
theorem EM.T {X X2 : fOm} {p : Nat} {e : Int32} {g : Nat → Nat} {m : Nat} (h : EM X X2 p e) (t : TM X g m) : TM X2 g m := t.eq (h.2.1 8 (by decide) (by decide)) (h.1 653 (by decide))
theorem nx_E {W : fOm} {p : Nat} (e : W 529 1 = nI p) : EC W (f_nx W) (p + 1) := by
  unfold f_nx
  rw [e, nI_1]
  exact EC.w
theorem ts_E {X : fOm} {p : Nat} {c : Int32} (e : X 647 9 = nI p) : (X 647 10 = 0 → m_nx X = c → EM X (m_ts X c) (p + 1) 0) ∧ (X 647 10 = 0 → ¬ m_nx X = c → EM X (m_ts X c) p 1) ∧ (¬ X 647 10 = 0 → EM X (m_ts X c) p 1) := by
  have key : ∀ E : Int32, wu (wu X 647 10 E) 647 9 (wu X 647 10 E 647 9 + (if wu X 647 10 E 647 10 = 0 then 1 else 0)) = wu (wu X 647 10 E) 647 9 (nI p + (if E = 0 then 1 else 0)) := fun E => by
    rw [show wu X 647 10 E 647 9 = nI p by rw [wu_i, if_neg (by decide), e], show wu X 647 10 E 647 10 = E by rw [wu_i, if_pos rfl]]
  refine ⟨fun a b => ?_, fun a b => ?_, fun a => ?_⟩
  · unfold m_ts
    rw [if_pos a, if_pos b]
    try dsimp only
    rw [key, if_pos rfl, nI_1]
    exact EM.w
  · unfold m_ts
    rw [if_pos a, if_neg b]
    try dsimp only
    rw [key, if_neg (by decide), Int32.add_zero]
    exact EM.w
  · unfold m_ts
    rw [if_neg a]
    try dsimp only
    rw [key, if_neg (by decide), Int32.add_zero]
    exact EM.w
/-- both read on -/
def GD (g : Nat → Nat) (m b : Nat) (W X : fOm) : Prop := TC W g m ∧ TM X g m ∧ ∃ p c : Nat, p ≤ m ∧ b + c ≤ p ∧ W 529 1 = nI p ∧ X 647 9 = nI p ∧ X 647 10 = 0 ∧ W 529 4 = nI c ∧ X 647 12 = nI (b + c) ∧ ∀ i, i < c → W 530 i = X 656 (b + i)
/-- both stop, the first of them perhaps one step later -/
def BD (g : Nat → Nat) (m : Nat) (r : fB2) (X : fOm) : Prop := TC r.2 g m ∧ TM X g m ∧ ∃ p : Nat, p ≤ m ∧ r.2 529 1 = nI p ∧ X 647 9 = nI p ∧ X 647 10 = 1 ∧ (r.1 = 0 ∨ (r.1 = 1 ∧ dg (g p)))
def S1 (g : Nat → Nat) (m b : Nat) (r : fB2) (X : fOm) : Prop := (r.1 = 1 ∧ GD g m b r.2 X) ∨ BD g m r X
def S0 (g : Nat → Nat) (m b : Nat) (r : fB2) (X : fOm) : Prop := (r.1 = 1 ∧ GD g m b r.2 X) ∨ (r.1 = 0 ∧ BD g m r X)
theorem S0.s1 {g : Nat → Nat} {m b : Nat} {r : fB2} {X : fOm} (h : S0 g m b r X) : S1 g m b r X := h.imp id (fun q => q.2)
theorem take_S {g : Nat → Nat} {m b c : Nat} {r : fB2} {X : fOm} (hc : 1 ≤ c ∧ c ≤ 126) (hd : ¬ dg c) (h : S1 g m b r X) : S0 g m b (bn r fun w => f_take w (nI c)) (m_ts X (nI c)) := by
  have inj : ∀ a : Nat, a ≤ 126 → nI a = nI c → a = c := fun a ha e => by
    have := congrArg Int32.toInt e
    rw [bI (by omega), bI (by omega)] at this
    omega
  rcases h with ⟨r1, t1, t2, p, k, h1, h2, h3, h4, h5, h6, h7, h8⟩ | ⟨t1, t2, p, h1, h3, h4, h5, h6⟩
  · have eb : (bn r fun w => f_take w (nI c)) = f_take r.2 (nI c) := by
      unfold bn
      rw [if_neg (by rw [r1]; decide)]
    rw [eb]
    unfold f_take
    rw [t1.sg h1 h3]
    by_cases q : g p = c
    · rw [if_pos (by rw [q]), h3, nI_1]
      have hlt := t1.lt (i := p) (by omega)
      have eC : EC r.2 (wu r.2 529 1 (nI (p + 1))) (p + 1) := EC.w
      have eM := (ts_E (c := nI c) h4).1 h5 (by rw [t2.nx h1 h4, q])
      refine Or.inl ⟨rfl, eC.T t1, eM.T t2, p + 1, k, by omega, by omega, eC.2.2, eM.2.2.1, eM.2.2.2, ?_, ?_, fun i hi => ?_⟩
      · exact (eC.2.1 4 (by decide)).trans h6
      · exact (eM.2.1 12 (by decide) (by decide)).trans h7
      · show wu r.2 529 1 (nI (p + 1)) 530 i = _
        rw [wu_ne (by decide), eM.1 656 (by decide)]
        exact h8 i hi
    · have qn : ¬ nI (g p) = nI c := fun e => q (inj _ (t1.g p) e)
      rw [if_neg qn]
      have eM := (ts_E (c := nI c) h4).2.1 h5 (by rw [t2.nx h1 h4]; exact qn)
      exact Or.inr ⟨rfl, t1, eM.T t2, p, h1, h3, eM.2.2.1, eM.2.2.2, Or.inl rfl⟩
  · have eM := (ts_E (c := nI c) h4).2.2 (by rw [h5]; decide)
    have ef : (bn r fun w => f_take w (nI c)) = (0, r.2) := by
      unfold bn
      rcases h6 with h6 | ⟨h6, h7⟩
      · rw [if_pos h6]
      · rw [if_neg (by rw [h6]; decide)]
        show f_take r.2 (nI c) = _
        unfold f_take
        rw [t1.sg h1 h3, if_neg (fun e => hd (by rw [← inj _ (t1.g p) e]; exact h7))]
    rw [ef]
    exact Or.inr ⟨rfl, t1, eM.T t2, p, h1, h3, eM.2.2.1, eM.2.2.2, Or.inl rfl⟩
theorem dig_E {W : fOm} {g : Nat → Nat} {m p : Nat} (t : TC W g m) (hp : p ≤ m) (e : W 529 1 = nI p) : (dg (g p) ∧ f_digit W = nI (g p - 48)) ∨ (¬ dg (g p) ∧ f_digit W = -6) := by
  unfold f_digit
  rw [t.sg hp e]
  by_cases c : dg (g p)
  · refine Or.inl ⟨c, ?_⟩
    rw [if_neg (fun q => (dg_b (t.g p)).mp q c)]
    have key : ∀ a : Nat, a < 58 → 48 ≤ a → nI a - 48 = nI (a - 48) := by decide +kernel
    exact key _ (by have := c.2; omega) c.1
  · rw [if_pos ((dg_b (t.g p)).mpr c)]
    exact Or.inr ⟨c, rfl⟩
theorem tnS_E {X : fOm} {n p : Nat} (e : X 647 9 = nI p) (e0 : X 647 10 = 0) (a : Nat) (ha : 48 ≤ a ∧ a ≤ 57) (hn : n < 1000) (en : m_nx X = nI a) (e8 : ∀ E : Int32, m_nx (wu X 647 10 E) = nI a) : (10 * n + (a - 48) ≤ 999 → m_tnS (nI n, X) = (nI (10 * n + (a - 48)), wu (wu X 647 10 0) 647 9 (nI (p + 1)))) ∧ (999 < 10 * n + (a - 48) → m_tnS (nI n, X) = (nI n, wu (wu X 647 10 1) 647 9 (nI p))) := by
  have e10 : (10 : Int32) * nI n + nI a - 48 = nI (10 * n + (a - 48)) := by
    apply Int32.toInt_inj.mp
    have b1 : (10 * nI n).toInt = 10 * n := by
      rw [show (10 : Int32) = nI 10 from rfl, Kit.i32_mul (by rw [bI (by omega), bI (by omega)]; omega) (by rw [bI (by omega), bI (by omega)]; omega), bI (by omega), bI (by omega)]
      rfl
    have b2 : (10 * nI n + nI a).toInt = 10 * n + a := by
      rw [Kit.i32_add (by rw [b1, bI (by omega)]; omega) (by rw [b1, bI (by omega)]; omega), b1, bI (by omega)]
    have b48 : (48 : Int32).toInt = 48 := by decide
    rw [Kit.i32_sub (by rw [b2, b48]; omega) (by rw [b2, b48]; omega), b2, b48, bI (by omega)]
    omega
  have k9 : ∀ E : Int32, wu X 647 10 E 647 9 = nI p := fun E => by rw [wu_i, if_neg (by decide), e]
  have k10 : ∀ E : Int32, wu X 647 10 E 647 10 = E := fun E => by rw [wu_i, if_pos rfl]
  constructor
  · intro h
    unfold m_tnS
    try dsimp only
    rw [en, e10, if_pos (show nI (10 * n + (a - 48)) ≤ (999 : Int32) from nI_le (b := 999) h (by decide)), k10, if_pos rfl, if_pos rfl, e8, e10, k9, nI_1]
  · intro h
    unfold m_tnS
    try dsimp only
    rw [en, e10, if_neg (show ¬ nI (10 * n + (a - 48)) ≤ (999 : Int32) from nI_ge h (by omega)), k10, if_neg (by decide), if_neg (by decide), k9, Int32.add_zero]
theorem rnL_S {g : Nat → Nat} {m : Nat} (f : Nat) : ∀ (k n p : Nat) (W X : fOm), f ≤ 2 → f + 2 ≤ k → n < 10 ^ (3 - f) → (n = 0 ∨ 10 ^ (2 - f) ≤ n) → TC W g m → TM X g m → p ≤ m → W 529 1 = nI p → X 647 9 = nI p → X 647 10 = 0 →
    ∃ n2 p2 : Nat, p ≤ p2 ∧ p2 ≤ m ∧ (f_rnL f (nI n) W).1 = nI n2 ∧ n2 < 1000 ∧ EC W (f_rnL f (nI n) W).2 p2 ∧ (m_tnF k (nI n, X)).1 = nI n2 ∧ (EM X (m_tnF k (nI n, X)).2 p2 0 ∨ (EM X (m_tnF k (nI n, X)).2 p2 1 ∧ dg (g p2))) := by
  have mnx : ∀ {X : fOm} {p : Nat} {E : Int32}, TM X g m → p ≤ m → X 647 9 = nI p → m_nx (wu X 647 10 E) = nI (g p) := fun t hp e =>
    (t.eq (by rw [wu_i, if_neg (by decide)]) (wu_ne (by decide))).nx hp (by rw [wu_i, if_neg (by decide), e])
  induction f with
  | zero =>
    intro k n p W X hf hk hn hn0 t1 t2 hp e1 e2 e3
    obtain ⟨k, rfl⟩ : ∃ k2, k = k2 + 2 := ⟨k - 2, by omega⟩
    have hn : n < 1000 := hn
    refine ⟨n, p, Nat.le_refl p, hp, rfl, hn, EC.rf e1, ?_⟩
    rw [show m_tnF (k + 2) (nI n, X) = _ from tnF_s]
    try dsimp only
    rw [if_pos e3]
    by_cases c : nI n ≤ 0
    · rw [if_pos c]
      exact ⟨rfl, Or.inl (EM.rf e2 e3)⟩
    · rw [if_neg c, t2.nx hp e2]
      by_cases d : f_btw (nI (g p)) 48 57 = 0
      · rw [if_pos d]
        exact ⟨rfl, Or.inl (EM.rf e2 e3)⟩
      · have d2 : dg (g p) := Classical.byContradiction fun q => d ((dg_b (t1.g p)).mpr q)
        have n1 : 100 ≤ n := by
          rcases hn0 with q | q
          · subst q
            exact absurd (show nI 0 ≤ 0 by decide) c
          · exact q
        rw [if_neg d, (tnS_E e2 e3 (g p) d2 hn (t2.nx hp e2) (fun E => mnx t2 hp e2)).2 (by have := d2.1; omega)]
        have eM : EM X (wu (wu X 647 10 1) 647 9 (nI p)) p 1 := EM.w
        rw [show m_tnF (k + 1) (nI n, wu (wu X 647 10 1) 647 9 (nI p)) = _ from tnF_s]
        try dsimp only
        rw [if_neg (by rw [eM.2.2.2]; decide)]
        exact ⟨rfl, Or.inr ⟨eM, d2⟩⟩
  | succ f ih =>
    intro k n p W X hf hk hn hn0 t1 t2 hp e1 e2 e3
    obtain ⟨k, rfl⟩ : ∃ k2, k = k2 + 1 := ⟨k - 1, by omega⟩
    have hn1 : n < 100 := Nat.lt_of_lt_of_le hn (by rcases (show f = 0 ∨ f = 1 by omega) with rfl | rfl <;> decide)
    rw [show m_tnF (k + 1) (nI n, X) = _ from tnF_s]
    show ∃ n2 p2 : Nat, p ≤ p2 ∧ p2 ≤ m ∧ (if nI n ≤ 0 then (nI n, W) else if f_digit W < 0 then (nI n, W) else f_rnL f (nI n * 10 + f_digit W) (f_nx W)).1 = nI n2 ∧ n2 < 1000 ∧ EC W (if nI n ≤ 0 then (nI n, W) else if f_digit W < 0 then (nI n, W) else f_rnL f (nI n * 10 + f_digit W) (f_nx W)).2 p2 ∧ _
    try dsimp only
    rw [if_pos e3]
    by_cases c : nI n ≤ 0
    · rw [if_pos c, if_pos c]
      exact ⟨n, p, Nat.le_refl p, hp, rfl, by omega, EC.rf e1, rfl, Or.inl (EM.rf e2 e3)⟩
    · rw [if_neg c, if_neg c, t2.nx hp e2]
      rcases dig_E t1 hp e1 with ⟨d, ed⟩ | ⟨d, ed⟩
      · have d0 : ¬ f_btw (nI (g p)) 48 57 = 0 := fun q => (dg_b (t1.g p)).mp q d
        have n0 : n ≠ 0 := fun q => by subst q; exact c (by decide)
        have hlt := t1.lt (i := p) (by have := d.1; omega)
        have d1 := d.1
        have d9 := d.2
        rw [if_neg d0, ed, if_neg (nI_pos (by omega)), (tnS_E e2 e3 (g p) d (by omega) (t2.nx hp e2) (fun E => mnx t2 hp e2)).1 (by omega)]
        have e10 : nI n * 10 + nI (g p - 48) = nI (10 * n + (g p - 48)) := by
          have key : ∀ n : Nat, n < 100 → nI n * 10 = nI (10 * n) := by decide +kernel
          rw [key n hn1, nI_add]
        rw [e10]
        have eC := nx_E e1
        have eM : EM X (wu (wu X 647 10 0) 647 9 (nI (p + 1))) (p + 1) 0 := EM.w
        obtain ⟨n2, p2, a1, a2, a3, a4, a5, a6, a7⟩ := ih k (10 * n + (g p - 48)) (p + 1) (f_nx W) _ (by omega) (by omega) (by rcases (show f = 0 ∨ f = 1 by omega) with rfl | rfl <;> simp only [Nat.reduceSub, Nat.reducePow, Nat.reduceAdd] at hn hn0 ⊢ <;> omega) (Or.inr (by rcases (show f = 0 ∨ f = 1 by omega) with rfl | rfl <;> simp only [Nat.reduceSub, Nat.reducePow, Nat.reduceAdd] at hn hn0 ⊢ <;> omega)) (eC.T t1) (eM.T t2) (by omega) eC.2.2 eM.2.2.1 eM.2.2.2
        exact ⟨n2, p2, by omega, a2, a3, a4, eC.tr a5, a6, a7.imp (fun q => eM.tr q) (fun q => ⟨eM.tr q.1, q.2⟩)⟩
      · have d0 : f_btw (nI (g p)) 48 57 = 0 := (dg_b (t1.g p)).mpr d
        rw [if_pos d0, ed, if_pos (by decide)]
        exact ⟨n, p, Nat.le_refl p, hp, rfl, by omega, EC.rf e1, rfl, Or.inl (EM.rf e2 e3)⟩
theorem keep_S {g : Nat → Nat} {m b p c : Nat} {n : Int32} {W X : fOm} (t1 : TC W g m) (t2 : TM X g m) (h1 : p ≤ m) (h2 : b + c + 1 ≤ p) (h3 : W 529 1 = nI p) (h4 : X 647 9 = nI p) (h6 : W 529 4 = nI c) (h7 : X 647 12 = nI (b + c)) (h8 : ∀ i, i < c → W 530 i = X 656 (b + i)) :
    (f_keep W n).1 = 1 ∧ TC (f_keep W n).2 g m ∧ TM (m_tnE (n, X)) g m ∧ (f_keep W n).2 529 1 = nI p ∧ m_tnE (n, X) 647 9 = nI p ∧ m_tnE (n, X) 647 10 = X 647 10 ∧ (f_keep W n).2 529 4 = nI (c + 1) ∧ m_tnE (n, X) 647 12 = nI (b + (c + 1)) ∧ ∀ i, i < c + 1 → (f_keep W n).2 530 i = m_tnE (n, X) 656 (b + i) := by
  have hm := t1.1
  have eK : f_keep W n = (1, wu (wu W 530 c n) 529 4 (nI (c + 1))) := by
    unfold f_keep
    rw [h6, if_pos (show nI c < (80 : Int32) from nI_lt (b := 80) (by omega) (by decide)), nI_clamp (by omega)]
    try dsimp only
    rw [wu_ne (by decide), h6, nI_1]
  have eE : m_tnE (n, X) = wu (wu X 656 (b + c) n) 647 12 (nI (b + (c + 1))) := by
    unfold m_tnE
    try dsimp only
    rw [h7, nI_clamp (by omega), wu_ne (by decide), h7, nI_1]
    rfl
  rw [eK, eE]
  refine ⟨rfl, t1.eq (by show wu (wu W 530 c n) 529 4 (nI (c + 1)) 527 = _; rw [wu_ne (by decide), wu_ne (by decide)]) (by show wu (wu W 530 c n) 529 4 (nI (c + 1)) 528 = _; rw [wu_ne (by decide), wu_ne (by decide)]), t2.eq (by rw [wu_i, if_neg (by decide), wu_ne (by decide)]) (by rw [wu_ne (by decide), wu_ne (by decide)]), ?_, ?_, ?_, ?_, ?_, fun i hi => ?_⟩
  · show wu (wu W 530 c n) 529 4 (nI (c + 1)) 529 1 = _
    rw [wu_i, if_neg (by decide), wu_ne (by decide), h3]
  · rw [wu_i, if_neg (by decide), wu_ne (by decide), h4]
  · rw [wu_i, if_neg (by decide), wu_ne (by decide)]
  · show wu (wu W 530 c n) 529 4 (nI (c + 1)) 529 4 = _
    rw [wu_i, if_pos rfl]
  · rw [wu_i, if_pos rfl]
  · show wu (wu W 530 c n) 529 4 (nI (c + 1)) 530 i = _
    rw [wu_ne (by decide), wu_i, wu_ne (by decide), wu_i]
    by_cases e : i = c
    · rw [if_pos e, if_pos (by omega)]
    · rw [if_neg e, if_neg (by omega)]
      exact h8 i (by omega)
theorem tn1_E {X : fOm} {p : Nat} (e : X 647 9 = nI p) : (X 647 10 = 0 → ¬ f_btw (m_nx X) 48 57 = 0 → EM X (m_tn1 X) p 0) ∧ (X 647 10 = 0 → f_btw (m_nx X) 48 57 = 0 → EM X (m_tn1 X) p 1) ∧ (¬ X 647 10 = 0 → EM X (m_tn1 X) p 1) := by
  have key : ∀ E : Int32, EM X (wu X 647 10 E) p E := fun E => ⟨fun q h => wu_ne h, fun i h h2 => by rw [wu_i, if_neg h2], by rw [wu_i, if_neg (by decide), e], by rw [wu_i, if_pos rfl]⟩
  refine ⟨fun a b => ?_, fun a b => ?_, fun a => ?_⟩
  · unfold m_tn1
    rw [if_pos a, if_neg b]
    exact key 0
  · unfold m_tn1
    rw [if_pos a, if_pos b]
    exact key 1
  · unfold m_tn1
    rw [if_neg a]
    exact key 1
theorem num_S {g : Nat → Nat} {m b : Nat} {r : fB2} {X : fOm} (h : S0 g m b r X) : S1 g m b (bn r f_rn) (m_tn X) := by
  rcases h with ⟨r1, t1, t2, p, k, h1, h2, h3, h4, h5, h6, h7, h8⟩ | ⟨r0, t1, t2, p, h1, h3, h4, h5, h6⟩
  · have eb : bn r f_rn = f_rn r.2 := by
      unfold bn
      rw [if_neg (by rw [r1]; decide)]
    rw [eb]
    unfold f_rn
    rcases dig_E t1 h1 h3 with ⟨d, ed⟩ | ⟨d, ed⟩
    · have d1 := d.1
      have d9 := d.2
      have hlt := t1.lt (i := p) (by omega)
      have e1 := (tn1_E h4).1 h5 (by rw [t2.nx h1 h4]; exact fun q => (dg_b (t1.g p)).mp q d)
      have t3 := e1.T t2
      have e2 : m_tn2 (m_tn1 X) = (nI (g p - 48), wu (m_tn1 X) 647 9 (nI (p + 1))) := by
        unfold m_tn2
        rw [t3.nx h1 e1.2.2.1, e1.2.2.1, nI_1]
        have key : ∀ a : Nat, a < 58 → 48 ≤ a → nI a - 48 = nI (a - 48) := by decide +kernel
        rw [key _ (by omega) d1]
      have e3 : EM X (wu (m_tn1 X) 647 9 (nI (p + 1))) (p + 1) 0 := ⟨fun q hq => (wu_ne hq).trans (e1.1 q hq), fun i h h2 => by rw [wu_i, if_neg h]; exact e1.2.1 i h h2, by rw [wu_i, if_pos rfl], by rw [wu_i, if_neg (by decide)]; exact e1.2.2.2⟩
      have eC := nx_E h3
      obtain ⟨n2, p2, a1, a2, a3, a4, a5, a6, a7⟩ := rnL_S 2 81 (g p - 48) (p + 1) (f_nx r.2) (wu (m_tn1 X) 647 9 (nI (p + 1))) (by omega) (by omega) (show g p - 48 < 10 by omega) (by rcases Nat.eq_zero_or_pos (g p - 48) with q | q; exact Or.inl q; exact Or.inr q) (eC.T t1) (e3.T t2) (by omega) eC.2.2 e3.2.2.1 e3.2.2.2
      rw [ed, if_pos (nI_pos' (by omega)), a3]
      have eT : m_tn X = m_tnE (nI n2, (m_tnF 81 (nI (g p - 48), wu (m_tn1 X) 647 9 (nI (p + 1)))).2) := by
        unfold m_tn m_tnR
        rw [if_pos e1.2.2.2, e2, ← a6]
      rw [eT]
      have c1 := eC.tr a5
      generalize (f_rnL 2 (nI (g p - 48)) (f_nx r.2)).2 = W2 at c1 ⊢
      generalize (m_tnF 81 (nI (g p - 48), wu (m_tn1 X) 647 9 (nI (p + 1)))).2 = X2 at a7 ⊢
      have hX : ∃ e : Int32, EM X X2 p2 e ∧ (e = 0 ∨ (e = 1 ∧ dg (g p2))) := by
        rcases a7 with q | ⟨q, q2⟩
        · exact ⟨0, e3.tr q, Or.inl rfl⟩
        · exact ⟨1, e3.tr q, Or.inr ⟨rfl, q2⟩⟩
      obtain ⟨e, m1, m2⟩ := hX
      obtain ⟨k1, k2, k3, k4, k5, k6, k7, k8, k9⟩ := keep_S (n := nI n2) (b := b) (c := k) (c1.T t1) (m1.T t2) a2 (by omega) c1.2.2 m1.2.2.1 ((c1.2.1 4 (by decide)).trans h6) ((m1.2.1 12 (by decide) (by decide)).trans h7) (fun i hi => by rw [c1.1 530 (by decide), m1.1 656 (by decide)]; exact h8 i hi)
      rcases m2 with rfl | ⟨rfl, m3⟩
      · exact Or.inl ⟨k1, k2, k3, p2, k + 1, a2, by omega, k4, k5, k6.trans m1.2.2.2, k7, k8, k9⟩
      · exact Or.inr ⟨k2, k3, p2, a2, k4, k5, k6.trans m1.2.2.2, Or.inr ⟨k1, m3⟩⟩
    · have e1 := (tn1_E h4).2.1 h5 (by rw [t2.nx h1 h4]; exact (dg_b (t1.g p)).mpr d)
      have eT : m_tn X = m_tn1 X := by
        unfold m_tn
        rw [if_neg (by rw [e1.2.2.2]; decide)]
      rw [eT, ed, if_neg (by decide)]
      exact Or.inr ⟨t1, e1.T t2, p, h1, h3, e1.2.2.1, e1.2.2.2, Or.inl rfl⟩
  · have e1 := (tn1_E h4).2.2 (by rw [h5]; decide)
    have eT : m_tn X = m_tn1 X := by
      unfold m_tn
      rw [if_neg (by rw [e1.2.2.2]; decide)]
    have eb : bn r f_rn = (0, r.2) := by
      unfold bn
      rw [if_pos r0]
    rw [eT, eb]
    exact Or.inr ⟨t1, e1.T t2, p, h1, h3, e1.2.2.1, e1.2.2.2, Or.inl rfl⟩
theorem mode_S {g : Nat → Nat} {m b : Nat} {r : fB2} {X : fOm} (h : S0 g m b r X) : S0 g m b (bn r f_rm) (m_tm X) := by
  have mE : ∀ E : Int32, ∀ {p : Nat}, X 647 9 = nI p → EM X (wu X 647 10 E) p E := fun E p e => ⟨fun q h => wu_ne h, fun i h h2 => by rw [wu_i, if_neg h2], by rw [wu_i, if_neg (by decide), e], by rw [wu_i, if_pos rfl]⟩
  rcases h with ⟨r1, t1, t2, p, k, h1, h2, h3, h4, h5, h6, h7, h8⟩ | ⟨r0, t1, t2, p, h1, h3, h4, h5, h6⟩
  · have eb : bn r f_rm = f_rm r.2 := by
      unfold bn
      rw [if_neg (by rw [r1]; decide)]
    rw [eb]
    unfold f_rm
    have key : ∀ a : Nat, a < 127 → (f_btw (nI a) 48 50 = 0 ↔ ¬ (48 ≤ a ∧ a ≤ 50)) := by decide +kernel
    have key2 : ∀ a : Nat, a < 58 → 48 ≤ a → (f_btw (nI (a - 48)) 0 2 = 0 ↔ ¬ (48 ≤ a ∧ a ≤ 50)) ∧ nI a - 48 = nI (a - 48) := by decide +kernel
    have hf : (¬ (48 ≤ g p ∧ g p ≤ 50) ∧ f_btw (f_digit r.2) 0 2 = 0) ∨ ((48 ≤ g p ∧ g p ≤ 50) ∧ ¬ f_btw (f_digit r.2) 0 2 = 0 ∧ f_digit r.2 = nI (g p - 48)) := by
      rcases dig_E t1 h1 h3 with ⟨d, ed⟩ | ⟨d, ed⟩
      · have := (key2 (g p) (by have := d.2; omega) d.1).1
        rw [ed]
        by_cases c : 48 ≤ g p ∧ g p ≤ 50
        · exact Or.inr ⟨c, fun q => this.mp q c, rfl⟩
        · exact Or.inl ⟨c, this.mpr c⟩
      · rw [ed]
        exact Or.inl ⟨fun q => d ⟨q.1, by omega⟩, by decide⟩
    rcases hf with ⟨c, e⟩ | ⟨c, e, ed⟩
    · rw [if_pos e]
      have e1 := mE 1 h4
      have eT : m_tm X = wu X 647 10 1 := by
        unfold m_tm m_tm1
        rw [if_pos h5, t2.nx h1 h4, if_pos ((key (g p) (by have := t1.g p; omega)).mpr c), if_neg (by rw [e1.2.2.2]; decide)]
      rw [eT]
      exact Or.inr ⟨rfl, t1, e1.T t2, p, h1, h3, e1.2.2.1, e1.2.2.2, Or.inl rfl⟩
    · rw [if_neg e, ed]
      have e1 := mE 0 h4
      have hlt := t1.lt (i := p) (by omega)
      have t3 := e1.T t2
      have eC := nx_E h3
      have e3 : EM X (wu (wu X 647 10 0) 647 9 (nI (p + 1))) (p + 1) 0 := EM.w
      have hk := (key2 (g p) (by omega) c.1).2
      have eT : m_tm X = m_tnE (nI (g p - 48), wu (wu X 647 10 0) 647 9 (nI (p + 1))) := by
        have q10 : m_tm1 X = wu X 647 10 0 := by
          unfold m_tm1
          rw [if_pos h5, t2.nx h1 h4, if_neg (fun q => (key (g p) (by have := t1.g p; omega)).mp q c)]
        have hm := t1.1
        unfold m_tm m_tm2 m_tnE
        try dsimp only
        rw [q10, if_pos e1.2.2.2, t3.nx h1 e1.2.2.1, hk, (e1.2.1 12 (by decide) (by decide)).trans h7, (e3.2.1 12 (by decide) (by decide)).trans h7, nI_clamp (by omega)]
        have a1 : ∀ Y : fOm, ∀ v : Int32, wu Y 656 (b + k) v 647 = Y 647 := fun Y v => wu_ne (by decide)
        rw [a1, a1, (e1.2.1 12 (by decide) (by decide)).trans h7, (e3.2.1 12 (by decide) (by decide)).trans h7]
        funext q i
        by_cases z : q = 647
        · subst z
          simp only [wu_i, a1]
          by_cases z9 : i = 9
          · subst z9
            simp [wu_i, h4, nI_1]
          · by_cases z12 : i = 12
            · subst z12
              simp
            · simp [z9, z12]
        · simp only [wu_ne z]
          by_cases z6 : q = 656
          · subst z6
            simp only [wu_i, wu_ne z]
          · simp only [wu_ne z6, wu_ne z]
      rw [eT]
      obtain ⟨k1, k2, k3, k4, k5, k6, k7, k8, k9⟩ := keep_S (n := nI (g p - 48)) (b := b) (c := k) (eC.T t1) (e3.T t2) (by omega) (by omega) eC.2.2 e3.2.2.1 ((eC.2.1 4 (by decide)).trans h6) ((e3.2.1 12 (by decide) (by decide)).trans h7) (fun i hi => by rw [eC.1 530 (by decide), e3.1 656 (by decide)]; exact h8 i hi)
      exact Or.inl ⟨k1, k2, k3, p + 1, k + 1, by omega, by omega, k4, k5, k6.trans e3.2.2.2, k7, k8, k9⟩
  · have e1 := mE 1 h4
    have eT : m_tm X = wu X 647 10 1 := by
      unfold m_tm m_tm1
      rw [if_neg (show ¬ X 647 10 = 0 by rw [h5]; decide), if_neg (by rw [e1.2.2.2]; decide)]
    have eb : bn r f_rm = (0, r.2) := by
      unfold bn
      rw [if_pos r0]
    rw [eT, eb]
    exact Or.inr ⟨rfl, t1, e1.T t2, p, h1, h3, e1.2.2.1, e1.2.2.2, Or.inl rfl⟩
theorem rnL_4 (f : Nat) : ∀ (n : Int32) (W : fOm), (f_rnL f n W).2 529 4 = W 529 4 := by
  induction f with
  | zero => exact fun _ _ => rfl
  | succ f ih =>
    intro n W
    show (if n ≤ 0 then (n, W) else if f_digit W < 0 then (n, W) else f_rnL f (n * 10 + f_digit W) (f_nx W)).2 529 4 = _
    split
    · rfl
    · split
      · rfl
      · rw [ih]
        unfold f_nx
        rw [wu_i, if_neg (by decide)]
theorem rn_c {W : fOm} (h : ¬ (f_rn W).1 = 0) : (f_rn W).2 529 4 = W 529 4 + 1 := by
  unfold f_rn at h ⊢
  by_cases c : 0 ≤ f_digit W
  · rw [if_pos c] at h ⊢
    have e := rnL_4 2 (f_digit W) (f_nx W)
    have e2 : f_nx W 529 4 = W 529 4 := by
      unfold f_nx
      rw [wu_i, if_neg (by decide)]
    rw [e2] at e
    generalize f_rnL 2 (f_digit W) (f_nx W) = z at h e ⊢
    unfold f_keep at h ⊢
    by_cases c2 : z.2 529 4 < 80
    · rw [if_pos c2]
      show wu (wu z.2 530 (z.2 529 4).toNatClampNeg z.1) 529 4 (wu z.2 530 (z.2 529 4).toNatClampNeg z.1 529 4 + 1) 529 4 = _
      rw [wu_i, if_pos rfl, wu_ne (by decide), e]
    · rw [if_neg c2] at h
      exact absurd rfl h
  · rw [if_neg c] at h
    exact absurd rfl h
theorem tl_w {Y : fOm} (k : Nat) (h : ¬ Y 647 10 = 0) : m_tlF k Y = Y := by
  cases k with
  | zero => rfl
  | succ k => rw [tlFm_s, if_neg h]
theorem nI_eqN {a b : Nat} (ha : a < 2 ^ 31) (hb : b < 2 ^ 31) (e : nI a = nI b) : a = b := by
  have := congrArg Int32.toInt e
  rw [bI ha, bI hb] at this
  omega
theorem val_F {g : Nat → Nat} {m b : Nat} (n : Nat) : ∀ (k : Nat) (W X : fOm), n + 1 ≤ k → GD g m b W X → (∀ c, c ≤ 80 → W 529 4 = nI c → m ≤ b + c + n) → S1 g m b (f_rvF n W) (m_tlF k (m_tn X)) := by
  have nS : ∀ W X, GD g m b W X → S1 g m b (f_rn W) (m_tn X) := fun W X h => by
    have := num_S (g := g) (m := m) (b := b) (r := (1, W)) (X := X) (Or.inl ⟨rfl, h⟩)
    have e : bn (1, W) f_rn = f_rn W := by
      unfold bn
      exact if_neg (show ¬ (1 : Int32) = 0 by decide)
    rw [e] at this
    exact this
  induction n with
  | zero =>
    intro k W X hk h hc
    have hS := nS W X h
    obtain ⟨t1, t2, p, c, h1, h2, h3, h4, h5, h6, h7, h8⟩ := id h
    have hm := t1.1
    have := hc c (by omega) h6
    have e : p = m := by omega
    have e0 : f_rn W = (0, W) := by
      unfold f_rn
      rcases dig_E t1 h1 h3 with ⟨d, -⟩ | ⟨-, ed⟩
      · have := d.1
        rw [e, t1.2.2.2 m (Nat.le_refl m)] at this
        omega
      · rw [ed, if_neg (by decide)]
    rw [e0] at hS
    rcases hS with ⟨q, -⟩ | hB
    · exact absurd q (show ¬ (0 : Int32) = 1 by decide)
    · rw [tl_w k (by rw [hB.2.2.choose_spec.2.2.2.1]; decide)]
      exact Or.inr hB
  | succ n ih =>
    intro k W X hk h hc
    have hS := nS W X h
    obtain ⟨k, rfl⟩ : ∃ k2, k = k2 + 1 := ⟨k - 1, by omega⟩
    rw [rvF_s]
    rcases hS with ⟨q1, q2⟩ | hB
    · have hr : ¬ (f_rn W).1 = 0 := by rw [q1]; decide
      have hcn := rn_c hr
      rw [if_neg hr, tlFm_s]
      obtain ⟨t1, t2, p, c, h1, h2, h3, h4, h5, h6, h7, h8⟩ := q2
      obtain ⟨-, -, p0, c0, o1, o2, -, -, -, o6, -⟩ := h
      have hm := t1.1
      rw [o6, nI_1, h6] at hcn
      have ec := nI_eqN (by omega) (by omega) hcn
      have hc0 := hc c0 (by omega) o6
      rw [if_pos h5, t2.nx h1 h4]
      by_cases e : g p = 44
      · have et : f_take (f_rn W).2 44 = (1, wu (f_rn W).2 529 1 (nI (p + 1))) := by
          unfold f_take
          rw [t1.sg h1 h3, e, if_pos (show nI 44 = (44 : Int32) from rfl), h3, nI_1]
        have hlt := t1.lt (i := p) (by omega)
        rw [et, if_neg (show ¬ (1 : Int32) = 0 by decide), if_pos (show nI (g p) = (44 : Int32) by rw [e]; rfl)]
        have eC : EC (f_rn W).2 (wu (f_rn W).2 529 1 (nI (p + 1))) (p + 1) := EC.w
        have e9 : wu (m_tn X) 647 9 (m_tn X 647 9 + 1) = wu (m_tn X) 647 9 (nI (p + 1)) := by rw [h4, nI_1]
        have eM : EM (m_tn X) (wu (m_tn X) 647 9 (nI (p + 1))) (p + 1) 0 := ⟨fun q h => wu_ne h, fun i h _ => by rw [wu_i, if_neg h], by rw [wu_i, if_pos rfl], by rw [wu_i, if_neg (by decide), h5]⟩
        unfold m_tlS
        rw [e9]
        refine ih k _ _ (by omega) ⟨eC.T t1, eM.T t2, p + 1, c, by omega, by omega, eC.2.2, eM.2.2.1, eM.2.2.2, (eC.2.1 4 (by decide)).trans h6, (eM.2.1 12 (by decide) (by decide)).trans h7, fun i hi => by show wu (f_rn W).2 529 1 (nI (p + 1)) 530 i = _; rw [eC.1 530 (by decide), eM.1 656 (by decide)]; exact h8 i hi⟩ (fun c2 hc2 q => ?_)
        have ec2 := nI_eqN (by omega) (by omega) (((eC.2.1 4 (by decide)).trans h6).symm.trans q)
        omega
      · have en : ¬ nI (g p) = (44 : Int32) := fun q => e (nI_eqN (by have := t1.g p; omega) (by decide) q)
        have et : f_take (f_rn W).2 44 = (0, (f_rn W).2) := by
          unfold f_take
          rw [t1.sg h1 h3, if_neg en]
        rw [et, if_pos (show (0 : Int32) = 0 from rfl), if_neg en]
        exact Or.inl ⟨rfl, t1, t2, p, c, h1, h2, h3, h4, h5, h6, h7, h8⟩
    · rw [tl_w (k + 1) (by rw [hB.2.2.choose_spec.2.2.2.1]; decide)]
      obtain ⟨t1, t2, p, h1, h3, h4, h5, h6⟩ := hB
      rcases h6 with h6 | ⟨h6, h7⟩
      · rw [if_pos h6]
        exact Or.inr ⟨t1, t2, p, h1, h3, h4, h5, Or.inl rfl⟩
      · rw [if_neg (by rw [h6]; decide)]
        have en : ¬ nI (g p) = (44 : Int32) := fun q => by
          have := nI_eqN (b := 44) (by have := t1.g p; omega) (by decide) q
          have := h7.1
          omega
        have et : f_take (f_rn W).2 44 = (0, (f_rn W).2) := by
          unfold f_take
          rw [t1.sg h1 h3, if_neg en]
        rw [et, if_pos (show (0 : Int32) = 0 from rfl)]
        exact Or.inr ⟨t1, t2, p, h1, h3, h4, h5, Or.inr ⟨rfl, h7⟩⟩
