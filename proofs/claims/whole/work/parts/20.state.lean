/-! ===== a whole state on both sides ===== -/
def inJ (j i : Nat) : Prop := 266 + 6 * j ≤ i ∧ i < 272 + 6 * j
def JR (C : fOm) (k : Nat) (a : Nat → Int32) (j : Nat) : Prop :=
  (∀ i, i < 6 → a (266 + 6 * j + i) = C k i) ∧ ((0 ≤ a (266 + 6 * j) ∧ a (266 + 6 * j) < a 5) ∧ (0 ≤ a (267 + 6 * j) ∧ a (267 + 6 * j) < a (8 + 6 * (a (266 + 6 * j)).toNatClampNeg))) ∧ ((0 ≤ a (268 + 6 * j) ∧ a (268 + 6 * j) < a 5) ∧ (0 ≤ a (269 + 6 * j) ∧ a (269 + 6 * j) < a (8 + 6 * (a (268 + 6 * j)).toNatClampNeg))) ∧
  a (266 + 6 * j) ≠ a (268 + 6 * j) ∧ (C k 4 = 0 ∨ C k 4 = 1 ∨ C k 4 = 2)
theorem lt5 {x y : Int32} (h : 0 ≤ x ∧ x < y) (hn : y ≤ 5) : x.toNatClampNeg < 5 := by
  have q := Int32.lt_iff_toInt_lt.mp h.2
  have q2 := Int32.le_iff_toInt_le.mp hn
  rw [tn_toInt h.1] at q
  have : (5 : Int32).toInt = 5 := rfl
  omega
theorem JR.fr {C C2 : fOm} {k j : Nat} {a a2 : Nat → Int32} (h : JR C k a j) (h0 : C2 k = C k) (ha : ∀ i, inJ j i → a2 i = a i) (h5 : a2 5 = a 5) (h8 : ∀ l, l < 5 → a2 (8 + 6 * l) = a (8 + 6 * l)) (hn : a 5 ≤ 5) : JR C2 k a2 j := by
  obtain ⟨g1, g2, g3, g4, g5⟩ := h
  have e0 := ha (266 + 6 * j) ⟨by omega, by omega⟩
  have e1 := ha (267 + 6 * j) ⟨by omega, by omega⟩
  have e2 := ha (268 + 6 * j) ⟨by omega, by omega⟩
  have e3 := ha (269 + 6 * j) ⟨by omega, by omega⟩
  unfold JR
  rw [e0, e1, e2, e3, h0, h5, h8 _ (lt5 g2.1 hn), h8 _ (lt5 g3.1 hn)]
  exact ⟨fun i hi => (ha _ ⟨by omega, by omega⟩).trans (g1 i hi), g2, g3, g4, g5⟩
def LB (a : Nat → Int32) (r : Nat) : Prop := (∀ t, t < 5 → a (9 + 6 * r + t) = 0) ∧ ∀ p, p < 32 → a (290 + 96 * r + 3 * p) = -6 ∧ a (290 + 96 * r + 3 * p + 1) = 0 ∧ a (290 + 96 * r + 3 * p + 2) = 0
def SB (a : Nat → Int32) : Prop := (0 ≤ a 0 ∧ a 0 ≤ 200) ∧ (0 ≤ a 1 ∧ a 1 ≤ 200) ∧ (0 ≤ a 2 ∧ a 2 ≤ 200) ∧ (100 ≤ a 3 ∧ a 3 ≤ 1000)
def SN (a : Nat → Int32) : Prop := (0 ≤ a 5 ∧ a 5 ≤ 5) ∧ (0 ≤ a 6 ∧ a 6 ≤ 12) ∧ (0 ≤ a 7 ∧ a 7 ≤ 4)
def SR (C : fOm) (b : Nat) (a : Nat → Int32) : Prop :=
  (∀ i, i < 4 → a i = C (b + 1) i) ∧ (∀ i, 4 ≤ i → i < 8 → a i = C b i) ∧ SB a ∧ SN a ∧ (∀ r, r < (a 5).toNatClampNeg → LRp C (b + 5 + 5 * r) a r) ∧ (∀ r, r < 5 → (a 5).toNatClampNeg ≤ r → LB a r) ∧
  (∀ d, d < (a 6).toNatClampNeg → DR C (b + 30 + 2 * d) a d) ∧ (∀ j, j < (a 7).toNatClampNeg → JR C (b + 54 + j) a j)
theorem SN.n5 {a : Nat → Int32} (h : SN a) : (a 5).toNatClampNeg ≤ 5 := tn_le h.1 rfl
theorem SN.n6 {a : Nat → Int32} (h : SN a) : (a 6).toNatClampNeg ≤ 12 := tn_le h.2.1 rfl
theorem SN.n7 {a : Nat → Int32} (h : SN a) : (a 7).toNatClampNeg ≤ 4 := tn_le h.2.2 rfl
/-- some loops, devices, joins change, and all else stays -/
theorem SR.upd {C C2 : fOm} {b : Nat} {a a2 : Nat → Int32} (h : SR C b a) (R D J : Nat → Prop) (hR : ∀ r, R r → r < (a 5).toNatClampNeg) (hD : ∀ d, D d → d < (a 6).toNatClampNeg) (hJ : ∀ j, J j → j < (a 7).toNatClampNeg)
    (hC : ∀ q, b ≤ q → q < b + 58 → (∀ r, R r → ¬ (b + 5 + 5 * r < q ∧ q < b + 10 + 5 * r)) → (∀ d, D d → q ≠ b + 30 + 2 * d ∧ q ≠ b + 31 + 2 * d) → (∀ j, J j → q ≠ b + 54 + j) → C2 q = C q)
    (ha : ∀ i, (∀ r, R r → ¬ inL r i) → (∀ d, D d → ¬ inD d i) → (∀ j, J j → ¬ inJ j i) → a2 i = a i)
    (hL : ∀ r, R r → LRp C2 (b + 5 + 5 * r) a2 r) (hd : ∀ d, D d → DR C2 (b + 30 + 2 * d) a2 d) (hj : ∀ j, J j → JR C2 (b + 54 + j) a2 j) : SR C2 b a2 := by
  obtain ⟨h1, h2, h3, h4, h5, h6, h7, h8⟩ := h
  have n5 := h4.n5
  have n6 := h4.n6
  have n7 := h4.n7
  have lo : ∀ i, (i < 9 ∨ (i < 38 ∧ ∃ l, i = 8 + 6 * l)) → a2 i = a i := fun i hi => by
    refine ha i (fun r hr q => ?_) (fun d hd q => ?_) (fun j hj q => ?_)
    · have := hR r hr
      unfold inL at q
      rcases hi with hi | ⟨hi, l, rfl⟩ <;> omega
    · unfold inD at q
      rcases hi with hi | ⟨hi, l, rfl⟩ <;> omega
    · unfold inJ at q
      rcases hi with hi | ⟨hi, l, rfl⟩ <;> omega
  have e5 := lo 5 (by omega)
  have e8 : ∀ l, l < 5 → a2 (8 + 6 * l) = a (8 + 6 * l) := fun l hl => lo _ (Or.inr ⟨by omega, l, rfl⟩)
  have hb1 : C2 (b + 1) = C (b + 1) := hC _ (by omega) (by omega) (fun r hr q => by omega) (fun d hd => by omega) (fun j hj => by omega)
  have hb0 : C2 b = C b := hC _ (by omega) (by omega) (fun r hr q => by omega) (fun d hd => by omega) (fun j hj => by omega)
  refine ⟨fun i hi => ?_, fun i hi hi2 => ?_, ?_, ?_, fun r hr => ?_, fun r hr hr2 => ?_, fun d hd2 => ?_, fun j hj2 => ?_⟩
  · rw [lo i (by omega), hb1]
    exact h1 i hi
  · rw [lo i (by omega), hb0]
    exact h2 i hi hi2
  · unfold SB
    rw [lo 0 (by omega), lo 1 (by omega), lo 2 (by omega), lo 3 (by omega)]
    exact h3
  · unfold SN
    rw [lo 5 (by omega), lo 6 (by omega), lo 7 (by omega)]
    exact h4
  · rw [e5] at hr
    by_cases c : R r
    · exact hL r c
    · have ne : ∀ r2, R r2 → r2 ≠ r := fun r2 h e => c (e ▸ h)
      refine (h5 r hr).fr (fun q q1 q2 => hC q (by omega) (by omega) (fun r2 hr2 z => by have := ne r2 hr2; omega) (fun d hd3 => by omega) (fun j hj3 => by omega)) (fun i hi => ha i (fun r2 hr2 z => ?_) (fun d hd3 z => ?_) (fun j hj3 z => ?_)) (e8 r (by omega))
      · have := ne r2 hr2
        have := hR r2 hr2
        unfold inL at hi z
        omega
      · have := hD d hd3
        unfold inL at hi
        unfold inD at z
        omega
      · have := hJ j hj3
        unfold inL at hi
        unfold inJ at z
        omega
  · rw [e5] at hr2
    have k : ∀ i, inL r i → a2 i = a i := fun i hi => by
      refine ha i (fun r2 hr3 z => ?_) (fun d hd3 z => ?_) (fun j hj3 z => ?_)
      · have := hR r2 hr3
        unfold inL at hi z
        omega
      · have := hD d hd3
        unfold inL at hi
        unfold inD at z
        omega
      · have := hJ j hj3
        unfold inL at hi
        unfold inJ at z
        omega
    obtain ⟨g1, g2⟩ := h6 r hr hr2
    refine ⟨fun t ht => (k _ (Or.inl ⟨by omega, by omega⟩)).trans (g1 t ht), fun p hp => ?_⟩
    rw [k _ (Or.inr ⟨by omega, by omega⟩), k _ (Or.inr ⟨by omega, by omega⟩), k _ (Or.inr ⟨by omega, by omega⟩)]
    exact g2 p hp
  · rw [lo 6 (by omega)] at hd2
    by_cases c : D d
    · exact hd d c
    · have ne : ∀ d2, D d2 → d2 ≠ d := fun d2 h e => c (e ▸ h)
      refine (h7 d hd2).fr (hC _ (by omega) (by omega) (fun r hr z => by have := hR r hr; omega) (fun d2 hd3 => by have := ne d2 hd3; omega) (fun j hj3 => by omega)) (hC _ (by omega) (by omega) (fun r hr z => by have := hR r hr; omega) (fun d2 hd3 => by have := ne d2 hd3; omega) (fun j hj3 => by omega)) (fun i hi => ha i (fun r hr z => ?_) (fun d2 hd3 z => ?_) (fun j hj3 z => ?_)) e5 e8 h4.1.2
      · have := hR r hr
        unfold inD at hi
        unfold inL at z
        omega
      · have := ne d2 hd3
        have := hD d2 hd3
        unfold inD at hi z
        omega
      · have := hJ j hj3
        unfold inD at hi
        unfold inJ at z
        omega
  · rw [lo 7 (by omega)] at hj2
    by_cases c : J j
    · exact hj j c
    · have ne : ∀ j2, J j2 → j2 ≠ j := fun j2 h e => c (e ▸ h)
      refine (h8 j hj2).fr (hC _ (by omega) (by omega) (fun r hr z => by have := hR r hr; omega) (fun d hd3 => by have := hD d hd3; omega) (fun j2 hj3 => by have := ne j2 hj3; omega)) (fun i hi => ha i (fun r hr z => ?_) (fun d hd3 z => ?_) (fun j2 hj3 z => ?_)) e5 e8 h4.1.2
      · have := hR r hr
        unfold inJ at hi
        unfold inL at z
        omega
      · have := hD d hd3
        unfold inJ at hi
        unfold inD at z
        omega
      · have := ne j2 hj3
        unfold inJ at hi z
        omega
theorem SR.set {C : fOm} {b i : Nat} {a : Nat → Int32} (h : SR C b a) (hi : i < 4) : f_setting C b (nI i) = a i := by
  have key : ∀ i, i < 4 → ¬ f_btw (nI i) 0 3 = 0 := by decide +kernel
  unfold f_setting
  rw [if_neg (key i hi), nI_clamp (by omega)]
  exact (h.1 i hi).symm
theorem SR.W {C : fOm} {b : Nat} {a : Nat → Int32} (h : SR C b a) : SN a := h.2.2.2.1
/-- a loop that is there -/
theorem SR.ring {C : fOm} {b r : Nat} {a : Nat → Int32} (h : SR C b a) (hr : r < (a 5).toNatClampNeg) : f_ringOf C b (nI r) = some (b + 5 + 5 * r) := by
  have h5 := h.2.1 5 (by omega) (by omega)
  have n5 := h.W.n5
  unfold f_ringOf
  rw [if_neg (nI_pos (by omega)), ← h5, if_neg, nI_clamp (by omega)]
  intro q
  have e : a 5 = nI (a 5).toNatClampNeg := (tn_nI h.W.1.1).symm
  rw [e] at q
  exact nI_ge hr (by omega) q
/-- the loops move on -/
theorem SR.move {C M : fOm} {b r : Nat} (h : SR C b (M 648)) (hr : r < (M 648 5).toNatClampNeg) : SR (f_moveOn C (b + 5 + 5 * r) (f_setting C b 0)) b (m_fadeAll (m_turn M (nI r)) (nI r) 648) := by
  have n5 := h.W.n5
  have hs : f_setting C b 0 = M 648 0 := h.set (i := 0) (by omega)
  have hL := (h.2.2.2.2.1 r hr).move (b := M 648 0) (by omega) h.2.2.1.1 rfl
  rw [hs]
  refine h.upd (fun q => q = r) (fun _ => False) (fun _ => False) (fun q e => by rw [e]; exact hr) (fun _ e => e.elim) (fun _ e => e.elim) (fun q _ _ h1 _ _ => ?_) (fun i h1 _ _ => hL.2 i (h1 r rfl)) (fun q e => by rw [e]; exact hL.1) (fun _ e => e.elim) (fun _ e => e.elim)
  exact moveOn_M q (fun z => h1 r rfl ⟨z.1, by have := z.2; omega⟩)
/-- a device acts -/
theorem SR.act {C M : fOm} {b d : Nat} (h : SR C b (M 648)) (hd : d < (M 648 6).toNatClampNeg) : ∃ kr, f_ringOf C b (C (b + 30 + 2 * d) 1) = some kr ∧ SR (f_actOn C (b + 30 + 2 * d) kr b) b (m_act M (nI d) 648) := by
  have n5 := h.W.n5
  have n6 := h.W.n6
  have hD := h.2.2.2.2.2.2.1 d hd
  obtain ⟨⟨d0, d1, d2, d3, d4, d6⟩, ⟨hr1, hp1⟩, -⟩ := id hD
  have hrl := lt5 hr1 h.W.1.2
  obtain ⟨r, er⟩ : ∃ r, M 648 (39 + 19 * d) = nI r ∧ (M 648 (39 + 19 * d)).toNatClampNeg = r := ⟨_, (tn_nI hr1.1).symm, rfl⟩
  rw [er.2] at hrl hp1
  have hr : r < (M 648 5).toNatClampNeg := by
    have q := Int32.lt_iff_toInt_lt.mp hr1.2
    rw [tn_toInt hr1.1, tn_toInt h.W.1.1, er.2] at q
    omega
  have hL := h.2.2.2.2.1 r hr
  obtain ⟨P, hP4, hP, eP, eP2⟩ := hL.P
  obtain ⟨p, ep⟩ : ∃ p, M 648 (40 + 19 * d) = nI p ∧ (M 648 (40 + 19 * d)).toNatClampNeg = p := ⟨_, (tn_nI hp1.1).symm, rfl⟩
  have hp : p < (C (b + 5 + 5 * r) 0).toNatClampNeg := by
    have q := Int32.lt_iff_toInt_lt.mp hp1.2
    rw [hL.1, eP, nI_toInt (by omega), tn_toInt hp1.1, ep.2] at q
    rw [eP2]
    omega
  refine ⟨b + 5 + 5 * r, by rw [← d1, er.1]; exact h.ring hr, ?_⟩
  have hpl : C (b + 30 + 2 * d) 2 = nI p := by rw [← d2]; exact ep.1
  have s1 : f_setting C b 1 = M 648 1 := h.set (i := 1) (by omega)
  have s3 : f_setting C b 3 = M 648 3 := h.set (i := 3) (by omega)
  have t4 : C b 4 = M 648 4 := (h.2.1 4 (by omega) (by omega)).symm
  obtain ⟨x0, x1, x2, x3, x4, x5, x6, x7⟩ := iDs (d := d) (by omega)
  have ec : m_actc M (nI d) = nI (290 + 96 * r + 3 * p) := by
    unfold m_actc
    rw [x1, x2, er.1, ep.1, mc_n]
  have et : (nI (290 + 96 * r + 3 * p)).toNatClampNeg = 290 + 96 * r + 3 * p := nI_clamp (by omega)
  have key : Act C (f_actOn C (b + 30 + 2 * d) (b + 5 + 5 * r) b) (b + 30 + 2 * d) (b + 5 + 5 * r) (M 648) (m_act M (nI d) 648) d r := by
    unfold f_actOn m_act
    rw [x0, x1, x3, x4, x5, d0, ec, et, s1, s3, t4]
    rcases hD.2.2 with ⟨q, -⟩ | ⟨q, -⟩ | ⟨q, -⟩ | ⟨q, -⟩ | ⟨q, -⟩
    · rw [q, if_pos rfl, if_pos rfl]
      exact amp_A (by omega) (by omega) (by omega) hL hD q hp hpl h.W.1.2
    · rw [q, if_neg (by decide), if_pos rfl, if_neg (by decide), if_pos rfl]
      exact note_A (by omega) (by omega) (by omega) hL hD q hp hpl er.1 h.W.1.2 h.2.2.1.2.1 rfl
    · rw [q, if_neg (by decide), if_neg (by decide), if_pos rfl, if_neg (by decide), if_neg (by decide), if_pos rfl]
      exact putNext_A (by omega) (by omega) (by omega) hL hD q hp hpl er.1 h.W.1.2 h.2.2.1.2.2.2 rfl rfl
    · rw [q, if_neg (by decide), if_neg (by decide), if_neg (by decide), if_pos rfl, if_neg (by decide), if_neg (by decide), if_neg (by decide), if_pos rfl]
      exact change_A (by omega) (by omega) (by omega) hL hD q hp hpl h.W.1.2
    · rw [q, if_neg (by decide), if_neg (by decide), if_neg (by decide), if_neg (by decide), if_pos rfl, if_neg (by decide), if_neg (by decide), if_neg (by decide), if_neg (by decide)]
      exact drop_A (by omega) (by omega) (by omega) hL hD q hp hpl er.1 h.W.1.2
  refine h.upd (fun q => q = r) (fun q => q = d) (fun _ => False) (fun q e => by rw [e]; exact hr) (fun q e => by rw [e]; exact hd) (fun _ e => e.elim) (fun q _ _ h1 h2 _ => ?_) (fun i h1 h2 _ => key.2.2 i (h1 r rfl) (h2 d rfl)) (fun q e => by rw [e]; exact key.1) (fun q e => by rw [e]; exact key.2.1) (fun _ e => e.elim)
  refine actOn_M q (fun z => ?_)
  have h1 := h1 r rfl
  have h2 := h2 d rfl
  rcases z with (z | z) | z <;> omega
