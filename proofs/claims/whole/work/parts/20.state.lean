/-! ===== a whole state on both sides ===== -/
def inJ (j i : Nat) : Prop := 266 + 6 * j ≤ i ∧ i < 272 + 6 * j
def JR (C : fOm) (k : Nat) (a : Nat → Int32) (j : Nat) : Prop :=
  (∀ i, i < 6 → a (266 + 6 * j + i) = C k i) ∧ ((0 ≤ a (266 + 6 * j) ∧ a (266 + 6 * j) < a 5) ∧ (0 ≤ a (267 + 6 * j) ∧ a (267 + 6 * j) < a (8 + 6 * (a (266 + 6 * j)).toNatClampNeg))) ∧ ((0 ≤ a (268 + 6 * j) ∧ a (268 + 6 * j) < a 5) ∧ (0 ≤ a (269 + 6 * j) ∧ a (269 + 6 * j) < a (8 + 6 * (a (268 + 6 * j)).toNatClampNeg))) ∧
  a (266 + 6 * j) ≠ a (268 + 6 * j) ∧ (C k 4 = 0 ∨ C k 4 = 1 ∨ C k 4 = 2)
theorem lt5 {x y : Int32} (h : 0 ≤ x ∧ x < y) (hn : y ≤ 5) : x.toNatClampNeg < 5 := by
  have q := Int32.lt_iff_toInt_lt.mp h.2
  have q2 := Int32.le_iff_toInt_le.mp hn
  rw [tn_toInt h.1] at q
  have : (5 : Int32).toInt = 5 := rfl
  omega
theorem JR.fr {C C2 : fOm} {k j : Nat} {a a2 : Nat → Int32} (h : JR C k a j) (h0 : C2 k = C k) (ha : ∀ i, inJ j i → a2 i = a i) (h5 : a2 5 = a 5) (h8 : ∀ l, l < 5 → a2 (8 + 6 * l) = a (8 + 6 * l)) (hn : a 5 ≤ 5) : JR C2 k a2 j := by
  obtain ⟨g1, g2, g3, g4, g5⟩ := h
  have e0 := ha (266 + 6 * j) ⟨by omega, by omega⟩
  have e1 := ha (267 + 6 * j) ⟨by omega, by omega⟩
  have e2 := ha (268 + 6 * j) ⟨by omega, by omega⟩
  have e3 := ha (269 + 6 * j) ⟨by omega, by omega⟩
  unfold JR
  rw [e0, e1, e2, e3, h0, h5, h8 _ (lt5 g2.1 hn), h8 _ (lt5 g3.1 hn)]
  exact ⟨fun i hi => (ha _ ⟨by omega, by omega⟩).trans (g1 i hi), g2, g3, g4, g5⟩
def LB (a : Nat → Int32) (r : Nat) : Prop := (∀ t, t < 5 → a (9 + 6 * r + t) = 0) ∧ ∀ p, p < 32 → a (290 + 96 * r + 3 * p) = -6 ∧ a (290 + 96 * r + 3 * p + 1) = 0 ∧ a (290 + 96 * r + 3 * p + 2) = 0
def SB (a : Nat → Int32) : Prop := (0 ≤ a 0 ∧ a 0 ≤ 200) ∧ (0 ≤ a 1 ∧ a 1 ≤ 200) ∧ (0 ≤ a 2 ∧ a 2 ≤ 200) ∧ (100 ≤ a 3 ∧ a 3 ≤ 1000)
def SN (a : Nat → Int32) : Prop := (0 ≤ a 5 ∧ a 5 ≤ 5) ∧ (0 ≤ a 6 ∧ a 6 ≤ 12) ∧ (0 ≤ a 7 ∧ a 7 ≤ 4)
def SR (C : fOm) (b : Nat) (a : Nat → Int32) : Prop :=
  (∀ i, i < 4 → a i = C (b + 1) i) ∧ (∀ i, 4 ≤ i → i < 8 → a i = C b i) ∧ SB a ∧ SN a ∧ (∀ r, r < (a 5).toNatClampNeg → LRp C (b + 5 + 5 * r) a r) ∧ (∀ r, r < 5 → (a 5).toNatClampNeg ≤ r → LB a r) ∧
  (∀ d, d < (a 6).toNatClampNeg → DR C (b + 30 + 2 * d) a d) ∧ (∀ j, j < (a 7).toNatClampNeg → JR C (b + 54 + j) a j)
theorem SN.n5 {a : Nat → Int32} (h : SN a) : (a 5).toNatClampNeg ≤ 5 := tn_le h.1 rfl
theorem SN.n6 {a : Nat → Int32} (h : SN a) : (a 6).toNatClampNeg ≤ 12 := tn_le h.2.1 rfl
theorem SN.n7 {a : Nat → Int32} (h : SN a) : (a 7).toNatClampNeg ≤ 4 := tn_le h.2.2 rfl
/-- some loops, devices, joins change, and all else stays -/
theorem SR.upd {C C2 : fOm} {b : Nat} {a a2 : Nat → Int32} (h : SR C b a) (R D J : Nat → Prop) (hR : ∀ r, R r → r < (a 5).toNatClampNeg) (hD : ∀ d, D d → d < (a 6).toNatClampNeg) (hJ : ∀ j, J j → j < (a 7).toNatClampNeg)
    (hC : ∀ q, b ≤ q → q < b + 58 → (∀ r, R r → ¬ (b + 5 + 5 * r < q ∧ q < b + 10 + 5 * r)) → (∀ d, D d → q ≠ b + 30 + 2 * d ∧ q ≠ b + 31 + 2 * d) → (∀ j, J j → q ≠ b + 54 + j) → C2 q = C q)
    (ha : ∀ i, (∀ r, R r → ¬ inL r i) → (∀ d, D d → ¬ inD d i) → (∀ j, J j → ¬ inJ j i) → a2 i = a i)
    (hL : ∀ r, R r → LRp C2 (b + 5 + 5 * r) a2 r) (hd : ∀ d, D d → DR C2 (b + 30 + 2 * d) a2 d) (hj : ∀ j, J j → JR C2 (b + 54 + j) a2 j) : SR C2 b a2 := by
  obtain ⟨h1, h2, h3, h4, h5, h6, h7, h8⟩ := h
  have n5 := h4.n5
  have n6 := h4.n6
  have n7 := h4.n7
  have lo : ∀ i, (i < 9 ∨ (i < 38 ∧ ∃ l, i = 8 + 6 * l)) → a2 i = a i := fun i hi => by
    refine ha i (fun r hr q => ?_) (fun d hd q => ?_) (fun j hj q => ?_)
    · have := hR r hr
      unfold inL at q
      rcases hi with hi | ⟨hi, l, rfl⟩ <;> omega
    · unfold inD at q
      rcases hi with hi | ⟨hi, l, rfl⟩ <;> omega
    · unfold inJ at q
      rcases hi with hi | ⟨hi, l, rfl⟩ <;> omega
  have e5 := lo 5 (by omega)
  have e8 : ∀ l, l < 5 → a2 (8 + 6 * l) = a (8 + 6 * l) := fun l hl => lo _ (Or.inr ⟨by omega, l, rfl⟩)
  have hb1 : C2 (b + 1) = C (b + 1) := hC _ (by omega) (by omega) (fun r hr q => by omega) (fun d hd => by omega) (fun j hj => by omega)
  have hb0 : C2 b = C b := hC _ (by omega) (by omega) (fun r hr q => by omega) (fun d hd => by omega) (fun j hj => by omega)
  refine ⟨fun i hi => ?_, fun i hi hi2 => ?_, ?_, ?_, fun r hr => ?_, fun r hr hr2 => ?_, fun d hd2 => ?_, fun j hj2 => ?_⟩
  · rw [lo i (by omega), hb1]
    exact h1 i hi
  · rw [lo i (by omega), hb0]
    exact h2 i hi hi2
  · unfold SB
    rw [lo 0 (by omega), lo 1 (by omega), lo 2 (by omega), lo 3 (by omega)]
    exact h3
  · unfold SN
    rw [lo 5 (by omega), lo 6 (by omega), lo 7 (by omega)]
    exact h4
  · rw [e5] at hr
    by_cases c : R r
    · exact hL r c
    · have ne : ∀ r2, R r2 → r2 ≠ r := fun r2 h e => c (e ▸ h)
      refine (h5 r hr).fr (fun q q1 q2 => hC q (by omega) (by omega) (fun r2 hr2 z => by have := ne r2 hr2; omega) (fun d hd3 => by omega) (fun j hj3 => by omega)) (fun i hi => ha i (fun r2 hr2 z => ?_) (fun d hd3 z => ?_) (fun j hj3 z => ?_)) (e8 r (by omega))
      · have := ne r2 hr2
        have := hR r2 hr2
        unfold inL at hi z
        omega
      · have := hD d hd3
        unfold inL at hi
        unfold inD at z
        omega
      · have := hJ j hj3
        unfold inL at hi
        unfold inJ at z
        omega
  · rw [e5] at hr2
    have k : ∀ i, inL r i → a2 i = a i := fun i hi => by
      refine ha i (fun r2 hr3 z => ?_) (fun d hd3 z => ?_) (fun j hj3 z => ?_)
      · have := hR r2 hr3
        unfold inL at hi z
        omega
      · have := hD d hd3
        unfold inL at hi
        unfold inD at z
        omega
      · have := hJ j hj3
        unfold inL at hi
        unfold inJ at z
        omega
    obtain ⟨g1, g2⟩ := h6 r hr hr2
    refine ⟨fun t ht => (k _ (Or.inl ⟨by omega, by omega⟩)).trans (g1 t ht), fun p hp => ?_⟩
    rw [k _ (Or.inr ⟨by omega, by omega⟩), k _ (Or.inr ⟨by omega, by omega⟩), k _ (Or.inr ⟨by omega, by omega⟩)]
    exact g2 p hp
  · rw [lo 6 (by omega)] at hd2
    by_cases c : D d
    · exact hd d c
    · have ne : ∀ d2, D d2 → d2 ≠ d := fun d2 h e => c (e ▸ h)
      refine (h7 d hd2).fr (hC _ (by omega) (by omega) (fun r hr z => by have := hR r hr; omega) (fun d2 hd3 => by have := ne d2 hd3; omega) (fun j hj3 => by omega)) (hC _ (by omega) (by omega) (fun r hr z => by have := hR r hr; omega) (fun d2 hd3 => by have := ne d2 hd3; omega) (fun j hj3 => by omega)) (fun i hi => ha i (fun r hr z => ?_) (fun d2 hd3 z => ?_) (fun j hj3 z => ?_)) e5 e8 h4.1.2
      · have := hR r hr
        unfold inD at hi
        unfold inL at z
        omega
      · have := ne d2 hd3
        have := hD d2 hd3
        unfold inD at hi z
        omega
      · have := hJ j hj3
        unfold inD at hi
        unfold inJ at z
        omega
  · rw [lo 7 (by omega)] at hj2
    by_cases c : J j
    · exact hj j c
    · have ne : ∀ j2, J j2 → j2 ≠ j := fun j2 h e => c (e ▸ h)
      refine (h8 j hj2).fr (hC _ (by omega) (by omega) (fun r hr z => by have := hR r hr; omega) (fun d hd3 => by have := hD d hd3; omega) (fun j2 hj3 => by have := ne j2 hj3; omega)) (fun i hi => ha i (fun r hr z => ?_) (fun d hd3 z => ?_) (fun j2 hj3 z => ?_)) e5 e8 h4.1.2
      · have := hR r hr
        unfold inJ at hi
        unfold inL at z
        omega
      · have := hD d hd3
        unfold inJ at hi
        unfold inD at z
        omega
      · have := ne j2 hj3
        unfold inJ at hi z
        omega
theorem SR.set {C : fOm} {b i : Nat} {a : Nat → Int32} (h : SR C b a) (hi : i < 4) : f_setting C b (nI i) = a i := by
  have key : ∀ i, i < 4 → ¬ f_btw (nI i) 0 3 = 0 := by decide +kernel
  unfold f_setting
  rw [if_neg (key i hi), nI_clamp (by omega)]
  exact (h.1 i hi).symm
theorem SR.W {C : fOm} {b : Nat} {a : Nat → Int32} (h : SR C b a) : SN a := h.2.2.2.1
/-- a loop that is there -/
theorem SR.ring {C : fOm} {b r : Nat} {a : Nat → Int32} (h : SR C b a) (hr : r < (a 5).toNatClampNeg) : f_ringOf C b (nI r) = some (b + 5 + 5 * r) := by
  have h5 := h.2.1 5 (by omega) (by omega)
  have n5 := h.W.n5
  unfold f_ringOf
  rw [if_neg (nI_pos (by omega)), ← h5, if_neg, nI_clamp (by omega)]
  intro q
  have e : a 5 = nI (a 5).toNatClampNeg := (tn_nI h.W.1.1).symm
  rw [e] at q
  exact nI_ge hr (by omega) q
/-- the loops move on -/
theorem SR.move {C M : fOm} {b r : Nat} (h : SR C b (M 648)) (hr : r < (M 648 5).toNatClampNeg) : SR (f_moveOn C (b + 5 + 5 * r) (f_setting C b 0)) b (m_fadeAll (m_turn M (nI r)) (nI r) 648) := by
  have n5 := h.W.n5
  have hs : f_setting C b 0 = M 648 0 := h.set (i := 0) (by omega)
  have hL := (h.2.2.2.2.1 r hr).move (b := M 648 0) (by omega) h.2.2.1.1 rfl
  rw [hs]
  refine h.upd (fun q => q = r) (fun _ => False) (fun _ => False) (fun q e => by rw [e]; exact hr) (fun _ e => e.elim) (fun _ e => e.elim) (fun q _ _ h1 _ _ => ?_) (fun i h1 _ _ => hL.2 i (h1 r rfl)) (fun q e => by rw [e]; exact hL.1) (fun _ e => e.elim) (fun _ e => e.elim)
  exact moveOn_M q (fun z => h1 r rfl ⟨z.1, by have := z.2; omega⟩)
/-- a device acts -/
theorem SR.act {C M : fOm} {b d : Nat} (h : SR C b (M 648)) (hd : d < (M 648 6).toNatClampNeg) : ∃ kr, f_ringOf C b (C (b + 30 + 2 * d) 1) = some kr ∧ SR (f_actOn C (b + 30 + 2 * d) kr b) b (m_act M (nI d) 648) := by
  have n5 := h.W.n5
  have n6 := h.W.n6
  have hD := h.2.2.2.2.2.2.1 d hd
  obtain ⟨⟨d0, d1, d2, d3, d4, d6⟩, ⟨hr1, hp1⟩, -⟩ := id hD
  have hrl := lt5 hr1 h.W.1.2
  obtain ⟨r, er⟩ : ∃ r, M 648 (39 + 19 * d) = nI r ∧ (M 648 (39 + 19 * d)).toNatClampNeg = r := ⟨_, (tn_nI hr1.1).symm, rfl⟩
  rw [er.2] at hrl hp1
  have hr : r < (M 648 5).toNatClampNeg := by
    have q := Int32.lt_iff_toInt_lt.mp hr1.2
    rw [tn_toInt hr1.1, tn_toInt h.W.1.1, er.2] at q
    omega
  have hL := h.2.2.2.2.1 r hr
  obtain ⟨P, hP4, hP, eP, eP2⟩ := hL.P
  obtain ⟨p, ep⟩ : ∃ p, M 648 (40 + 19 * d) = nI p ∧ (M 648 (40 + 19 * d)).toNatClampNeg = p := ⟨_, (tn_nI hp1.1).symm, rfl⟩
  have hp : p < (C (b + 5 + 5 * r) 0).toNatClampNeg := by
    have q := Int32.lt_iff_toInt_lt.mp hp1.2
    rw [hL.1, eP, nI_toInt (by omega), tn_toInt hp1.1, ep.2] at q
    rw [eP2]
    omega
  refine ⟨b + 5 + 5 * r, by rw [← d1, er.1]; exact h.ring hr, ?_⟩
  have hpl : C (b + 30 + 2 * d) 2 = nI p := by rw [← d2]; exact ep.1
  have s1 : f_setting C b 1 = M 648 1 := h.set (i := 1) (by omega)
  have s3 : f_setting C b 3 = M 648 3 := h.set (i := 3) (by omega)
  have t4 : C b 4 = M 648 4 := (h.2.1 4 (by omega) (by omega)).symm
  obtain ⟨x0, x1, x2, x3, x4, x5, x6, x7⟩ := iDs (d := d) (by omega)
  have ec : m_actc M (nI d) = nI (290 + 96 * r + 3 * p) := by
    unfold m_actc
    rw [x1, x2, er.1, ep.1, mc_n]
  have et : (nI (290 + 96 * r + 3 * p)).toNatClampNeg = 290 + 96 * r + 3 * p := nI_clamp (by omega)
  have key : Act C (f_actOn C (b + 30 + 2 * d) (b + 5 + 5 * r) b) (b + 30 + 2 * d) (b + 5 + 5 * r) (M 648) (m_act M (nI d) 648) d r := by
    unfold f_actOn m_act
    rw [x0, x1, x3, x4, x5, d0, ec, et, s1, s3, t4]
    rcases hD.2.2 with ⟨q, -⟩ | ⟨q, -⟩ | ⟨q, -⟩ | ⟨q, -⟩ | ⟨q, -⟩
    · rw [q, if_pos rfl, if_pos rfl]
      exact amp_A (by omega) (by omega) (by omega) hL hD q hp hpl h.W.1.2
    · rw [q, if_neg (by decide), if_pos rfl, if_neg (by decide), if_pos rfl]
      exact note_A (by omega) (by omega) (by omega) hL hD q hp hpl er.1 h.W.1.2 h.2.2.1.2.1 rfl
    · rw [q, if_neg (by decide), if_neg (by decide), if_pos rfl, if_neg (by decide), if_neg (by decide), if_pos rfl]
      exact putNext_A (by omega) (by omega) (by omega) hL hD q hp hpl er.1 h.W.1.2 h.2.2.1.2.2.2 rfl rfl
    · rw [q, if_neg (by decide), if_neg (by decide), if_neg (by decide), if_pos rfl, if_neg (by decide), if_neg (by decide), if_neg (by decide), if_pos rfl]
      exact change_A (by omega) (by omega) (by omega) hL hD q hp hpl h.W.1.2
    · rw [q, if_neg (by decide), if_neg (by decide), if_neg (by decide), if_neg (by decide), if_pos rfl, if_neg (by decide), if_neg (by decide), if_neg (by decide), if_neg (by decide)]
      exact drop_A (by omega) (by omega) (by omega) hL hD q hp hpl er.1 h.W.1.2
  refine h.upd (fun q => q = r) (fun q => q = d) (fun _ => False) (fun q e => by rw [e]; exact hr) (fun q e => by rw [e]; exact hd) (fun _ e => e.elim) (fun q _ _ h1 h2 _ => ?_) (fun i h1 h2 _ => key.2.2 i (h1 r rfl) (h2 d rfl)) (fun q e => by rw [e]; exact key.1) (fun q e => by rw [e]; exact key.2.1) (fun _ e => e.elim)
  refine actOn_M q (fun z => ?_)
  have h1 := h1 r rfl
  have h2 := h2 d rfl
  rcases z with (z | z) | z <;> omega
/-! ===== joins ===== -/
def tlr (f : Int32) (i : Nat) (row : Nat → Int32) : Nat → Int32 := if f = 0 then row else upd row i (row i + 1)
theorem tlr_ne {f : Int32} {i q : Nat} {row : Nat → Int32} (h : q ≠ i) : tlr f i row q = row q := by
  unfold tlr
  split
  · rfl
  · exact pk_un h
theorem tlr_s {f : Int32} {i : Nat} {row : Nat → Int32} : tlr f i row i = if f = 0 then row i else row i + 1 := by
  unfold tlr
  split
  · rfl
  · exact pk_us
theorem tell_c {w : fOm} {k k2 : Nat} (h : k ≠ k2) : f_tell w k k2 (k + 4) = upd (w (k + 4)) 4 (w (k + 4) 4 + 1) ∧ f_tell w k k2 (k2 + 4) = upd (w (k2 + 4)) 3 (w (k2 + 4) 3 + 1) ∧ ∀ q, q ≠ k + 4 → q ≠ k2 + 4 → f_tell w k k2 q = w q := by
  unfold f_tell
  try dsimp only
  refine ⟨by rw [wu_ne (by omega), wu_s], by rw [wu_s, wu_ne (k2 := k2 + 4) (by omega)], fun q h1 h2 => by rw [wu_ne h2, wu_ne h1]⟩
theorem jst {w : fOm} {k k2 kj : Nat} {f : Int32} (h : k ≠ k2) (h1 : kj ≠ k + 4) (h2 : kj ≠ k2 + 4) :
    (if f = 0 then w else wu (f_tell w k k2) kj 5 (f_tell w k k2 kj 5 + 1)) (k + 4) = tlr f 4 (w (k + 4)) ∧ (if f = 0 then w else wu (f_tell w k k2) kj 5 (f_tell w k k2 kj 5 + 1)) (k2 + 4) = tlr f 3 (w (k2 + 4)) ∧
    (if f = 0 then w else wu (f_tell w k k2) kj 5 (f_tell w k k2 kj 5 + 1)) kj = tlr f 5 (w kj) ∧ ∀ q, q ≠ k + 4 → q ≠ k2 + 4 → q ≠ kj → (if f = 0 then w else wu (f_tell w k k2) kj 5 (f_tell w k k2 kj 5 + 1)) q = w q := by
  obtain ⟨t1, t2, t3⟩ := tell_c (w := w) h
  unfold tlr
  by_cases hf : f = 0
  · rw [if_pos hf, if_pos hf, if_pos hf, if_pos hf]
    exact ⟨rfl, rfl, rfl, fun _ _ _ _ => rfl⟩
  · rw [if_neg hf, if_neg hf, if_neg hf, if_neg hf, t3 kj h1 h2]
    refine ⟨by rw [wu_ne (Ne.symm h1), t1], by rw [wu_ne (Ne.symm h2), t2], by rw [wu_s, t3 kj h1 h2], fun q q1 q2 q3 => by rw [wu_ne q3, t3 q q1 q2]⟩
theorem exch_c {C : fOm} {k k2 p p2 : Nat} (hd : k + 4 < k2 ∨ k2 + 4 < k) (hp : f_has C k (nI p) = 1) (hp2 : f_has C k2 (nI p2) = 1) (h32 : p < 32) (h33 : p2 < 32) :
    (f_exch C k (nI p) k2 (nI p2) (k + 1) = upd (C (k + 1)) p (C (k2 + 1) p2) ∧ f_exch C k (nI p) k2 (nI p2) (k + 2) = upd (C (k + 2)) p (C (k2 + 2) p2) ∧ f_exch C k (nI p) k2 (nI p2) (k + 3) = upd (C (k + 3)) p (C (k2 + 3) p2)) ∧
    (f_exch C k (nI p) k2 (nI p2) (k2 + 1) = upd (C (k2 + 1)) p2 (C (k + 1) p) ∧ f_exch C k (nI p) k2 (nI p2) (k2 + 2) = upd (C (k2 + 2)) p2 (C (k + 2) p) ∧ f_exch C k (nI p) k2 (nI p2) (k2 + 3) = upd (C (k2 + 3)) p2 (C (k + 3) p)) ∧
    ∀ q, q ≠ k + 1 → q ≠ k + 2 → q ≠ k + 3 → q ≠ k2 + 1 → q ≠ k2 + 2 → q ≠ k2 + 3 → f_exch C k (nI p) k2 (nI p2) q = C q := by
  unfold f_exch
  rw [hp, hp2, if_neg (by decide), if_neg (by decide), nI_clamp (by omega), nI_clamp (by omega)]
  try dsimp only
  have a1 : wu C (k + 1) p (C (k2 + 1) p2) (k2 + 2) = C (k2 + 2) := wu_ne (by omega)
  rw [a1]
  have a2 : wu (wu C (k + 1) p (C (k2 + 1) p2)) (k + 2) p (C (k2 + 2) p2) (k2 + 3) = C (k2 + 3) := by rw [wu_ne (by omega), wu_ne (by omega)]
  rw [a2]
  refine ⟨⟨?_, ?_, ?_⟩, ⟨?_, ?_, ?_⟩, fun q q1 q2 q3 q4 q5 q6 => ?_⟩
  · rw [wu_ne (by omega), wu_ne (by omega), wu_ne (by omega), wu_ne (by omega), wu_ne (by omega), wu_s]
  · rw [wu_ne (by omega), wu_ne (by omega), wu_ne (by omega), wu_ne (by omega), wu_s, wu_ne (k2 := k + 2) (by omega)]
  · rw [wu_ne (by omega), wu_ne (by omega), wu_ne (by omega), wu_s, wu_ne (k2 := k + 3) (by omega), wu_ne (k2 := k + 3) (by omega)]
  · rw [wu_ne (by omega), wu_ne (by omega), wu_s, wu_ne (k2 := k2 + 1) (by omega), wu_ne (k2 := k2 + 1) (by omega), wu_ne (k2 := k2 + 1) (by omega)]
  · rw [wu_ne (by omega), wu_s, wu_ne (k2 := k2 + 2) (by omega), wu_ne (k2 := k2 + 2) (by omega), wu_ne (k2 := k2 + 2) (by omega), wu_ne (k2 := k2 + 2) (by omega)]
  · rw [wu_s, wu_ne (k2 := k2 + 3) (by omega), wu_ne (k2 := k2 + 3) (by omega), wu_ne (k2 := k2 + 3) (by omega), wu_ne (k2 := k2 + 3) (by omega), wu_ne (k2 := k2 + 3) (by omega)]
  · rw [wu_ne q6, wu_ne q5, wu_ne q4, wu_ne q3, wu_ne q2, wu_ne q1]
/-- what a join that goes does to the class's cells -/
theorem jgo_c {C : fOm} {k k2 kj p p2 : Nat} {nl fl : Int32} (hd : k + 4 < k2 ∨ k2 + 4 < k) (hk : k + 4 < kj) (hk2 : k2 + 4 < kj) (hp : f_has C k (nI p) = 1) (hp2 : f_has C k2 (nI p2) = 1) (h32 : p < 32) (h33 : p2 < 32) (e1 : C kj 1 = nI p) (e3 : C kj 3 = nI p2) :
    (f_jgo C kj k k2 nl fl (k + 1) = upd (C (k + 1)) p (C (k2 + 1) p2) ∧ f_jgo C kj k k2 nl fl (k + 2) = upd (C (k + 2)) p (C (k2 + 2) p2) ∧ f_jgo C kj k k2 nl fl (k + 3) = upd (C (k + 3)) p (C (k2 + 3) p2)) ∧
    (f_jgo C kj k k2 nl fl (k2 + 1) = upd (C (k2 + 1)) p2 (C (k + 1) p) ∧ f_jgo C kj k k2 nl fl (k2 + 2) = upd (C (k2 + 2)) p2 (C (k + 2) p) ∧ f_jgo C kj k k2 nl fl (k2 + 3) = upd (C (k2 + 3)) p2 (C (k + 3) p)) ∧
    f_jgo C kj k k2 nl fl (k + 4) = tlr fl 3 (tlr nl 4 (C (k + 4))) ∧ f_jgo C kj k k2 nl fl (k2 + 4) = tlr fl 4 (tlr nl 3 (C (k2 + 4))) ∧ f_jgo C kj k k2 nl fl kj = tlr fl 5 (tlr nl 5 (C kj)) ∧
    ∀ q, ¬ (k < q ∧ q < k + 5) → ¬ (k2 < q ∧ q < k2 + 5) → q ≠ kj → f_jgo C kj k k2 nl fl q = C q := by
  obtain ⟨⟨x1, x2, x3⟩, ⟨y1, y2, y3⟩, x9⟩ := exch_c (C := C) hd hp hp2 h32 h33
  have x4 : f_exch C k (nI p) k2 (nI p2) (k + 4) = C (k + 4) := x9 _ (by omega) (by omega) (by omega) (by omega) (by omega) (by omega)
  have y4 : f_exch C k (nI p) k2 (nI p2) (k2 + 4) = C (k2 + 4) := x9 _ (by omega) (by omega) (by omega) (by omega) (by omega) (by omega)
  have z4 : f_exch C k (nI p) k2 (nI p2) kj = C kj := x9 _ (by omega) (by omega) (by omega) (by omega) (by omega) (by omega)
  unfold f_jgo
  try dsimp only
  rw [e1, e3]
  generalize f_exch C k (nI p) k2 (nI p2) = w1 at *
  obtain ⟨s1, s2, s3, s4⟩ := jst (w := w1) (k := k) (k2 := k2) (kj := kj) (f := nl) (by omega) (by omega) (by omega)
  generalize (if nl = 0 then w1 else wu (f_tell w1 k k2) kj 5 (f_tell w1 k k2 kj 5 + 1)) = w2 at *
  obtain ⟨u1, u2, u3, u4⟩ := jst (w := w2) (k := k2) (k2 := k) (kj := kj) (f := fl) (by omega) (by omega) (by omega)
  generalize (if fl = 0 then w2 else wu (f_tell w2 k2 k) kj 5 (f_tell w2 k2 k kj 5 + 1)) = w3 at *
  have f : ∀ q, q ≠ k + 4 → q ≠ k2 + 4 → q ≠ kj → w3 q = w1 q := fun q h1 h2 h3 => (u4 q h2 h1 h3).trans (s4 q h1 h2 h3)
  refine ⟨⟨?_, ?_, ?_⟩, ⟨?_, ?_, ?_⟩, by rw [u2, s1, x4], by rw [u1, s2, y4], by rw [u3, s3, z4], fun q h1 h2 h3 => ?_⟩
  · rw [f _ (by omega) (by omega) (by omega), x1]
  · rw [f _ (by omega) (by omega) (by omega), x2]
  · rw [f _ (by omega) (by omega) (by omega), x3]
  · rw [f _ (by omega) (by omega) (by omega), y1]
  · rw [f _ (by omega) (by omega) (by omega), y2]
  · rw [f _ (by omega) (by omega) (by omega), y3]
  · rw [f _ (by omega) (by omega) h3]
    exact x9 q (by omega) (by omega) (by omega) (by omega) (by omega) (by omega)
theorem cst {M : fOm} {j r r2 : Nat} {g : Int32} (hj : j < 4) (hr : r < 5) (hr2 : r2 < 5) : (if g = 0 then M else m_crossed M (nI j) (nI r) (nI r2)) 648 = tlr g (271 + 6 * j) (tlr g (12 + 6 * r2) (tlr g (13 + 6 * r) (M 648))) := by
  unfold tlr
  by_cases hg : g = 0
  · rw [if_pos hg, if_pos hg, if_pos hg, if_pos hg]
  · rw [if_neg hg, if_neg hg, if_neg hg, if_neg hg]
    unfold m_crossed
    try dsimp only
    rw [wu_648, show (5 : Int32) = nI 5 from rfl, show (4 : Int32) = nI 4 from rfl, iJ_n hj (by omega), moreL_r hr2 (by omega), moreL_r hr (by omega), show 266 + 6 * j + 5 = 271 + 6 * j by omega, show 8 + 6 * r + 5 = 13 + 6 * r by omega, show 8 + 6 * r2 + 4 = 12 + 6 * r2 by omega]
theorem swL_i {M : fOm} {N F : Nat} (hN : N < 768) (hF : F < 768) (hd : N + 2 < F ∨ F + 2 < N) {j : Nat} (hj : j ≤ 3) : (∀ e, e < j → m_swL (nI N) (nI F) M j 648 (N + e) = M 648 (F + e) ∧ m_swL (nI N) (nI F) M j 648 (F + e) = M 648 (N + e)) ∧ (∀ i, (∀ e, e < j → i ≠ N + e ∧ i ≠ F + e) → m_swL (nI N) (nI F) M j 648 i = M 648 i) := by
  induction j with
  | zero => exact ⟨fun e he => absurd he (by omega), fun _ _ => rfl⟩
  | succ j ih =>
    obtain ⟨h1, h2⟩ := ih (by omega)
    have es : m_swL (nI N) (nI F) M (j + 1) 648 = upd (upd (m_swL (nI N) (nI F) M j 648) (N + j) (M 648 (F + j))) (F + j) (M 648 (N + j)) := by
      show wu (wu (m_swL (nI N) (nI F) M j) 648 (nI N + nI j).toNatClampNeg (m_swL (nI N) (nI F) M j 648 (nI F + nI j).toNatClampNeg)) 648 (nI F + nI j).toNatClampNeg (m_swL (nI N) (nI F) M j 648 (nI N + nI j).toNatClampNeg) 648 = _
      rw [wu_648, wu_648, nI_add, nI_add, nI_clamp (by omega), nI_clamp (by omega), h2 (F + j) (fun e he => by omega), h2 (N + j) (fun e he => by omega)]
    rw [es]
    refine ⟨fun e he => ?_, fun i hi => ?_⟩
    · by_cases q : e = j
      · subst q
        refine ⟨by rw [pk_un (by omega), pk_us], by rw [pk_us]⟩
      · have := h1 e (by omega)
        refine ⟨by rw [pk_un (by omega), pk_un (by omega)]; exact this.1, by rw [pk_un (by omega), pk_un (by omega)]; exact this.2⟩
    · have := hi j (by omega)
      rw [pk_un this.2, pk_un this.1]
      exact h2 i (fun e he => hi e (by omega))
theorem CR.tx {C C2 : fOm} {k k2 c c2 p p2 : Nat} {a a2 : Nat → Int32} (h : CR C k2 a c2 p2) (h1 : C2 (k + 1) p = C (k2 + 1) p2) (h2 : C2 (k + 2) p = C (k2 + 2) p2) (h3 : C2 (k + 3) p = C (k2 + 3) p2) (e0 : a2 c = a c2) (e1 : a2 (c + 1) = a (c2 + 1)) (e2 : a2 (c + 2) = a (c2 + 2)) : CR C2 k a2 c p := by
  unfold CR at h ⊢
  rw [h1, h2, h3, e0, e1, e2]
  exact h
/-- a place of a loop, by a row's numbers -/
theorem SR.pl {C : fOm} {b : Nat} {a : Nat → Int32} (h : SR C b a) {x y : Int32} (hx : 0 ≤ x ∧ x < a 5) (hy : 0 ≤ y ∧ y < a (8 + 6 * x.toNatClampNeg)) : ∃ r p, x = nI r ∧ y = nI p ∧ r < (a 5).toNatClampNeg ∧ r < 5 ∧ p < (C (b + 5 + 5 * r) 0).toNatClampNeg ∧ p < 32 := by
  have hrl := lt5 hx h.W.1.2
  obtain ⟨r, er⟩ : ∃ r, x = nI r ∧ x.toNatClampNeg = r := ⟨_, (tn_nI hx.1).symm, rfl⟩
  rw [er.2] at hrl hy
  have hr : r < (a 5).toNatClampNeg := by
    have q := Int32.lt_iff_toInt_lt.mp hx.2
    rw [tn_toInt hx.1, tn_toInt h.W.1.1, er.2] at q
    omega
  have hL := h.2.2.2.2.1 r hr
  obtain ⟨P, hP4, hP, eP, eP2⟩ := hL.P
  obtain ⟨p, ep⟩ : ∃ p, y = nI p ∧ y.toNatClampNeg = p := ⟨_, (tn_nI hy.1).symm, rfl⟩
  have hp : p < P := by
    have q := Int32.lt_iff_toInt_lt.mp hy.2
    rw [hL.1, eP, nI_toInt (by omega), tn_toInt hy.1, ep.2] at q
    omega
  exact ⟨r, p, er.1, ep.1, hr, hrl, by rw [eP2]; exact hp, by omega⟩
theorem lit_e {C : fOm} {k r p : Nat} {a : Nat → Int32} (h : LRp C k a r) (hp : p < (C k 0).toNatClampNeg) : (f_lit C k (nI p) = 0 ↔ a (290 + 96 * r + 3 * p) < 0) ∧ (f_lit C k (nI p) = 0 ↔ C (k + 2) p ≤ 0) := by
  have hc := (h.2.2.2 p hp).iff
  unfold f_lit
  rw [h.str hp]
  by_cases q : C (k + 2) p ≤ 0
  · rw [if_pos q]
    exact ⟨⟨fun _ => hc.1.mp q, fun _ => rfl⟩, ⟨fun _ => q, fun _ => rfl⟩⟩
  · rw [if_neg q]
    exact ⟨⟨fun e => absurd e (by decide), fun e => absurd (hc.1.mpr e) q⟩, ⟨fun e => absurd e (by decide), fun e => absurd e q⟩⟩
/-- a join acts -/
theorem SR.join {C M : fOm} {b j : Nat} (h : SR C b (M 648)) (hj : j < (M 648 7).toNatClampNeg) : ∃ k k2, f_ringOf C b (C (b + 54 + j) 0) = some k ∧ f_ringOf C b (C (b + 54 + j) 2) = some k2 ∧ SR (f_joinAct C (b + 54 + j) k k2) b (m_cross M (nI j) 648) := by
  have n5 := h.W.n5
  have n7 := h.W.n7
  have hJ := h.2.2.2.2.2.2.2 j hj
  obtain ⟨g1, ⟨gr, gp⟩, ⟨gr2, gp2⟩, gne, gmode⟩ := id hJ
  obtain ⟨r, p, er, ep, hr, hr5, hp, hp32⟩ := h.pl gr gp
  obtain ⟨r2, p2, er2, ep2, hr2, hr25, hp2, hp232⟩ := h.pl gr2 gp2
  have rne : r ≠ r2 := fun e => gne (by rw [er, er2, e])
  have c0 : C (b + 54 + j) 0 = nI r := by rw [← g1 0 (by omega)]; exact er
  have c1 : C (b + 54 + j) 1 = nI p := by rw [← g1 1 (by omega), show 266 + 6 * j + 1 = 267 + 6 * j by omega]; exact ep
  have c2 : C (b + 54 + j) 2 = nI r2 := by rw [← g1 2 (by omega), show 266 + 6 * j + 2 = 268 + 6 * j by omega]; exact er2
  have c3 : C (b + 54 + j) 3 = nI p2 := by rw [← g1 3 (by omega), show 266 + 6 * j + 3 = 269 + 6 * j by omega]; exact ep2
  have c4 : M 648 (270 + 6 * j) = C (b + 54 + j) 4 := by rw [← g1 4 (by omega), show 266 + 6 * j + 4 = 270 + 6 * j by omega]
  have c5 : M 648 (271 + 6 * j) = C (b + 54 + j) 5 := by rw [← g1 5 (by omega), show 266 + 6 * j + 5 = 271 + 6 * j by omega]
  have hL := h.2.2.2.2.1 r hr
  have hL2 := h.2.2.2.2.1 r2 hr2
  have hR := hL.2.2.2 p hp
  have hR2 := hL2.2.2.2 p2 hp2
  refine ⟨b + 5 + 5 * r, b + 5 + 5 * r2, by rw [c0]; exact h.ring hr, by rw [c2]; exact h.ring hr2, ?_⟩
  -- the row
  have j0 : iJ (nI j) 0 = 266 + 6 * j := (iJ_n (m := 0) (by omega) (by omega)).trans (by omega)
  have j1 : iJ (nI j) 1 = 267 + 6 * j := (iJ_n (m := 1) (by omega) (by omega)).trans (by omega)
  have j2 : iJ (nI j) 2 = 268 + 6 * j := (iJ_n (m := 2) (by omega) (by omega)).trans (by omega)
  have j3 : iJ (nI j) 3 = 269 + 6 * j := (iJ_n (m := 3) (by omega) (by omega)).trans (by omega)
  have j4 : iJ (nI j) 4 = 270 + 6 * j := (iJ_n (m := 4) (by omega) (by omega)).trans (by omega)
  have en : m_crn M (nI j) = nI (290 + 96 * r + 3 * p) := by unfold m_crn; rw [j0, j1, er, ep, mc_n]
  have ef : m_crf M (nI j) = nI (290 + 96 * r2 + 3 * p2) := by unfold m_crf; rw [j2, j3, er2, ep2, mc_n]
  have eg : m_crG M (nI j) = m_goes M (nI (290 + 96 * r + 3 * p)) (nI (290 + 96 * r2 + 3 * p2)) (C (b + 54 + j) 4) := by unfold m_crG; rw [en, ef, j4, c4]
  have ek : m_crC M (nI j) = m_comes M (nI (290 + 96 * r2 + 3 * p2)) (C (b + 54 + j) 4) := by unfold m_crC; rw [ef, j4, c4]
  have tN : (nI (290 + 96 * r + 3 * p)).toNatClampNeg = 290 + 96 * r + 3 * p := nI_clamp (by omega)
  have tF : (nI (290 + 96 * r2 + 3 * p2)).toNatClampNeg = 290 + 96 * r2 + 3 * p2 := nI_clamp (by omega)
  have ecr : m_cross M (nI j) = m_sw (m_crG M (nI j)) (m_crC M (nI j)) (nI (290 + 96 * r + 3 * p)) (nI (290 + 96 * r2 + 3 * p2)) (m_cr2 M (nI j) (m_crG M (nI j)) (m_crC M (nI j))) 3 := by unfold m_cross; rw [en, ef]
  generalize hG : m_crG M (nI j) = G at eg ecr
  generalize hK : m_crC M (nI j) = K at ek ecr
  have stay : G = 0 → K = 0 → m_cross M (nI j) 648 = M 648 := fun q1 q2 => by
    rw [ecr]
    unfold m_sw m_cr2
    rw [if_pos ⟨q1, q2⟩]
    try dsimp only
    rw [if_pos q2, if_pos q1]
  -- the row of the counts
  have e2 : m_cr2 M (nI j) G K 648 = tlr K (271 + 6 * j) (tlr K (12 + 6 * r) (tlr K (13 + 6 * r2) (tlr G (271 + 6 * j) (tlr G (12 + 6 * r2) (tlr G (13 + 6 * r) (M 648)))))) := by
    unfold m_cr2
    try dsimp only
    have s1 := cst (M := M) (j := j) (r := r) (r2 := r2) (g := G) (by omega) hr5 hr25
    rw [j0, j2, er, er2]
    generalize (if G = 0 then M else m_crossed M (nI j) (nI r) (nI r2)) = w1 at s1
    have z0 : w1 648 (266 + 6 * j) = nI r := by rw [s1, tlr_ne (by omega), tlr_ne (by omega), tlr_ne (by omega), er]
    have z2 : w1 648 (268 + 6 * j) = nI r2 := by rw [s1, tlr_ne (by omega), tlr_ne (by omega), tlr_ne (by omega), er2]
    rw [z0, z2]
    have s2 := cst (M := w1) (j := j) (r := r2) (r2 := r) (g := K) (by omega) hr25 hr5
    rw [s2, s1]
  -- the class goes
  have go : (G = 0 ↔ f_lit C (b + 5 + 5 * r) (nI p) = 0) → (K = 0 ↔ f_lit C (b + 5 + 5 * r2) (nI p2) = 0) → SR (f_jgo C (b + 54 + j) (b + 5 + 5 * r) (b + 5 + 5 * r2) (f_lit C (b + 5 + 5 * r) (nI p)) (f_lit C (b + 5 + 5 * r2) (nI p2))) b (m_cross M (nI j) 648) := by
    intro qG qK
    obtain ⟨⟨w1, w2, w3⟩, ⟨v1, v2, v3⟩, w4, v4, wj, wo⟩ := jgo_c (C := C) (k := b + 5 + 5 * r) (k2 := b + 5 + 5 * r2) (kj := b + 54 + j) (nl := f_lit C (b + 5 + 5 * r) (nI p)) (fl := f_lit C (b + 5 + 5 * r2) (nI p2)) (by omega) (by omega) (by omega) (has_n hL hp) (has_n hL2 hp2) hp32 hp232 c1 c3
    generalize hnl : f_lit C (b + 5 + 5 * r) (nI p) = nl at *
    generalize hfl : f_lit C (b + 5 + 5 * r2) (nI p2) = fl at *
    generalize hWd : f_jgo C (b + 54 + j) (b + 5 + 5 * r) (b + 5 + 5 * r2) nl fl = Wd at *
    have tg : ∀ i row, tlr G i row = tlr nl i row := fun i row => by
      unfold tlr
      by_cases q : G = 0
      · rw [if_pos q, if_pos (qG.mp q)]
      · rw [if_neg q, if_neg (fun z => q (qG.mpr z))]
    have tk : ∀ i row, tlr K i row = tlr fl i row := fun i row => by
      unfold tlr
      by_cases q : K = 0
      · rw [if_pos q, if_pos (qK.mp q)]
      · rw [if_neg q, if_neg (fun z => q (qK.mpr z))]
    rw [tk, tk, tk, tg, tg, tg] at e2
    -- the row afterwards
    have hrow : (∀ e, e < 3 → m_cross M (nI j) 648 (290 + 96 * r + 3 * p + e) = M 648 (290 + 96 * r2 + 3 * p2 + e) ∧ m_cross M (nI j) 648 (290 + 96 * r2 + 3 * p2 + e) = M 648 (290 + 96 * r + 3 * p + e)) ∧ (∀ i, (∀ e, e < 3 → i ≠ 290 + 96 * r + 3 * p + e ∧ i ≠ 290 + 96 * r2 + 3 * p2 + e) → m_cross M (nI j) 648 i = m_cr2 M (nI j) G K 648 i) := by
      have far : ∀ i, 290 ≤ i → m_cr2 M (nI j) G K 648 i = M 648 i := fun i hi => by rw [e2, tlr_ne (by omega), tlr_ne (by omega), tlr_ne (by omega), tlr_ne (by omega), tlr_ne (by omega), tlr_ne (by omega)]
      rw [ecr]
      unfold m_sw
      by_cases q : G = 0 ∧ K = 0
      · rw [if_pos q]
        have u1 := hR.unl (((lit_e hL hp).2).mp (by rw [hnl]; exact qG.mp q.1))
        have u2 := hR2.unl (((lit_e hL2 hp2).2).mp (by rw [hfl]; exact qK.mp q.2))
        refine ⟨fun e he => ?_, fun _ _ => rfl⟩
        rw [far _ (by omega), far _ (by omega)]
        rcases (show e = 0 ∨ e = 1 ∨ e = 2 by omega) with rfl | rfl | rfl
        · exact ⟨u1.2.1.trans u2.2.1.symm, u2.2.1.trans u1.2.1.symm⟩
        · exact ⟨u1.2.2.1.trans u2.2.2.1.symm, u2.2.2.1.trans u1.2.2.1.symm⟩
        · exact ⟨u1.2.2.2.trans u2.2.2.2.symm, u2.2.2.2.trans u1.2.2.2.symm⟩
      · rw [if_neg q]
        obtain ⟨s1, s2⟩ := swL_i (M := m_cr2 M (nI j) G K) (N := 290 + 96 * r + 3 * p) (F := 290 + 96 * r2 + 3 * p2) (by omega) (by omega) (by omega) (Nat.le_refl 3)
        refine ⟨fun e he => ?_, fun i hi => s2 i hi⟩
        have := s1 e he
        rw [this.1, this.2, far _ (by omega), far _ (by omega)]
        exact ⟨rfl, rfl⟩
    obtain ⟨hx, ho⟩ := hrow
    generalize m_cross M (nI j) 648 = a2 at *
    have lo : ∀ i, i < 290 → a2 i = m_cr2 M (nI j) G K 648 i := fun i hi => ho i (fun e he => by omega)
    refine h.upd (fun q => q = r ∨ q = r2) (fun _ => False) (fun q => q = j) (fun q e => by rcases e with e | e <;> (rw [e]; assumption)) (fun _ e => e.elim) (fun q e => by rw [e]; exact hj) (fun q _ _ h1 _ h3 => ?_) (fun i h1 _ h3 => ?_) (fun q e => ?_) (fun _ e => e.elim) (fun q e => ?_)
    · have x1 := h1 r (Or.inl rfl)
      have x2 := h1 r2 (Or.inr rfl)
      have x3 := h3 j rfl
      exact wo q (by omega) (by omega) x3
    · have x1 := h1 r (Or.inl rfl)
      have x2 := h1 r2 (Or.inr rfl)
      have x3 := h3 j rfl
      unfold inL at x1 x2
      unfold inJ at x3
      rw [ho i (fun e he => by omega), e2, tlr_ne (by omega), tlr_ne (by omega), tlr_ne (by omega), tlr_ne (by omega), tlr_ne (by omega), tlr_ne (by omega)]
    · rcases e with e | e
      · subst e
        refine hL.set (p := p) (by rw [wo _ (by omega) (by omega) (by omega)]) (by rw [lo _ (by omega), e2, tlr_ne (by omega), tlr_ne (by omega), tlr_ne (by omega), tlr_ne (by omega), tlr_ne (by omega), tlr_ne (by omega)]) (fun t ht => ?_) (fun s hs hsp => ?_) ?_
        · rw [lo _ (by omega), e2, w4, tlr_ne (by omega)]
          have base := hL.2.2.1 t ht
          by_cases t4 : t = 4
          · subst t4
            rw [show 9 + 6 * q + 4 = 13 + 6 * q by omega] at base ⊢
            rw [tlr_ne (by omega), tlr_ne (by omega), tlr_ne (by omega), tlr_ne (by omega), tlr_s, tlr_ne (by omega), tlr_s, base]
          · by_cases t3 : t = 3
            · subst t3
              rw [show 9 + 6 * q + 3 = 12 + 6 * q by omega] at base ⊢
              rw [tlr_s, tlr_ne (by omega), tlr_ne (by omega), tlr_ne (by omega), tlr_ne (by omega), tlr_s, tlr_ne (by omega), base]
            · rw [tlr_ne (by omega), tlr_ne (by omega), tlr_ne (by omega), tlr_ne (by omega), tlr_ne (by omega), tlr_ne (by omega), tlr_ne (by omega)]
              exact base
        · refine ⟨by rw [w1, pk_un hsp], by rw [w2, pk_un hsp], by rw [w3, pk_un hsp], ?_, ?_, ?_⟩ <;> rw [ho _ (fun e he => by omega), e2, tlr_ne (by omega), tlr_ne (by omega), tlr_ne (by omega), tlr_ne (by omega), tlr_ne (by omega), tlr_ne (by omega)]
        · exact hR2.tx (by rw [w1, pk_us]) (by rw [w2, pk_us]) (by rw [w3, pk_us]) (hx 0 (by omega)).1 (hx 1 (by omega)).1 (hx 2 (by omega)).1
      · subst e
        refine hL2.set (p := p2) (by rw [wo _ (by omega) (by omega) (by omega)]) (by rw [lo _ (by omega), e2, tlr_ne (by omega), tlr_ne (by omega), tlr_ne (by omega), tlr_ne (by omega), tlr_ne (by omega), tlr_ne (by omega)]) (fun t ht => ?_) (fun s hs hsp => ?_) ?_
        · rw [lo _ (by omega), e2, v4, tlr_ne (by omega)]
          have base := hL2.2.2.1 t ht
          by_cases t4 : t = 4
          · subst t4
            rw [show 9 + 6 * q + 4 = 13 + 6 * q by omega] at base ⊢
            rw [tlr_ne (by omega), tlr_s, tlr_ne (by omega), tlr_ne (by omega), tlr_ne (by omega), tlr_s, tlr_ne (by omega), base]
          · by_cases t3 : t = 3
            · subst t3
              rw [show 9 + 6 * q + 3 = 12 + 6 * q by omega] at base ⊢
              rw [tlr_ne (by omega), tlr_ne (by omega), tlr_ne (by omega), tlr_s, tlr_ne (by omega), tlr_ne (by omega), tlr_s, base]
            · rw [tlr_ne (by omega), tlr_ne (by omega), tlr_ne (by omega), tlr_ne (by omega), tlr_ne (by omega), tlr_ne (by omega), tlr_ne (by omega)]
              exact base
        · refine ⟨by rw [v1, pk_un hsp], by rw [v2, pk_un hsp], by rw [v3, pk_un hsp], ?_, ?_, ?_⟩ <;> rw [ho _ (fun e he => by omega), e2, tlr_ne (by omega), tlr_ne (by omega), tlr_ne (by omega), tlr_ne (by omega), tlr_ne (by omega), tlr_ne (by omega)]
        · exact hR.tx (by rw [v1, pk_us]) (by rw [v2, pk_us]) (by rw [v3, pk_us]) (hx 0 (by omega)).2 (hx 1 (by omega)).2 (hx 2 (by omega)).2
    · subst e
      have k : ∀ i, i < 5 → a2 (266 + 6 * q + i) = M 648 (266 + 6 * q + i) := fun i hi => by rw [lo _ (by omega), e2, tlr_ne (by omega), tlr_ne (by omega), tlr_ne (by omega), tlr_ne (by omega), tlr_ne (by omega), tlr_ne (by omega)]
      have k0 := k 0 (by omega)
      have k1 := k 1 (by omega)
      have k2 := k 2 (by omega)
      have k3 := k 3 (by omega)
      rw [Nat.add_zero] at k0
      rw [show 266 + 6 * q + 1 = 267 + 6 * q by omega] at k1
      rw [show 266 + 6 * q + 2 = 268 + 6 * q by omega] at k2
      rw [show 266 + 6 * q + 3 = 269 + 6 * q by omega] at k3
      have m5 : a2 5 = M 648 5 := by rw [lo _ (by omega), e2, tlr_ne (by omega), tlr_ne (by omega), tlr_ne (by omega), tlr_ne (by omega), tlr_ne (by omega), tlr_ne (by omega)]
      have m8 : ∀ l, l < 5 → a2 (8 + 6 * l) = M 648 (8 + 6 * l) := fun l hl => by rw [lo _ (by omega), e2, tlr_ne (by omega), tlr_ne (by omega), tlr_ne (by omega), tlr_ne (by omega), tlr_ne (by omega), tlr_ne (by omega)]
      unfold JR
      rw [k0, k1, k2, k3, m5, m8 _ (lt5 gr h.W.1.2), m8 _ (lt5 gr2 h.W.1.2), wj]
      refine ⟨fun i hi => ?_, ⟨gr, gp⟩, ⟨gr2, gp2⟩, gne, by rw [tlr_ne (by omega), tlr_ne (by omega)]; exact gmode⟩
      by_cases i5 : i = 5
      · subst i5
        rw [show 266 + 6 * q + 5 = 271 + 6 * q by omega, lo _ (by omega), e2, tlr_s, tlr_ne (by omega), tlr_ne (by omega), tlr_s, tlr_ne (by omega), tlr_ne (by omega), tlr_s, tlr_s, c5]
      · rw [k i (by omega), tlr_ne i5, tlr_ne i5]
        exact g1 i hi
  unfold f_joinAct
  rw [c1, c3]
  unfold m_goes at eg
  unfold m_comes at ek
  rw [tN, tF] at eg
  rw [tF] at ek
  have l1 := (lit_e hL hp).1
  have l2 := (lit_e hL2 hp2).1
  rcases gmode with q | q | q
  · rw [q] at eg ek ⊢
    rw [if_pos rfl]
    rw [if_pos (by decide)] at eg
    rw [if_neg (by decide)] at ek
    rw [stay eg ek]
    exact h
  · rw [q] at eg ek ⊢
    rw [if_neg (by decide), if_neg (by decide)]
    rw [if_neg (by decide), if_pos rfl] at eg
    rw [if_pos rfl] at ek
    refine go ?_ ?_
    · rw [l1, eg]
      by_cases z : M 648 (290 + 96 * r + 3 * p) < 0
      · rw [if_pos z]; exact ⟨fun _ => z, fun _ => rfl⟩
      · rw [if_neg z]; exact ⟨fun e => absurd e (by decide), fun e => absurd e z⟩
    · rw [l2, ek]
      by_cases z : M 648 (290 + 96 * r2 + 3 * p2) < 0
      · rw [if_pos z]; exact ⟨fun _ => z, fun _ => rfl⟩
      · rw [if_neg z]; exact ⟨fun e => absurd e (by decide), fun e => absurd e z⟩
  · rw [q] at eg ek ⊢
    rw [if_neg (by decide), if_pos rfl]
    rw [if_neg (show ¬ (2 : Int32) ≤ 0 by decide), if_neg (show ¬ (2 : Int32) = 1 by decide)] at eg
    rw [if_neg (by decide)] at ek
    by_cases z2 : f_lit C (b + 5 + 5 * r2) (nI p2) = 0
    · rw [if_pos z2]
      have y2 := l2.mp z2
      rw [if_neg (Int32.not_le.mpr y2)] at eg
      refine go ?_ ⟨fun _ => z2, fun _ => ek⟩
      rw [l1, eg]
      by_cases z : M 648 (290 + 96 * r + 3 * p) < 0
      · rw [if_pos z]; exact ⟨fun _ => z, fun _ => rfl⟩
      · rw [if_neg z]; exact ⟨fun e => absurd e (by decide), fun e => absurd e z⟩
    · rw [if_neg z2]
      have y2 : 0 ≤ M 648 (290 + 96 * r2 + 3 * p2) := Int32.not_lt.mp (fun e => z2 (l2.mpr e))
      rw [if_pos y2] at eg
      have eg0 : G = 0 := by
        rw [eg]
        split <;> rfl
      rw [stay eg0 ek]
      exact h
/-! ===== a tick ===== -/
theorem SR.hdr {C C2 : fOm} {b : Nat} {a a2 : Nat → Int32} (h : SR C b a) (hC : ∀ q, b + 5 ≤ q → q < b + 58 → C2 q = C q) (ha : ∀ i, 5 ≤ i → a2 i = a i) (h1 : ∀ i, i < 4 → a2 i = C2 (b + 1) i) (h2 : ∀ i, 4 ≤ i → i < 8 → a2 i = C2 b i) (hS : SB a2) : SR C2 b a2 := by
  have n5 := h.W.n5
  have n6 := h.W.n6
  have n7 := h.W.n7
  have e5 := ha 5 (by omega)
  have e8 : ∀ l, l < 5 → a2 (8 + 6 * l) = a (8 + 6 * l) := fun l hl => ha _ (by omega)
  obtain ⟨g1, g2, g3, g4, g5, g6, g7, g8⟩ := h
  refine ⟨h1, h2, hS, ?_, fun r hr => ?_, fun r hr hr2 => ?_, fun d hd => ?_, fun j hj => ?_⟩
  · unfold SN
    rw [e5, ha 6 (by omega), ha 7 (by omega)]
    exact g4
  · rw [e5] at hr
    exact (g5 r hr).fr (fun q q1 q2 => hC q (by omega) (by omega)) (fun i hi => ha i (by unfold inL at hi; omega)) (e8 r (by omega))
  · rw [e5] at hr2
    obtain ⟨x1, x2⟩ := g6 r hr hr2
    refine ⟨fun t ht => (ha _ (by omega)).trans (x1 t ht), fun p hp => ?_⟩
    rw [ha _ (by omega), ha _ (by omega), ha _ (by omega)]
    exact x2 p hp
  · rw [ha 6 (by omega)] at hd
    exact (g7 d hd).fr (hC _ (by omega) (by omega)) (hC _ (by omega) (by omega)) (fun i hi => ha i (by unfold inD at hi; omega)) e5 e8 g4.1.2
  · rw [ha 7 (by omega)] at hj
    exact (g8 j hj).fr (hC _ (by omega) (by omega)) (fun i hi => ha i (by unfold inJ at hi; omega)) e5 e8 g4.1.2
/-- an amplifier rests -/
theorem SR.rest {C M : fOm} {b d : Nat} (h : SR C b (M 648)) (hd : d < (M 648 6).toNatClampNeg) : SR (f_rest C (b + 30 + 2 * d) (f_setting C b 2)) b (m_rec M (nI d) 648) := by
  have n6 := h.W.n6
  have hD := h.2.2.2.2.2.2.1 d hd
  obtain ⟨⟨d0, d1, d2, d3, d4, d6⟩, -, -⟩ := id hD
  obtain ⟨x0, x1, x2, x3, x4, x5, x6, x7⟩ := iDs (d := d) (by omega)
  have s2 : f_setting C b 2 = M 648 2 := h.set (i := 2) (by omega)
  unfold f_rest m_rec
  rw [x0, x4, x5, d0, d4, s2]
  rcases hD.2.2 with ⟨q, g5, gs, g1, g2⟩ | ⟨q, -⟩ | ⟨q, -⟩ | ⟨q, -⟩ | ⟨q, -⟩
  · rw [q, if_neg (fun z => z rfl), if_pos rfl, g5]
    obtain ⟨n1, hn1, e1⟩ := rgN (n := 2000) gs rfl
    obtain ⟨n2, hn2, e2⟩ := rgN (n := 200) h.2.2.1.2.2.1 rfl
    obtain ⟨n3, hn3, e3⟩ := rgN (n := 2000) ⟨Int32.le_trans (by decide) g2.1, g2.2⟩ rfl
    have hv : f_min (C (b + 30 + 2 * d) 5 + M 648 2) (C (b + 30 + 2 * d) 4) = nI (min (n1 + n2) n3) := by rw [mn_e, e1, e2, e3, nI_add, mn_n (by omega) (by omega)]
    have hv2 : (if C (b + 30 + 2 * d) 4 ≤ C (b + 30 + 2 * d) 5 + M 648 2 then C (b + 30 + 2 * d) 4 else C (b + 30 + 2 * d) 5 + M 648 2) = nI (min (n1 + n2) n3) := by
      have : m_mn (C (b + 30 + 2 * d) 5 + M 648 2) (C (b + 30 + 2 * d) 4) = nI (min (n1 + n2) n3) := by rw [e1, e2, e3, nI_add, mn_n (by omega) (by omega)]
      exact this
    rw [hv, hv2, wu_648]
    have hm := Nat.min_le_right (n1 + n2) n3
    generalize min (n1 + n2) n3 = m at hm
    refine h.upd (fun _ => False) (fun q => q = d) (fun _ => False) (fun _ e => e.elim) (fun q e => by rw [e]; exact hd) (fun _ e => e.elim) (fun q _ _ _ h2 _ => wu_ne (h2 d rfl).1) (fun i _ h2 _ => pk_un (fun e => h2 d rfl (by unfold inD; omega))) (fun _ e => e.elim) (fun q2 e => ?_) (fun _ e => e.elim)
    rw [e]
    refine hD.set (fun j hj => ?_) (fun j hj => ?_) ?_ ?_ (fun l hl => ?_) h.W.1.2 (Or.inl ⟨q, ?_, ?_, g1, g2⟩)
    · rw [wu_i, if_neg (by omega)]
    · rw [pk_un (by omega)]
    · rw [pk_un (by omega), wu_i, if_neg (by decide)]
      exact d6
    · rw [pk_un (by omega)]
    · rw [pk_un (by omega)]
    · rw [pk_us, wu_i, if_pos rfl]
    · rw [wu_i, if_pos rfl]
      exact ⟨nI_pos' (by omega), nI_le (b := 2000) (by omega) (by decide)⟩
  · rw [q, if_pos (by decide), if_neg (by decide)]; exact h
  · rw [q, if_pos (by decide), if_neg (by decide)]; exact h
  · rw [q, if_pos (by decide), if_neg (by decide)]; exact h
  · rw [q, if_pos (by decide), if_neg (by decide)]; exact h
theorem SR.c5 {C : fOm} {b : Nat} {a : Nat → Int32} (h : SR C b a) : a 5 = C b 5 ∧ a 6 = C b 6 ∧ a 7 = C b 7 ∧ a 4 = C b 4 := ⟨h.2.1 5 (by omega) (by omega), h.2.1 6 (by omega) (by omega), h.2.1 7 (by omega) (by omega), h.2.1 4 (by omega) (by omega)⟩
theorem SR.cB {C : fOm} {b : Nat} {a : Nat → Int32} (h : SR C b a) : cB C b := by
  obtain ⟨e5, e6, e7, -⟩ := h.c5
  have := h.W
  unfold SN at this
  rw [e5, e6, e7] at this
  exact this
theorem SR.q1 {C M : fOm} {b : Nat} (h : SR C b (M 648)) {n : Nat} (hn : n ≤ (M 648 5).toNatClampNeg) : SR (f_p1 b C n) b (m_q1 M n 648) := by
  induction n with
  | zero => exact h
  | succ n ih =>
    have i := ih (by omega)
    have n5 := h.W.n5
    refine i.move ?_
    rw [i.c5.1, p1_b (by omega), ← h.c5.1]
    omega
theorem SR.q2 {C M : fOm} {b : Nat} (h : SR C b (M 648)) {n : Nat} (hn : n ≤ (M 648 6).toNatClampNeg) : SR (f_p2 b C n) b (m_q2 M n 648) := by
  induction n with
  | zero => exact h
  | succ n ih =>
    have i := ih (by omega)
    have n6 := h.W.n6
    obtain ⟨kr, e1, e2⟩ := i.act (d := n) (by
      rw [i.c5.2.1, p2_b (by omega) (h.cB.1.2), ← h.c5.2.1]
      omega)
    have : f_p2 b C (n + 1) = f_actOn (f_p2 b C n) (b + 30 + 2 * n) kr b := by
      conv => lhs; unfold f_p2
      rw [e1]
    rw [this]
    exact e2
theorem SR.q3 {C M : fOm} {b : Nat} (h : SR C b (M 648)) {n : Nat} (hn : n ≤ (M 648 7).toNatClampNeg) : SR (f_p3 b C n) b (m_q3 M n 648) := by
  induction n with
  | zero => exact h
  | succ n ih =>
    have i := ih (by omega)
    have n7 := h.W.n7
    obtain ⟨k, k2, e1, e3, e2⟩ := i.join (j := n) (by
      rw [i.c5.2.2.1, p3_b (by omega) (h.cB.1.2), ← h.c5.2.2.1]
      omega)
    have : f_p3 b C (n + 1) = f_joinAct (f_p3 b C n) (b + 54 + n) k k2 := by
      conv => lhs; unfold f_p3
      rw [e1]
      try dsimp only
      rw [e3]
    rw [this]
    exact e2
theorem SR.q4 {C M : fOm} {b : Nat} (h : SR C b (M 648)) {n : Nat} (hn : n ≤ (M 648 6).toNatClampNeg) : SR (f_p4 b C n) b (m_q4 M n 648) := by
  induction n with
  | zero => exact h
  | succ n ih =>
    have i := ih (by omega)
    have n6 := h.W.n6
    refine i.rest (d := n) ?_
    rw [i.c5.2.1, p4_b (by omega), ← h.c5.2.1]
    omega
theorem SR.pass {C M : fOm} {b : Nat} (h : SR C b (M 648)) : SR (f_passOne C b) b (m_pass M 648) := by
  have n5 := h.W.n5
  have n6 := h.W.n6
  have n7 := h.W.n7
  have h1 := h.q1 (Nat.le_refl _)
  have h2 := h1.q2 (Nat.le_refl _)
  have h3 := h2.q3 (Nat.le_refl _)
  have h4 := h3.q4 (Nat.le_refl _)
  have g1 := h1.c5.2.1
  have g2 := h2.c5.2.2.1
  have g3 := h3.c5.2.1
  have g0 := h.c5.1
  unfold f_passOne m_pass
  try dsimp only
  rw [← g0]
  rw [← g1]
  rw [← g2]
  rw [← g3]
  generalize m_q4 (m_q3 (m_q2 (m_q1 M (M 648 5).toNatClampNeg) (m_q1 M (M 648 5).toNatClampNeg 648 6).toNatClampNeg) (m_q2 (m_q1 M (M 648 5).toNatClampNeg) (m_q1 M (M 648 5).toNatClampNeg 648 6).toNatClampNeg 648 7).toNatClampNeg) (m_q3 (m_q2 (m_q1 M (M 648 5).toNatClampNeg) (m_q1 M (M 648 5).toNatClampNeg 648 6).toNatClampNeg) (m_q2 (m_q1 M (M 648 5).toNatClampNeg) (m_q1 M (M 648 5).toNatClampNeg 648 6).toNatClampNeg 648 7).toNatClampNeg 648 6).toNatClampNeg = M4 at h4 ⊢
  generalize f_p4 b _ _ = C4 at h4 ⊢
  rw [wu_648]
  refine h4.hdr (fun q h1 h2 => wu_ne (by omega)) (fun i hi => pk_un (by omega)) (fun i hi => ?_) (fun i hi hi2 => ?_) ?_
  · rw [pk_un (by omega), wu_ne (by omega)]
    exact h4.1 i hi
  · rw [wu_i]
    by_cases e : i = 4
    · subst e
      rw [pk_us, if_pos rfl, h4.c5.2.2.2]
    · rw [pk_un e, if_neg e]
      exact h4.2.1 i hi hi2
  · unfold SB
    rw [pk_un (by decide), pk_un (by decide), pk_un (by decide), pk_un (by decide)]
    exact h4.2.2.1
theorem SR.passN {C M : fOm} {b : Nat} (h : SR C b (M 648)) (n : Nat) : SR (f_passN b C n) b (m_pN M n 648) := by
  induction n with
  | zero => exact h
  | succ n ih => exact ih.pass
