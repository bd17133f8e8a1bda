/-! ===== the two sides hold the same: places ===== -/
theorem wu_s {ω : fOm} {k j : Nat} {v : Int32} : wu ω k j v k = upd (ω k) j v := by unfold wu; rw [if_pos rfl]
theorem wr_s {ω : fOm} {k : Nat} {f : Nat → Int32} : wr ω k f k = f := by unfold wr; rw [if_pos rfl]
def CR (C : fOm) (k : Nat) (a : Nat → Int32) (c p : Nat) : Prop :=
  ((0 < C (k + 2) p ∧ C (k + 2) p ≤ 1000) ∧ (0 ≤ C (k + 1) p ∧ C (k + 1) p ≤ 99) ∧ a c = C (k + 1) p ∧ a (c + 1) = C (k + 2) p ∧ a (c + 2) = C (k + 3) p) ∨ (C (k + 2) p = 0 ∧ a c = -6 ∧ a (c + 1) = 0 ∧ a (c + 2) = 0)
def LRp (C : fOm) (k : Nat) (a : Nat → Int32) (r : Nat) : Prop :=
  a (8 + 6 * r) = C k 0 ∧ (4 ≤ C k 0 ∧ C k 0 ≤ 32) ∧ (∀ t, t < 5 → a (9 + 6 * r + t) = C (k + 4) t) ∧ ∀ p, p < (C k 0).toNatClampNeg → CR C k a (290 + 96 * r + 3 * p) p
theorem LRp.P {C : fOm} {k r : Nat} {a : Nat → Int32} (h : LRp C k a r) : ∃ P : Nat, 4 ≤ P ∧ P ≤ 32 ∧ C k 0 = nI P ∧ (C k 0).toNatClampNeg = P := by
  obtain ⟨P, hP, e⟩ := rgN (n := 32) ⟨Int32.le_trans (by decide) h.2.1.1, h.2.1.2⟩ rfl
  have h1 := Int32.le_iff_toInt_le.mp h.2.1.1
  rw [e, nI_toInt (by omega)] at h1
  have h2 : (4 : Int32).toInt = 4 := rfl
  exact ⟨P, by omega, hP, e, by rw [e, nI_clamp (by omega)]⟩
theorem CR.mo {C C2 : fOm} {k c p : Nat} {a a2 : Nat → Int32} (h : CR C k a c p) (h1 : C2 (k + 1) p = C (k + 1) p) (h2 : C2 (k + 2) p = C (k + 2) p) (h3 : C2 (k + 3) p = C (k + 3) p) (e0 : a2 c = a c) (e1 : a2 (c + 1) = a (c + 1)) (e2 : a2 (c + 2) = a (c + 2)) : CR C2 k a2 c p := by
  unfold CR at h ⊢
  rw [h1, h2, h3, e0, e1, e2]
  exact h
/-- one place and the counts are set -/
theorem LRp.set {C C2 : fOm} {k r p : Nat} {a a2 : Nat → Int32} (h : LRp C k a r) (h0 : C2 k 0 = C k 0) (e0 : a2 (8 + 6 * r) = a (8 + 6 * r)) (ht : ∀ t, t < 5 → a2 (9 + 6 * r + t) = C2 (k + 4) t)
    (ho : ∀ q, q < 32 → q ≠ p → C2 (k + 1) q = C (k + 1) q ∧ C2 (k + 2) q = C (k + 2) q ∧ C2 (k + 3) q = C (k + 3) q ∧ a2 (290 + 96 * r + 3 * q) = a (290 + 96 * r + 3 * q) ∧ a2 (290 + 96 * r + 3 * q + 1) = a (290 + 96 * r + 3 * q + 1) ∧ a2 (290 + 96 * r + 3 * q + 2) = a (290 + 96 * r + 3 * q + 2))
    (hp : CR C2 k a2 (290 + 96 * r + 3 * p) p) : LRp C2 k a2 r := by
  obtain ⟨P, hP4, hP, eP, eP2⟩ := h.P
  refine ⟨by rw [e0, h0]; exact h.1, by rw [h0]; exact h.2.1, ht, fun q hq => ?_⟩
  rw [h0] at hq
  by_cases e : q = p
  · subst e
    exact hp
  · obtain ⟨x1, x2, x3, x4, x5, x6⟩ := ho q (by omega) e
    exact (h.2.2.2 q hq).mo x1 x2 x3 x4 x5 x6
theorem has_n {C : fOm} {k r p : Nat} {a : Nat → Int32} (h : LRp C k a r) (hp : p < (C k 0).toNatClampNeg) : f_has C k (nI p) = 1 := by
  obtain ⟨P, hP4, hP, eP, eP2⟩ := h.P
  unfold f_has
  rw [if_neg (nI_pos (by omega)), eP, if_neg (nI_ge (by omega) (by omega))]
theorem LRp.str {C : fOm} {k r p : Nat} {a : Nat → Int32} (h : LRp C k a r) (hp : p < (C k 0).toNatClampNeg) : f_strengthAt C k (nI p) = C (k + 2) p := by
  obtain ⟨P, hP4, hP, eP, eP2⟩ := h.P
  unfold f_strengthAt
  rw [has_n h hp, if_neg (by decide), nI_clamp (by omega)]
theorem LRp.val {C : fOm} {k r p : Nat} {a : Nat → Int32} (h : LRp C k a r) (hp : p < (C k 0).toNatClampNeg) : f_valueAt C k (nI p) = a (290 + 96 * r + 3 * p) := by
  obtain ⟨P, hP4, hP, eP, eP2⟩ := h.P
  unfold f_valueAt
  rw [has_n h hp, if_neg (by decide), nI_clamp (by omega)]
  rcases h.2.2.2 p hp with ⟨h1, h2, h3, -⟩ | ⟨h1, h2, -⟩
  · rw [if_neg (Int32.not_le.mpr h1.1), h3]
  · rw [if_pos (by rw [h1]; decide), h2]
theorem LRp.bir {C : fOm} {k r p : Nat} {a : Nat → Int32} (h : LRp C k a r) (hp : p < (C k 0).toNatClampNeg) : f_birthAt C k (nI p) = C (k + 3) p := by
  obtain ⟨P, hP4, hP, eP, eP2⟩ := h.P
  unfold f_birthAt
  rw [has_n h hp, if_neg (by decide), nI_clamp (by omega)]
/-- lit or not, on both sides -/
theorem CR.lit {C : fOm} {k c p : Nat} {a : Nat → Int32} (h : CR C k a c p) (hl : ¬ C (k + 2) p ≤ 0) : ((0 < C (k + 2) p ∧ C (k + 2) p ≤ 1000) ∧ (0 ≤ C (k + 1) p ∧ C (k + 1) p ≤ 99) ∧ a c = C (k + 1) p ∧ a (c + 1) = C (k + 2) p ∧ a (c + 2) = C (k + 3) p) := by
  rcases h with h | h
  · exact h
  · exact absurd (by rw [h.1]; decide) hl
theorem CR.unl {C : fOm} {k c p : Nat} {a : Nat → Int32} (h : CR C k a c p) (hl : C (k + 2) p ≤ 0) : C (k + 2) p = 0 ∧ a c = -6 ∧ a (c + 1) = 0 ∧ a (c + 2) = 0 := by
  rcases h with h | h
  · exact absurd hl (Int32.not_le.mpr h.1.1)
  · exact h
theorem CR.iff {C : fOm} {k c p : Nat} {a : Nat → Int32} (h : CR C k a c p) : (C (k + 2) p ≤ 0 ↔ a c < 0) ∧ (0 ≤ a c ↔ 0 < C (k + 2) p) ∧ (C (k + 2) p = 0 ↔ a c < 0) ∧ a (c + 1) = C (k + 2) p := by
  rcases h with ⟨h1, h2, h3, h4, h5⟩ | ⟨h1, h2, h3, h4⟩
  · have x : ¬ C (k + 2) p ≤ 0 := Int32.not_le.mpr h1.1
    have y : ¬ C (k + 1) p < 0 := Int32.not_lt.mpr h2.1
    have z : ¬ C (k + 2) p = 0 := fun e => x (by rw [e]; decide)
    rw [h3]
    exact ⟨⟨fun q => absurd q x, fun q => absurd q y⟩, ⟨fun _ => h1.1, fun _ => h2.1⟩, ⟨fun q => absurd q z, fun q => absurd q y⟩, h4⟩
  · rw [h1, h2, h3]
    decide
/-- the row's own steps, by places -/
theorem moreL_r {M : fOm} {r t : Nat} (hr : r < 5) (ht : t < 6) : m_moreL M (nI r) (nI t) 648 = upd (M 648) (8 + 6 * r + t) (M 648 (8 + 6 * r + t) + 1) := by
  unfold m_moreL
  rw [wu_648, iL_n hr ht]
theorem clear_r {M : fOm} {c : Nat} (hc : c < 768) : m_clear M (nI c) 648 = upd (upd (upd (M 648) c (-6)) (c + 1) 0) (c + 2) 0 := by
  unfold m_clear
  rw [wu_648, wu_648, wu_648, nI_1, nI_2, nI_clamp (by omega), nI_clamp (by omega), nI_clamp (by omega)]
theorem mc_n {r p : Nat} : mc (nI r) (nI p) = nI (290 + 96 * r + 3 * p) := mc_e
theorem fade_r {M : fOm} {r c : Nat} {b : Int32} (hr : r < 5) (hc : c < 768) : m_fade M (nI r) (nI c) b 648 = if 0 < M 648 (c + 1) - b then upd (M 648) (c + 1) (M 648 (c + 1) - b) else
    upd (upd (upd (upd (upd (M 648) (c + 1) (M 648 (c + 1) - b)) c (-6)) (c + 1) 0) (c + 2) 0) (10 + 6 * r) (upd (upd (upd (upd (M 648) (c + 1) (M 648 (c + 1) - b)) c (-6)) (c + 1) 0) (c + 2) 0 (10 + 6 * r) + 1) := by
  unfold m_fade
  rw [nI_1, nI_clamp (by omega), wu_648, pk_us]
  split
  · rw [wu_648]
  · rw [show (2 : Int32) = nI 2 from rfl, moreL_r hr (by omega), clear_r hc, wu_648, show 8 + 6 * r + 2 = 10 + 6 * r by omega]
theorem sub_rg {s b : Int32} (hs : 0 < s ∧ s ≤ 1000) (hb : 0 ≤ b ∧ b ≤ 200) : s - b ≤ 1000 := by
  obtain ⟨n, hn, rfl⟩ := rgN (n := 1000) ⟨Int32.le_of_lt hs.1, hs.2⟩ rfl
  obtain ⟨m, hm, rfl⟩ := rgN (n := 200) hb rfl
  rw [Int32.le_iff_toInt_le, pk_sub_toInt (by omega) (by omega)]
  have : (1000 : Int32).toInt = 1000 := rfl
  omega
theorem ffade_e {C : fOm} {k r p : Nat} {a : Nat → Int32} {b : Int32} (h : LRp C k a r) (hp : p < (C k 0).toNatClampNeg) : f_fade C k (nI p) b = if 0 < C (k + 2) p - b then wu C (k + 2) p (C (k + 2) p - b) else
    wu (wu (wu C (k + 2) p (C (k + 2) p - b)) (k + 2) p 0) (k + 4) 1 (C (k + 4) 1 + 1) := by
  obtain ⟨P, hP4, hP, eP, eP2⟩ := h.P
  unfold f_fade
  rw [has_n h hp, if_neg (by decide), nI_clamp (by omega)]
  try dsimp only
  rw [wu_s, pk_us]
  split
  · rfl
  · rw [wu_ne (k := k + 2) (by omega), wu_ne (k := k + 2) (by omega)]
theorem LRp.fade {C M : fOm} {k r p : Nat} {b : Int32} (h : LRp C k (M 648) r) (hr : r < 5) (hp : p < (C k 0).toNatClampNeg) (hl : ¬ C (k + 2) p ≤ 0) (hb : 0 ≤ b ∧ b ≤ 200) : LRp (f_fade C k (nI p) b) k (m_fade M (nI r) (mc (nI r) (nI p)) b 648) r := by
  obtain ⟨P, hP4, hP, eP, eP2⟩ := h.P
  have hc := (h.2.2.2 p hp).lit hl
  have hp32 : p < 32 := by omega
  rw [ffade_e h hp, mc_n, fade_r hr (by omega), hc.2.2.2.1]
  by_cases hs : 0 < C (k + 2) p - b
  · rw [if_pos hs, if_pos hs]
    refine h.set (p := p) (by rw [wu_ne (by omega)]) (by rw [pk_un (by omega)]) (fun t ht => ?_) (fun q hq hqp => ?_) ?_
    · rw [wu_ne (by omega), pk_un (by omega)]
      exact h.2.2.1 t ht
    · refine ⟨by rw [wu_ne (by omega)], by rw [wu_s, pk_un hqp], by rw [wu_ne (by omega)], by rw [pk_un (by omega)], by rw [pk_un (by omega)], by rw [pk_un (by omega)]⟩
    · refine Or.inl ?_
      rw [wu_s, wu_ne (by omega), wu_ne (by omega), pk_us, pk_us, pk_un (by omega), pk_un (by omega)]
      exact ⟨⟨hs, sub_rg hc.1 hb⟩, hc.2.1, hc.2.2.1, rfl, hc.2.2.2.2⟩
  · rw [if_neg hs, if_neg hs]
    refine h.set (p := p) (by rw [wu_ne (by omega), wu_ne (by omega), wu_ne (by omega)]) (by rw [pk_un (by omega), pk_un (by omega), pk_un (by omega), pk_un (by omega), pk_un (by omega)]) (fun t ht => ?_) (fun q hq hqp => ?_) ?_
    · rw [wu_s, pk_un (j := 10 + 6 * r) (k := 290 + 96 * r + 3 * p + 2) (by omega), pk_un (j := 10 + 6 * r) (k := 290 + 96 * r + 3 * p + 1) (by omega), pk_un (j := 10 + 6 * r) (k := 290 + 96 * r + 3 * p) (by omega), pk_un (j := 10 + 6 * r) (k := 290 + 96 * r + 3 * p + 1) (by omega)]
      have e1 := h.2.2.1 1 (by omega)
      rw [show 9 + 6 * r + 1 = 10 + 6 * r by omega] at e1
      by_cases ht1 : t = 1
      · subst ht1
        rw [pk_us, show 9 + 6 * r + 1 = 10 + 6 * r by omega, pk_us, e1]
      · rw [pk_un (k := 1) ht1, pk_un (by omega), pk_un (by omega), pk_un (by omega), pk_un (by omega), pk_un (by omega), wu_ne (by omega), wu_ne (by omega)]
        exact h.2.2.1 t ht
    · refine ⟨by rw [wu_ne (by omega), wu_ne (by omega), wu_ne (by omega)], by rw [wu_ne (by omega), wu_s, pk_un hqp, wu_s, pk_un hqp], by rw [wu_ne (by omega), wu_ne (by omega), wu_ne (by omega)], by rw [pk_un (by omega), pk_un (by omega), pk_un (by omega), pk_un (by omega), pk_un (by omega)], by rw [pk_un (by omega), pk_un (by omega), pk_un (by omega), pk_un (by omega), pk_un (by omega)], by rw [pk_un (by omega), pk_un (by omega), pk_un (by omega), pk_un (by omega), pk_un (by omega)]⟩
    · refine Or.inr ?_
      refine ⟨by rw [wu_ne (by omega), wu_s, pk_us], by rw [pk_un (by omega), pk_un (by omega), pk_un (by omega), pk_us], by rw [pk_un (by omega), pk_un (by omega), pk_us], by rw [pk_un (by omega), pk_us]⟩
theorem CR.tr {C C2 : fOm} {k c c2 p p2 : Nat} {a a2 : Nat → Int32} (h : CR C k a c p) (h1 : C2 (k + 1) p2 = C (k + 1) p) (h2 : C2 (k + 2) p2 = C (k + 2) p) (h3 : C2 (k + 3) p2 = C (k + 3) p) (e0 : a2 c2 = a c) (e1 : a2 (c2 + 1) = a (c + 1)) (e2 : a2 (c2 + 2) = a (c + 2)) : CR C2 k a2 c2 p2 := by
  unfold CR at h ⊢
  rw [h1, h2, h3, e0, e1, e2]
  exact h
def inL (r i : Nat) : Prop := (9 + 6 * r ≤ i ∧ i < 14 + 6 * r) ∨ (290 + 96 * r ≤ i ∧ i < 386 + 96 * r)
theorem turn_e {ω : fOm} {k P p : Nat} (h1 : 1 ≤ P) (h2 : P ≤ 32) (hp : p < P) : f_turn ω k 7 (nI P) k p = ω k (if p = 0 then P - 1 else p - 1) := by
  obtain ⟨Q, rfl⟩ : ∃ Q, P = Q + 1 := ⟨P - 1, by omega⟩
  unfold f_turn
  rw [if_neg (show ¬ nI (Q + 1) < 1 from nI_nlt (b := 1) (by omega) (by omega)), if_pos (show nI (Q + 1) ≤ nI (ln 7) from nI_le (b := 32) (by omega) (by decide)), nI_pred, nI_clamp (by omega), wu_s]
  by_cases h0 : p = 0
  · subst h0
    rw [pk_us, if_pos rfl]
    rfl
  · rw [pk_un h0, if_neg h0, wr_s, pk_cpy_in (by omega) (by omega)]
    congr 1
    omega
theorem mv0_e {C : fOm} {k P p : Nat} (h0 : C k 0 = nI P) (h1 : 1 ≤ P) (h2 : P ≤ 32) (hp : p < P) : f_mv0 C k (k + 1) p = C (k + 1) (if p = 0 then P - 1 else p - 1) ∧ f_mv0 C k (k + 2) p = C (k + 2) (if p = 0 then P - 1 else p - 1) ∧ f_mv0 C k (k + 3) p = C (k + 3) (if p = 0 then P - 1 else p - 1) ∧ f_mv0 C k (k + 4) = C (k + 4) := by
  unfold f_mv0
  try dsimp only
  have a1 : f_turn C (k + 1) 7 (C k 0) k = C k := turn_ne (by omega)
  have a2 : f_turn (f_turn C (k + 1) 7 (C k 0)) (k + 2) 7 (f_turn C (k + 1) 7 (C k 0) k 0) k = C k := (turn_ne (by omega)).trans a1
  rw [a2, a1]
  rw [h0]
  refine ⟨?_, ?_, ?_, ?_⟩
  · rw [turn_ne (k2 := k + 1) (k := k + 3) (by omega), turn_ne (k2 := k + 1) (k := k + 2) (by omega)]
    exact turn_e h1 h2 hp
  · rw [turn_ne (k2 := k + 2) (k := k + 3) (by omega), turn_e h1 h2 hp, turn_ne (k2 := k + 2) (k := k + 1) (by omega)]
  · rw [turn_e h1 h2 hp, turn_ne (k2 := k + 3) (k := k + 2) (by omega), turn_ne (k2 := k + 3) (k := k + 1) (by omega)]
  · rw [turn_ne (k2 := k + 4) (k := k + 3) (by omega), turn_ne (k2 := k + 4) (k := k + 2) (by omega), turn_ne (k2 := k + 4) (k := k + 1) (by omega)]
/-- a place is moved on -/
theorem mv_i {M : fOm} {F T : Nat} (hF : F < 768) (hT : T < 768) (hd : T + 2 < F ∨ F + 2 < T) (i : Nat) : (i < T ∨ T + 2 < i → i < F ∨ F + 2 < i → m_mv M (nI F) (nI T) 648 i = M 648 i) ∧ ∀ e, e < 3 → m_mv M (nI F) (nI T) 648 (T + e) = M 648 (F + e) := by
  have e3 : m_mvL (nI F) (nI T) M 3 648 = upd (upd (upd (M 648) T (M 648 F)) (T + 1) (M 648 (F + 1))) (T + 2) (M 648 (F + 2)) := by
    show wu (wu (wu M 648 (nI T + nI 0).toNatClampNeg (M 648 (nI F + nI 0).toNatClampNeg)) 648 (nI T + nI 1).toNatClampNeg _) 648 (nI T + nI 2).toNatClampNeg _ 648 = _
    rw [wu_648]
    show upd (wu (wu M 648 (nI T + nI 0).toNatClampNeg (M 648 (nI F + nI 0).toNatClampNeg)) 648 (nI T + nI 1).toNatClampNeg (wu M 648 (nI T + nI 0).toNatClampNeg (M 648 (nI F + nI 0).toNatClampNeg) 648 (nI F + nI 1).toNatClampNeg) 648) _ (wu (wu M 648 (nI T + nI 0).toNatClampNeg (M 648 (nI F + nI 0).toNatClampNeg)) 648 (nI T + nI 1).toNatClampNeg (wu M 648 (nI T + nI 0).toNatClampNeg (M 648 (nI F + nI 0).toNatClampNeg) 648 (nI F + nI 1).toNatClampNeg) 648 (nI F + nI 2).toNatClampNeg) = _
    rw [wu_648, wu_648, nI_add, nI_add, nI_add, nI_add, nI_add, nI_add, nI_clamp (by omega), nI_clamp (by omega), nI_clamp (by omega), nI_clamp (by omega), nI_clamp (by omega), nI_clamp (by omega)]
    rw [Nat.add_zero, Nat.add_zero, pk_un (j := F + 1) (k := T) (by omega), pk_un (j := F + 2) (k := T + 1) (by omega), pk_un (j := F + 2) (k := T) (by omega)]
  unfold m_mv
  rw [clear_r hF, e3]
  refine ⟨fun h1 h2 => ?_, fun e he => ?_⟩
  · rw [pk_un (by omega), pk_un (by omega), pk_un (by omega), pk_un (by omega), pk_un (by omega), pk_un (by omega)]
  · rw [pk_un (k := F + 2) (by omega), pk_un (k := F + 1) (by omega), pk_un (k := F) (by omega)]
    rcases (show e = 0 ∨ e = 1 ∨ e = 2 by omega) with rfl | rfl | rfl
    · rw [pk_un (by omega), pk_un (by omega), Nat.add_zero, pk_us, Nat.add_zero]
    · rw [pk_un (by omega), pk_us]
    · rw [pk_us]
theorem tnL_i {M : fOm} {r x : Nat} (hr : r < 5) (hx : x ≤ 31) {j : Nat} (hj : j ≤ x) : (∀ i, ¬ inL r i → m_tnL (nI r) (nI x) M j 648 i = M 648 i) ∧ (∀ i, i < 290 → m_tnL (nI r) (nI x) M j 648 i = M 648 i) ∧ (∀ q e, e < 3 → q ≤ x → x - j < q → m_tnL (nI r) (nI x) M j 648 (290 + 96 * r + 3 * q + e) = M 648 (290 + 96 * r + 3 * (q - 1) + e)) ∧ (∀ q e, e < 3 → q < x - j → m_tnL (nI r) (nI x) M j 648 (290 + 96 * r + 3 * q + e) = M 648 (290 + 96 * r + 3 * q + e)) := by
  induction j with
  | zero => exact ⟨fun _ _ => rfl, fun _ _ => rfl, fun q e he hq h => absurd h (by omega), fun q e he hq => rfl⟩
  | succ j ih =>
    obtain ⟨h1, h1', h2, h3⟩ := ih (by omega)
    have es : m_tnL (nI r) (nI x) M (j + 1) = m_mv (m_tnL (nI r) (nI x) M j) (nI (290 + 96 * r + 3 * (x - j - 1))) (nI (290 + 96 * r + 3 * (x - j))) := by
      show m_mv _ (mc (nI r) (nI x - nI j - 1)) (mc (nI r) (nI x - nI j)) = _
      rw [pk_sub (by omega), show (1 : Int32) = nI 1 from rfl, pk_sub (by omega), mc_n, mc_n]
    have hm := fun i => mv_i (M := m_tnL (nI r) (nI x) M j) (F := 290 + 96 * r + 3 * (x - j - 1)) (T := 290 + 96 * r + 3 * (x - j)) (by omega) (by omega) (by omega) i
    rw [es]
    refine ⟨fun i hi => ?_, fun i hi => ?_, fun q e he hq h => ?_, fun q e he hq => ?_⟩
    · unfold inL at hi
      rw [(hm i).1 (by omega) (by omega)]
      exact h1 i (by unfold inL; exact hi)
    · rw [(hm i).1 (by omega) (by omega)]
      exact h1' i hi
    · by_cases hq2 : q = x - j
      · subst hq2
        rw [(hm 0).2 e he, h3 _ e he (by omega)]
      · rw [(hm _).1 (by omega) (by omega)]
        exact h2 q e he hq (by omega)
    · rw [(hm _).1 (by omega) (by omega)]
      exact h3 q e he (by omega)
theorem turn_row {M : fOm} {r P : Nat} (hr : r < 5) (h4 : 4 ≤ P) (h32 : P ≤ 32) (hP : M 648 (8 + 6 * r) = nI P) : (∀ i, ¬ inL r i → m_turn M (nI r) 648 i = M 648 i) ∧ (∀ i, i < 290 → m_turn M (nI r) 648 i = M 648 i) ∧ ∀ q e, e < 3 → q < P → m_turn M (nI r) 648 (290 + 96 * r + 3 * q + e) = M 648 (290 + 96 * r + 3 * (if q = 0 then P - 1 else q - 1) + e) := by
  obtain ⟨x, rfl⟩ : ∃ x, P = x + 1 := ⟨P - 1, by omega⟩
  have hi0 : iL (nI r) 0 = 8 + 6 * r := by
    rw [show (0 : Int32) = nI 0 from rfl, iL_n hr (by omega)]
    omega
  obtain ⟨h1, h1', h2, h3⟩ := tnL_i (M := M) hr (x := x) (by omega) (Nat.le_refl x)
  have et : m_turn M (nI r) 648 = upd (upd (upd (m_tnL (nI r) (nI x) M x 648) (290 + 96 * r) (M 648 (290 + 96 * r + 3 * x))) (290 + 96 * r + 1) (M 648 (290 + 96 * r + 3 * x + 1))) (290 + 96 * r + 2) (M 648 (290 + 96 * r + 3 * x + 2)) := by
    unfold m_turn m_turnX
    try dsimp only
    rw [hi0, hP, nI_pred, nI_clamp (by omega), wu_648, wu_648, wu_648, show mc (nI r) 0 = nI (290 + 96 * r + 3 * 0) from mc_n (p := 0), mc_n, nI_1, nI_2, nI_1, nI_2, nI_clamp (by omega), nI_clamp (by omega), nI_clamp (by omega), nI_clamp (by omega), nI_clamp (by omega), nI_clamp (by omega)]
    rfl
  rw [et]
  refine ⟨fun i hi => ?_, fun i hi => ?_, fun q e he hq => ?_⟩
  · have hi2 := hi
    unfold inL at hi2
    rw [pk_un (by omega), pk_un (by omega), pk_un (by omega)]
    exact h1 i hi
  · rw [pk_un (by omega), pk_un (by omega), pk_un (by omega)]
    exact h1' i hi
  · by_cases h0 : q = 0
    · subst h0
      rw [if_pos rfl]
      rcases (show e = 0 ∨ e = 1 ∨ e = 2 by omega) with rfl | rfl | rfl
      · rw [pk_un (by omega), pk_un (by omega)]
        exact pk_us
      · rw [pk_un (by omega)]
        exact pk_us
      · exact pk_us
    · rw [if_neg h0, pk_un (by omega), pk_un (by omega), pk_un (by omega)]
      exact h2 q e he (by omega) (by omega)
theorem LRp.rot {C M : fOm} {k r : Nat} (h : LRp C k (M 648) r) (hr : r < 5) : LRp (f_mv0 C k) k (m_turn M (nI r) 648) r := by
  obtain ⟨P, hP4, hP, eP, eP2⟩ := h.P
  obtain ⟨h1, h1', h2⟩ := turn_row (M := M) hr hP4 hP (h.1.trans eP)
  have hk : f_mv0 C k k 0 = C k 0 := by rw [mv0_0]
  refine ⟨by rw [h1' _ (by omega), hk]; exact h.1, by rw [hk]; exact h.2.1, fun t ht => ?_, fun p hp => ?_⟩
  · rw [h1' _ (by omega), (mv0_e eP (by omega) hP (show 0 < P by omega)).2.2.2]
    exact h.2.2.1 t ht
  · rw [hk, eP2] at hp
    obtain ⟨g1, g2, g3, -⟩ := mv0_e eP (by omega) hP hp
    have hq : (if p = 0 then P - 1 else p - 1) < (C k 0).toNatClampNeg := by
      rw [eP2]
      split <;> omega
    exact (h.2.2.2 _ hq).tr g1 g2 g3 (h2 p 0 (by omega) hp) (h2 p 1 (by omega) hp) (h2 p 2 (by omega) hp)
theorem fade_fr {M : fOm} {r p i : Nat} {b : Int32} (hr : r < 5) (hp : p < 32) (hi : ¬ inL r i) : m_fade M (nI r) (mc (nI r) (nI p)) b 648 i = M 648 i := by
  unfold inL at hi
  rw [mc_n, fade_r hr (by omega)]
  split
  · rw [pk_un (by omega)]
  · rw [pk_un (by omega), pk_un (by omega), pk_un (by omega), pk_un (by omega), pk_un (by omega)]
theorem nI_tn {p : Nat} (h : p < 1000) : (nI p).toNatClampNeg = p := nI_clamp (by omega)
theorem LRp.fadeL {C M : fOm} {k r : Nat} {b : Int32} (h : LRp C k (M 648) r) (hr : r < 5) (hb : 0 ≤ b ∧ b ≤ 200) (h0 : M 648 0 = b) (j : Nat) (hj : j ≤ (C k 0).toNatClampNeg) : LRp (f_mvL k b C j) k (m_faL (nI r) M j 648) r ∧ (∀ i, ¬ inL r i → m_faL (nI r) M j 648 i = M 648 i) ∧ f_mvL k b C j k = C k := by
  obtain ⟨P, hP4, hP, eP, eP2⟩ := h.P
  induction j with
  | zero => exact ⟨h, fun _ _ => rfl, rfl⟩
  | succ j ih =>
    obtain ⟨i1, i2, i3⟩ := ih (by omega)
    have hjp : j < (f_mvL k b C j k 0).toNatClampNeg := by rw [i3]; omega
    have hc := i1.2.2.2 j hjp
    have et : (mc (nI r) (nI j)).toNatClampNeg = 290 + 96 * r + 3 * j := by rw [mc_n, nI_clamp (by omega)]
    have e0 : m_faL (nI r) M j 648 0 = b := by rw [i2 0 (by unfold inL; omega), h0]
    have s1 : f_mvL k b C (j + 1) = if f_mvL k b C j (k + 2) j ≤ 0 then f_mvL k b C j else f_fade (f_mvL k b C j) k (nI j) b := rfl
    have s2 : m_faL (nI r) M (j + 1) = if m_faL (nI r) M j 648 (mc (nI r) (nI j)).toNatClampNeg < 0 then m_faL (nI r) M j else m_fade (m_faL (nI r) M j) (nI r) (mc (nI r) (nI j)) (m_faL (nI r) M j 648 0) := rfl
    rw [s1, s2, et, e0]
    by_cases hl : f_mvL k b C j (k + 2) j ≤ 0
    · rw [if_pos hl, if_pos (hc.iff.1.mp hl)]
      exact ⟨i1, i2, i3⟩
    · rw [if_neg hl, if_neg (fun q => hl (hc.iff.1.mpr q))]
      exact ⟨i1.fade hr hjp hl hb, fun i hi => (fade_fr hr (by omega) hi).trans (i2 i hi), fade_0.trans i3⟩
/-- a loop moves on -/
theorem LRp.move {C M : fOm} {k r : Nat} {b : Int32} (h : LRp C k (M 648) r) (hr : r < 5) (hb : 0 ≤ b ∧ b ≤ 200) (h0 : M 648 0 = b) : LRp (f_moveOn C k b) k (m_fadeAll (m_turn M (nI r)) (nI r) 648) r ∧ (∀ i, ¬ inL r i → m_fadeAll (m_turn M (nI r)) (nI r) 648 i = M 648 i) := by
  obtain ⟨P, hP4, hP, eP, eP2⟩ := h.P
  have h1 := h.rot hr
  obtain ⟨t1, t1', -⟩ := turn_row (M := M) hr hP4 hP (h.1.trans eP)
  have hi0 : iL (nI r) 0 = 8 + 6 * r := by
    rw [show (0 : Int32) = nI 0 from rfl, iL_n hr (by omega)]
    omega
  have hk : f_mv0 C k k = C k := mv0_0
  have h2 := h1.fadeL hr hb (by rw [t1' 0 (by omega)]; exact h0) (C k 0).toNatClampNeg (by rw [hk]; exact Nat.le_refl _)
  have e2 : m_fadeAll (m_turn M (nI r)) (nI r) = m_faL (nI r) (m_turn M (nI r)) (C k 0).toNatClampNeg := by
    unfold m_fadeAll
    rw [hi0, t1' _ (by omega), h.1]
  rw [e2]
  exact ⟨h2.1, fun i hi => (h2.2.1 i hi).trans (t1 i hi)⟩
/-! ===== devices ===== -/
def DR (C : fOm) (k : Nat) (a : Nat → Int32) (d : Nat) : Prop :=
  (a (38 + 19 * d) = C k 0 ∧ a (39 + 19 * d) = C k 1 ∧ a (40 + 19 * d) = C k 2 ∧ a (41 + 19 * d) = C k 3 ∧ a (42 + 19 * d) = C k 4 ∧ a (44 + 19 * d) = C k 6) ∧
  ((0 ≤ a (39 + 19 * d) ∧ a (39 + 19 * d) < a 5) ∧ (0 ≤ a (40 + 19 * d) ∧ a (40 + 19 * d) < a (8 + 6 * (a (39 + 19 * d)).toNatClampNeg))) ∧
  ((C k 0 = 0 ∧ a (43 + 19 * d) = C k 5 ∧ (0 ≤ C k 5 ∧ C k 5 ≤ 2000) ∧ (1 ≤ C k 3 ∧ C k 3 ≤ 500) ∧ (1 ≤ C k 4 ∧ C k 4 ≤ 2000)) ∨
   (C k 0 = 1 ∧ a (43 + 19 * d) = C k 8 ∧ (0 ≤ C k 8 ∧ C k 8 ≤ 8) ∧ ∀ i, i < (C k 8).toNatClampNeg → a (45 + 19 * d + i) = C (k + 1) i) ∨
   (C k 0 = 2 ∧ a (43 + 19 * d) = C k 8 ∧ (0 ≤ C k 8 ∧ C k 8 ≤ 12) ∧ ∀ i, i < (C k 8).toNatClampNeg → a (45 + 19 * d + i) = C (k + 1) i ∧ (0 ≤ C (k + 1) i ∧ C (k + 1) i ≤ 99)) ∨
   (C k 0 = 3 ∧ a (43 + 19 * d) = C k 8 ∧ (0 ≤ C k 3 ∧ C k 3 ≤ 99) ∧ (0 ≤ C k 4 ∧ C k 4 ≤ 99)) ∨
   (C k 0 = 4 ∧ a (43 + 19 * d) = C k 8 ∧ (0 ≤ C k 3 ∧ C k 3 ≤ 99)))
def inD (d i : Nat) : Prop := 38 + 19 * d ≤ i ∧ i < 57 + 19 * d
theorem DR.fr {C C2 : fOm} {k d : Nat} {a a2 : Nat → Int32} (h : DR C k a d) (h0 : C2 k = C k) (h1 : C2 (k + 1) = C (k + 1)) (ha : ∀ i, inD d i → a2 i = a i) (h5 : a2 5 = a 5) (h8 : ∀ l, l < 5 → a2 (8 + 6 * l) = a (8 + 6 * l)) (hn : a 5 ≤ 5) : DR C2 k a2 d := by
  have e : ∀ j, j < 19 → a2 (38 + 19 * d + j) = a (38 + 19 * d + j) := fun j hj => ha _ ⟨by omega, by omega⟩
  have e0 := e 0 (by omega)
  have e1 := e 1 (by omega)
  have e2 := e 2 (by omega)
  have e3 := e 3 (by omega)
  have e4 := e 4 (by omega)
  have e5 := e 5 (by omega)
  have e6 := e 6 (by omega)
  rw [show 38 + 19 * d + 0 = 38 + 19 * d by omega] at e0
  rw [show 38 + 19 * d + 1 = 39 + 19 * d by omega] at e1
  rw [show 38 + 19 * d + 2 = 40 + 19 * d by omega] at e2
  rw [show 38 + 19 * d + 3 = 41 + 19 * d by omega] at e3
  rw [show 38 + 19 * d + 4 = 42 + 19 * d by omega] at e4
  rw [show 38 + 19 * d + 5 = 43 + 19 * d by omega] at e5
  rw [show 38 + 19 * d + 6 = 44 + 19 * d by omega] at e6
  obtain ⟨g1, g2, g3⟩ := h
  have hl : (a (39 + 19 * d)).toNatClampNeg < 5 := by
    have q := Int32.lt_iff_toInt_lt.mp g2.1.2
    have q2 := Int32.le_iff_toInt_le.mp hn
    rw [tn_toInt g2.1.1] at q
    have : (5 : Int32).toInt = 5 := rfl
    omega
  unfold DR
  rw [e0, e1, e2, e3, e4, e5, e6, h0, h1, h5, h8 _ hl]
  refine ⟨g1, g2, ?_⟩
  rcases g3 with q | ⟨q1, q2, q3, q4⟩ | ⟨q1, q2, q3, q4⟩ | q | q
  · exact Or.inl q
  · refine Or.inr (Or.inl ⟨q1, q2, q3, fun i hi => ?_⟩)
    have hi2 := Nat.lt_of_lt_of_le hi (tn_le (n := 8) q3 rfl)
    have := e (7 + i) (by omega)
    rw [show 38 + 19 * d + (7 + i) = 45 + 19 * d + i by omega] at this
    rw [this]
    exact q4 i hi
  · refine Or.inr (Or.inr (Or.inl ⟨q1, q2, q3, fun i hi => ?_⟩))
    have hi2 := Nat.lt_of_lt_of_le hi (tn_le (n := 12) q3 rfl)
    have := e (7 + i) (by omega)
    rw [show 38 + 19 * d + (7 + i) = 45 + 19 * d + i by omega] at this
    rw [this]
    exact q4 i hi
  · exact Or.inr (Or.inr (Or.inr (Or.inl q)))
  · exact Or.inr (Or.inr (Or.inr (Or.inr q)))
theorem LRp.fr {C C2 : fOm} {k r : Nat} {a a2 : Nat → Int32} (h : LRp C k a r) (hC : ∀ q, k ≤ q → q < k + 5 → C2 q = C q) (ha : ∀ i, inL r i → a2 i = a i) (h8 : a2 (8 + 6 * r) = a (8 + 6 * r)) : LRp C2 k a2 r := by
  obtain ⟨P, hP4, hP, eP, eP2⟩ := h.P
  have c0 := hC k (Nat.le_refl k) (by omega)
  have c1 := hC (k + 1) (by omega) (by omega)
  have c2 := hC (k + 2) (by omega) (by omega)
  have c3 := hC (k + 3) (by omega) (by omega)
  have c4 := hC (k + 4) (by omega) (by omega)
  refine ⟨by rw [h8, c0]; exact h.1, by rw [c0]; exact h.2.1, fun t ht => ?_, fun p hp => ?_⟩
  · rw [ha _ (Or.inl ⟨by omega, by omega⟩), c4]
    exact h.2.2.1 t ht
  · rw [c0] at hp
    exact (h.2.2.2 p hp).mo (by rw [c1]) (by rw [c2]) (by rw [c3]) (ha _ (Or.inr ⟨by omega, by omega⟩)) (ha _ (Or.inr ⟨by omega, by omega⟩)) (ha _ (Or.inr ⟨by omega, by omega⟩))
theorem iDs {d : Nat} (hd : d < 12) : iD (nI d) 0 = 38 + 19 * d ∧ iD (nI d) 1 = 39 + 19 * d ∧ iD (nI d) 2 = 40 + 19 * d ∧ iD (nI d) 3 = 41 + 19 * d ∧ iD (nI d) 4 = 42 + 19 * d ∧ iD (nI d) 5 = 43 + 19 * d ∧ iD (nI d) 6 = 44 + 19 * d ∧ iD (nI d) 7 = 45 + 19 * d := by
  have e := fun m (hm : m < 19) => iD_n (n := d) (m := m) hd hm
  refine ⟨(e 0 (by omega)).trans (by omega), (e 1 (by omega)).trans (by omega), (e 2 (by omega)).trans (by omega), (e 3 (by omega)).trans (by omega), (e 4 (by omega)).trans (by omega), (e 5 (by omega)).trans (by omega), (e 6 (by omega)).trans (by omega), (e 7 (by omega)).trans (by omega)⟩
theorem mn_e (a b : Int32) : f_min a b = m_mn a b := by
  unfold f_min m_mn
  by_cases h : b < a
  · rw [if_pos h, if_pos (Int32.le_of_lt h)]
  · rw [if_neg h]
    by_cases h2 : b ≤ a
    · rw [if_pos h2]
      exact Int32.le_antisymm (Int32.not_lt.mp h) h2
    · rw [if_neg h2]
theorem mn_n {a b : Nat} (ha : a < 2 ^ 31) (hb : b < 2 ^ 31) : m_mn (nI a) (nI b) = nI (min a b) := by
  unfold m_mn
  by_cases h : b ≤ a
  · rw [if_pos (nI_le h ha), Nat.min_eq_right h]
  · rw [if_neg (nI_ge (by omega) hb), Nat.min_eq_left (by omega)]
/-- what a device does to its loop and to itself -/
def Act (C C2 : fOm) (kd kr : Nat) (a a2 : Nat → Int32) (d r : Nat) : Prop := LRp C2 kr a2 r ∧ DR C2 kd a2 d ∧ ∀ i, ¬ inL r i → ¬ inD d i → a2 i = a i
theorem up_self {a : Nat → Int32} {i : Nat} {v : Int32} (h : v = a i) : upd a i v = a := by
  funext j
  unfold upd
  split
  · rename_i e
    rw [e, h]
  · rfl
theorem DR.rl {C : fOm} {k d : Nat} {a : Nat → Int32} (h : DR C k a d) (hn : a 5 ≤ 5) : (a (39 + 19 * d)).toNatClampNeg < 5 := by
  have q := Int32.lt_iff_toInt_lt.mp h.2.1.1.2
  have q2 := Int32.le_iff_toInt_le.mp hn
  rw [tn_toInt h.2.1.1.1] at q
  have : (5 : Int32).toInt = 5 := rfl
  omega
theorem DR.set {C C2 : fOm} {k d : Nat} {a a2 : Nat → Int32} (h : DR C k a d) (hf : ∀ j, j < 5 → C2 k j = C k j) (ha : ∀ j, j < 5 → a2 (38 + 19 * d + j) = a (38 + 19 * d + j)) (h6 : a2 (44 + 19 * d) = C2 k 6) (h5 : a2 5 = a 5) (h8 : ∀ l, l < 5 → a2 (8 + 6 * l) = a (8 + 6 * l)) (hn : a 5 ≤ 5)
    (hx : (C k 0 = 0 ∧ a2 (43 + 19 * d) = C2 k 5 ∧ (0 ≤ C2 k 5 ∧ C2 k 5 ≤ 2000) ∧ (1 ≤ C k 3 ∧ C k 3 ≤ 500) ∧ (1 ≤ C k 4 ∧ C k 4 ≤ 2000)) ∨
   (C k 0 = 1 ∧ a2 (43 + 19 * d) = C2 k 8 ∧ (0 ≤ C2 k 8 ∧ C2 k 8 ≤ 8) ∧ ∀ i, i < (C2 k 8).toNatClampNeg → a2 (45 + 19 * d + i) = C2 (k + 1) i) ∨
   (C k 0 = 2 ∧ a2 (43 + 19 * d) = C2 k 8 ∧ (0 ≤ C2 k 8 ∧ C2 k 8 ≤ 12) ∧ ∀ i, i < (C2 k 8).toNatClampNeg → a2 (45 + 19 * d + i) = C2 (k + 1) i ∧ (0 ≤ C2 (k + 1) i ∧ C2 (k + 1) i ≤ 99)) ∨
   (C k 0 = 3 ∧ a2 (43 + 19 * d) = C2 k 8 ∧ (0 ≤ C k 3 ∧ C k 3 ≤ 99) ∧ (0 ≤ C k 4 ∧ C k 4 ≤ 99)) ∨
   (C k 0 = 4 ∧ a2 (43 + 19 * d) = C2 k 8 ∧ (0 ≤ C k 3 ∧ C k 3 ≤ 99))) : DR C2 k a2 d := by
  have e0 := ha 0 (by omega)
  have e1 := ha 1 (by omega)
  have e2 := ha 2 (by omega)
  have e3 := ha 3 (by omega)
  have e4 := ha 4 (by omega)
  rw [show 38 + 19 * d + 0 = 38 + 19 * d by omega] at e0
  rw [show 38 + 19 * d + 1 = 39 + 19 * d by omega] at e1
  rw [show 38 + 19 * d + 2 = 40 + 19 * d by omega] at e2
  rw [show 38 + 19 * d + 3 = 41 + 19 * d by omega] at e3
  rw [show 38 + 19 * d + 4 = 42 + 19 * d by omega] at e4
  have hl := h.rl hn
  obtain ⟨⟨g0, g1, g2, g3, g4, -⟩, gr, -⟩ := h
  unfold DR
  rw [e0, e1, e2, e3, e4, hf 0 (by omega), hf 1 (by omega), hf 2 (by omega), hf 3 (by omega), hf 4 (by omega), h5, h8 _ hl]
  exact ⟨⟨g0, g1, g2, g3, g4, h6⟩, gr, hx⟩
theorem amp_A {C M : fOm} {kd kr d r p : Nat} (hr : r < 5) (hd : d < 12) (hk : kr + 4 < kd) (hL : LRp C kr (M 648) r) (hD : DR C kd (M 648) d) (h0 : C kd 0 = 0) (hp : p < (C kr 0).toNatClampNeg) (hpl : C kd 2 = nI p) (hn5 : M 648 5 ≤ 5) :
    Act C (f_amp C kd kr) kd kr (M 648) ((if M 648 (290 + 96 * r + 3 * p) < 0 then M else m_amp M (nI d) (nI (290 + 96 * r + 3 * p))) 648) d r := by
  obtain ⟨P, hP4, hP, eP, eP2⟩ := hL.P
  have hc := hL.2.2.2 p hp
  have hs : f_strengthAt C kr (C kd 2) = C (kr + 2) p := by rw [hpl]; exact hL.str hp
  by_cases hl : C (kr + 2) p ≤ 0
  · have hu := hc.unl hl
    rw [if_pos (hc.iff.1.mp hl)]
    unfold f_amp
    rw [hs, if_pos hu.1]
    exact ⟨hL, hD, fun _ _ _ => rfl⟩
  · have hc := hc.lit hl
    rw [if_neg (by rw [hc.2.2.1]; exact Int32.not_lt.mpr hc.2.1.1)]
    have hz : ¬ C (kr + 2) p = 0 := fun q => hl (by rw [q]; decide)
    obtain ⟨n3, hn3, e3⟩ := rgN (n := 1000) ⟨Int32.le_of_lt hc.1.1, hc.1.2⟩ rfl
    have hD2 := hD.2.2
    rcases hD2 with ⟨-, g5, gs, g1, g2⟩ | ⟨q, -⟩ | ⟨q, -⟩ | ⟨q, -⟩ | ⟨q, -⟩
    · obtain ⟨n1, hn1, e1⟩ := rgN (n := 500) ⟨Int32.le_trans (by decide) g1.1, g1.2⟩ rfl
      obtain ⟨n2, hn2, e2⟩ := rgN (n := 2000) gs rfl
      have hb : m_mn (m_mn (C kd 3) (C kd 5)) (1000 - C (kr + 2) p) = nI (min (min n1 n2) (1000 - n3)) := by
        rw [e1, e2, e3, show (1000 : Int32) = nI 1000 from rfl, pk_sub hn3, mn_n (by omega) (by omega), mn_n (by omega) (by omega)]
      have hm1 : min (min n1 n2) (1000 - n3) ≤ n2 := Nat.le_trans (Nat.min_le_left _ _) (Nat.min_le_right _ _)
      have hm2 : min (min n1 n2) (1000 - n3) ≤ 1000 - n3 := Nat.min_le_right _ _
      generalize hm : min (min n1 n2) (1000 - n3) = m at hb hm1 hm2
      obtain ⟨x0, x1, x2, x3, x4, x5, x6, x7⟩ := iDs hd
      have hcn : 290 + 96 * r + 3 * p < 768 := by omega
      obtain ⟨⟨d0, d1, d2, d3, d4, d6⟩, -, -⟩ := id hD
      have em : m_amp M (nI d) (nI (290 + 96 * r + 3 * p)) 648 = if nI m ≤ 0 then upd (upd (M 648) (290 + 96 * r + 3 * p + 1) (C (kr + 2) p + nI m)) (43 + 19 * d) (C kd 5 - nI m) else upd (upd (upd (M 648) (290 + 96 * r + 3 * p + 1) (C (kr + 2) p + nI m)) (43 + 19 * d) (C kd 5 - nI m)) (44 + 19 * d) (C kd 6 + 1) := by
        unfold m_amp
        try dsimp only
        rw [x3, x5, nI_1, nI_clamp (by omega), d3, g5, hc.2.2.2.1, hb]
        have z : wu (wu M 648 (290 + 96 * r + 3 * p + 1) (C (kr + 2) p + nI m)) 648 (43 + 19 * d) (wu M 648 (290 + 96 * r + 3 * p + 1) (C (kr + 2) p + nI m) 648 (43 + 19 * d) - nI m) 648 = upd (upd (M 648) (290 + 96 * r + 3 * p + 1) (C (kr + 2) p + nI m)) (43 + 19 * d) (C kd 5 - nI m) := by
          rw [wu_648, wu_648, pk_un (j := 43 + 19 * d) (by omega), g5]
        split
        · exact z
        · unfold m_did
          rw [x6, wu_648, z, pk_un (j := 44 + 19 * d) (by omega), pk_un (j := 44 + 19 * d) (by omega), d6]
      rw [em]
      have ec : f_amp C kd kr = if nI m ≤ 0 then C else wu (wu (wu C (kr + 2) p (C (kr + 2) p + nI m)) kd 5 (C kd 5 - nI m)) kd 6 (C kd 6 + 1) := by
        unfold f_amp
        try dsimp only
        rw [hs, if_neg hz, mn_e, mn_e, hb]
        split
        · rfl
        · unfold f_strengthen
          rw [hpl, has_n hL hp, if_neg (by decide), nI_clamp (by omega), wu_ne (k2 := kd) (k := kr + 2) (by omega), wu_i, if_neg (by decide), wu_ne (k2 := kd) (k := kr + 2) (by omega)]
      rw [ec]
      by_cases hm0 : nI m ≤ 0
      · have : m = 0 := by
          rcases Nat.eq_zero_or_pos m with q | q
          · exact q
          · exact absurd hm0 (nI_nle q (by omega))
        subst this
        have z1 : upd (M 648) (290 + 96 * r + 3 * p + 1) (C (kr + 2) p + nI 0) = M 648 := up_self (by rw [nI_0, Int32.add_zero, hc.2.2.2.1])
        have z2 : upd (M 648) (43 + 19 * d) (C kd 5 - nI 0) = M 648 := up_self (by rw [nI_0, Int32.sub_zero, g5])
        rw [if_pos hm0, if_pos hm0, z1, z2]
        exact ⟨hL, hD, fun _ _ _ => rfl⟩
      · rw [if_neg hm0, if_neg hm0]
        refine ⟨?_, ?_, ?_⟩
        · refine hL.set (p := p) (by rw [wu_ne (by omega), wu_ne (by omega), wu_ne (by omega)]) (by rw [pk_un (by omega), pk_un (by omega), pk_un (by omega)]) (fun t ht => ?_) (fun q hq hqp => ?_) ?_
          · rw [wu_ne (by omega), wu_ne (by omega), wu_ne (by omega), pk_un (by omega), pk_un (by omega), pk_un (by omega)]
            exact hL.2.2.1 t ht
          · refine ⟨by rw [wu_ne (by omega), wu_ne (by omega), wu_ne (by omega)], by rw [wu_ne (by omega), wu_ne (by omega), wu_s, pk_un hqp], by rw [wu_ne (by omega), wu_ne (by omega), wu_ne (by omega)], by rw [pk_un (by omega), pk_un (by omega), pk_un (by omega)], by rw [pk_un (by omega), pk_un (by omega), pk_un (by omega)], by rw [pk_un (by omega), pk_un (by omega), pk_un (by omega)]⟩
          · refine Or.inl ?_
            rw [wu_ne (k2 := kr + 2) (k := kd) (by omega), wu_ne (k2 := kr + 2) (k := kd) (by omega), wu_s, pk_us, wu_ne (k2 := kr + 1) (k := kd) (by omega), wu_ne (k2 := kr + 1) (k := kd) (by omega), wu_ne (k2 := kr + 1) (by omega), wu_ne (k2 := kr + 3) (k := kd) (by omega), wu_ne (k2 := kr + 3) (k := kd) (by omega), wu_ne (k2 := kr + 3) (by omega), e3, nI_add]
            have hn0 : 0 < n3 := by
              rcases Nat.eq_zero_or_pos n3 with q | q
              · rw [q] at e3; exact absurd e3 hz
              · exact q
            refine ⟨⟨nI_lt (a := 0) (by omega) (by omega), nI_le (b := 1000) (by omega) (by decide)⟩, hc.2.1, ?_, ?_, ?_⟩
            · rw [pk_un (by omega), pk_un (by omega), pk_un (by omega)]
              exact hc.2.2.1
            · rw [pk_un (by omega), pk_un (by omega), pk_us]
            · rw [pk_un (by omega), pk_un (by omega), pk_un (by omega)]
              exact hc.2.2.2.2
        · refine hD.set (fun j hj => ?_) (fun j hj => ?_) ?_ ?_ (fun l hl => ?_) hn5 (Or.inl ⟨h0, ?_, ?_, g1, g2⟩)
          · rw [wu_i, if_neg (by omega), wu_i, if_neg (by omega), wu_ne (by omega)]
          · rw [pk_un (by omega), pk_un (by omega), pk_un (by omega)]
          · rw [pk_us, wu_i, if_pos rfl]
          · rw [pk_un (by omega), pk_un (by omega), pk_un (by omega)]
          · rw [pk_un (by omega), pk_un (by omega), pk_un (by omega)]
          · rw [pk_un (by omega), pk_us, wu_i, if_neg (by decide), wu_i, if_pos rfl]
          · rw [wu_i, if_neg (by decide), wu_i, if_pos rfl, e2, pk_sub hm1]
            exact ⟨nI_pos' (by omega), nI_le (b := 2000) (by omega) (by decide)⟩
        · intro i h1 h2
          unfold inL at h1
          unfold inD at h2
          rw [pk_un (by omega), pk_un (by omega), pk_un (by omega)]
    · rw [h0] at q; exact absurd q (by decide)
    · rw [h0] at q; exact absurd q (by decide)
    · rw [h0] at q; exact absurd q (by decide)
    · rw [h0] at q; exact absurd q (by decide)
theorem DR.k3 {C : fOm} {k d : Nat} {a : Nat → Int32} (h : DR C k a d) (h0 : C k 0 = 3) : a (43 + 19 * d) = C k 8 ∧ (0 ≤ C k 3 ∧ C k 3 ≤ 99) ∧ (0 ≤ C k 4 ∧ C k 4 ≤ 99) := by
  rcases h.2.2 with ⟨q, -⟩ | ⟨q, -⟩ | ⟨q, -⟩ | ⟨-, q⟩ | ⟨q, -⟩
  · rw [h0] at q; exact absurd q (by decide)
  · rw [h0] at q; exact absurd q (by decide)
  · rw [h0] at q; exact absurd q (by decide)
  · exact q
  · rw [h0] at q; exact absurd q (by decide)
theorem DR.k4 {C : fOm} {k d : Nat} {a : Nat → Int32} (h : DR C k a d) (h0 : C k 0 = 4) : a (43 + 19 * d) = C k 8 ∧ (0 ≤ C k 3 ∧ C k 3 ≤ 99) := by
  rcases h.2.2 with ⟨q, -⟩ | ⟨q, -⟩ | ⟨q, -⟩ | ⟨q, -⟩ | ⟨-, q⟩
  · rw [h0] at q; exact absurd q (by decide)
  · rw [h0] at q; exact absurd q (by decide)
  · rw [h0] at q; exact absurd q (by decide)
  · rw [h0] at q; exact absurd q (by decide)
  · exact q
theorem DR.k1 {C : fOm} {k d : Nat} {a : Nat → Int32} (h : DR C k a d) (h0 : C k 0 = 1) : a (43 + 19 * d) = C k 8 ∧ (0 ≤ C k 8 ∧ C k 8 ≤ 8) ∧ ∀ i, i < (C k 8).toNatClampNeg → a (45 + 19 * d + i) = C (k + 1) i := by
  rcases h.2.2 with ⟨q, -⟩ | ⟨-, q⟩ | ⟨q, -⟩ | ⟨q, -⟩ | ⟨q, -⟩
  · rw [h0] at q; exact absurd q (by decide)
  · exact q
  · rw [h0] at q; exact absurd q (by decide)
  · rw [h0] at q; exact absurd q (by decide)
  · rw [h0] at q; exact absurd q (by decide)
theorem DR.k2 {C : fOm} {k d : Nat} {a : Nat → Int32} (h : DR C k a d) (h0 : C k 0 = 2) : a (43 + 19 * d) = C k 8 ∧ (0 ≤ C k 8 ∧ C k 8 ≤ 12) ∧ ∀ i, i < (C k 8).toNatClampNeg → a (45 + 19 * d + i) = C (k + 1) i ∧ (0 ≤ C (k + 1) i ∧ C (k + 1) i ≤ 99) := by
  rcases h.2.2 with ⟨q, -⟩ | ⟨q, -⟩ | ⟨-, q⟩ | ⟨q, -⟩ | ⟨q, -⟩
  · rw [h0] at q; exact absurd q (by decide)
  · rw [h0] at q; exact absurd q (by decide)
  · exact q
  · rw [h0] at q; exact absurd q (by decide)
  · rw [h0] at q; exact absurd q (by decide)
/-- a changer -/
theorem change_A {C M : fOm} {kd kr d r p : Nat} (hr : r < 5) (hd : d < 12) (hk : kr + 4 < kd) (hL : LRp C kr (M 648) r) (hD : DR C kd (M 648) d) (h0 : C kd 0 = 3) (hp : p < (C kr 0).toNatClampNeg) (hpl : C kd 2 = nI p) (hn5 : M 648 5 ≤ 5) :
    Act C (f_change C kd kr) kd kr (M 648) ((if M 648 (290 + 96 * r + 3 * p) = M 648 (41 + 19 * d) then m_did (wu M 648 (290 + 96 * r + 3 * p) (M 648 (42 + 19 * d))) (nI d) else M) 648) d r := by
  obtain ⟨P, hP4, hP, eP, eP2⟩ := hL.P
  have hc := hL.2.2.2 p hp
  have hv : f_valueAt C kr (C kd 2) = M 648 (290 + 96 * r + 3 * p) := by rw [hpl]; exact hL.val hp
  obtain ⟨x0, x1, x2, x3, x4, x5, x6, x7⟩ := iDs hd
  obtain ⟨⟨d0, d1, d2, d3, d4, d6⟩, -, -⟩ := id hD
  have hk3 := hD.k3 h0
  unfold f_change
  rw [hv, d3]
  by_cases he : M 648 (290 + 96 * r + 3 * p) = C kd 3
  · rw [if_neg (fun q => q he), if_pos he]
    have hl : ¬ C (kr + 2) p ≤ 0 := by
      intro q
      have := hc.iff.1.mp q
      rw [he] at this
      exact absurd this (Int32.not_lt.mpr hk3.2.1.1)
    have hc := hc.lit hl
    have em : m_did (wu M 648 (290 + 96 * r + 3 * p) (M 648 (42 + 19 * d))) (nI d) 648 = upd (upd (M 648) (290 + 96 * r + 3 * p) (C kd 4)) (44 + 19 * d) (C kd 6 + 1) := by
      unfold m_did
      rw [x6, wu_648, wu_648, pk_un (j := 44 + 19 * d) (by omega), d4, d6]
    have ec : f_changeValue C kr (C kd 2) (C kd 4) = wu C (kr + 1) p (C kd 4) := by
      unfold f_changeValue
      rw [hpl, has_n hL hp, if_neg (by decide), nI_clamp (by omega)]
    rw [em, ec]
    try dsimp only
    rw [wu_ne (k2 := kd) (k := kr + 1) (by omega)]
    refine ⟨?_, ?_, ?_⟩
    · refine hL.set (p := p) (by rw [wu_ne (by omega), wu_ne (by omega)]) (by rw [pk_un (by omega), pk_un (by omega)]) (fun t ht => ?_) (fun q hq hqp => ?_) ?_
      · rw [wu_ne (by omega), wu_ne (by omega), pk_un (by omega), pk_un (by omega)]
        exact hL.2.2.1 t ht
      · refine ⟨by rw [wu_ne (by omega), wu_s, pk_un hqp], by rw [wu_ne (by omega), wu_ne (by omega)], by rw [wu_ne (by omega), wu_ne (by omega)], by rw [pk_un (by omega), pk_un (by omega)], by rw [pk_un (by omega), pk_un (by omega)], by rw [pk_un (by omega), pk_un (by omega)]⟩
      · refine Or.inl ?_
        rw [wu_ne (k2 := kr + 2) (k := kd) (by omega), wu_ne (k2 := kr + 2) (by omega), wu_ne (k2 := kr + 1) (k := kd) (by omega), wu_s, pk_us, wu_ne (k2 := kr + 3) (k := kd) (by omega), wu_ne (k2 := kr + 3) (by omega)]
        refine ⟨hc.1, hk3.2.2, ?_, ?_, ?_⟩
        · rw [pk_un (by omega), pk_us]
        · rw [pk_un (by omega), pk_un (by omega)]
          exact hc.2.2.2.1
        · rw [pk_un (by omega), pk_un (by omega)]
          exact hc.2.2.2.2
    · refine hD.set (fun j hj => ?_) (fun j hj => ?_) ?_ ?_ (fun l hl => ?_) hn5 (Or.inr (Or.inr (Or.inr (Or.inl ⟨h0, ?_, hk3.2⟩))))
      · rw [wu_i, if_neg (by omega), wu_ne (by omega)]
      · rw [pk_un (by omega), pk_un (by omega)]
      · rw [pk_us, wu_i, if_pos rfl]
      · rw [pk_un (by omega), pk_un (by omega)]
      · rw [pk_un (by omega), pk_un (by omega)]
      · rw [pk_un (by omega), pk_un (by omega), wu_i, if_neg (by decide), wu_ne (by omega)]
        exact hk3.1
    · intro i h1 h2
      unfold inL at h1
      unfold inD at h2
      rw [pk_un (by omega), pk_un (by omega)]
  · rw [if_pos he, if_neg he]
    exact ⟨hL, hD, fun _ _ _ => rfl⟩
/-- a dropper -/
theorem drop_A {C M : fOm} {kd kr d r p : Nat} (hr : r < 5) (hd : d < 12) (hk : kr + 4 < kd) (hL : LRp C kr (M 648) r) (hD : DR C kd (M 648) d) (h0 : C kd 0 = 4) (hp : p < (C kr 0).toNatClampNeg) (hpl : C kd 2 = nI p) (hrl : M 648 (39 + 19 * d) = nI r) (hn5 : M 648 5 ≤ 5) :
    Act C (f_dropV C kd kr) kd kr (M 648) ((if M 648 (290 + 96 * r + 3 * p) = M 648 (41 + 19 * d) then m_did (m_moreL (m_clear M (nI (290 + 96 * r + 3 * p))) (m_clear M (nI (290 + 96 * r + 3 * p)) 648 (39 + 19 * d)) 3) (nI d) else M) 648) d r := by
  obtain ⟨P, hP4, hP, eP, eP2⟩ := hL.P
  have hc := hL.2.2.2 p hp
  have hv : f_valueAt C kr (C kd 2) = M 648 (290 + 96 * r + 3 * p) := by rw [hpl]; exact hL.val hp
  obtain ⟨x0, x1, x2, x3, x4, x5, x6, x7⟩ := iDs hd
  obtain ⟨⟨d0, d1, d2, d3, d4, d6⟩, -, -⟩ := id hD
  have hk4 := hD.k4 h0
  unfold f_dropV
  rw [hv, d3]
  by_cases he : M 648 (290 + 96 * r + 3 * p) = C kd 3
  · rw [if_neg (fun q => q he), if_pos he]
    have et := hL.2.2.1 2 (by omega)
    rw [show 9 + 6 * r + 2 = 11 + 6 * r by omega] at et
    have em : m_did (m_moreL (m_clear M (nI (290 + 96 * r + 3 * p))) (m_clear M (nI (290 + 96 * r + 3 * p)) 648 (39 + 19 * d)) 3) (nI d) 648 = upd (upd (upd (upd (upd (M 648) (290 + 96 * r + 3 * p) (-6)) (290 + 96 * r + 3 * p + 1) 0) (290 + 96 * r + 3 * p + 2) 0) (11 + 6 * r) (C (kr + 4) 2 + 1)) (44 + 19 * d) (C kd 6 + 1) := by
      unfold m_did
      rw [x6, wu_648, clear_r (by omega), pk_un (j := 39 + 19 * d) (by omega), pk_un (j := 39 + 19 * d) (by omega), pk_un (j := 39 + 19 * d) (by omega), hrl, show (3 : Int32) = nI 3 from rfl, moreL_r hr (by omega), clear_r (by omega), show 8 + 6 * r + 3 = 11 + 6 * r by omega, pk_un (j := 44 + 19 * d) (k := 11 + 6 * r) (by omega), pk_un (j := 44 + 19 * d) (by omega), pk_un (j := 44 + 19 * d) (by omega), pk_un (j := 44 + 19 * d) (by omega), d6, pk_un (j := 11 + 6 * r) (by omega), pk_un (j := 11 + 6 * r) (by omega), pk_un (j := 11 + 6 * r) (by omega), et]
    have ec : f_drop C kr (C kd 2) = wu (wu C (kr + 2) p 0) (kr + 4) 2 (C (kr + 4) 2 + 1) := by
      unfold f_drop
      rw [hpl, has_n hL hp, if_neg (by decide), nI_clamp (by omega)]
      try dsimp only
      rw [wu_ne (k2 := kr + 4) (k := kr + 2) (by omega)]
    rw [em, ec]
    try dsimp only
    rw [wu_ne (k2 := kd) (k := kr + 4) (by omega), wu_ne (k2 := kd) (k := kr + 2) (by omega)]
    refine ⟨?_, ?_, ?_⟩
    · refine hL.set (p := p) (by rw [wu_ne (by omega), wu_ne (by omega), wu_ne (by omega)]) (by rw [pk_un (by omega), pk_un (by omega), pk_un (by omega), pk_un (by omega), pk_un (by omega)]) (fun t ht => ?_) (fun q hq hqp => ?_) ?_
      · rw [wu_ne (by omega), wu_s, wu_ne (by omega), pk_un (by omega)]
        by_cases h2 : t = 2
        · subst h2
          rw [pk_us, show 9 + 6 * r + 2 = 11 + 6 * r by omega, pk_us]
        · rw [pk_un (k := 2) h2, pk_un (by omega), pk_un (by omega), pk_un (by omega), pk_un (by omega)]
          exact hL.2.2.1 t ht
      · refine ⟨by rw [wu_ne (by omega), wu_ne (by omega), wu_ne (by omega)], by rw [wu_ne (by omega), wu_ne (by omega), wu_s, pk_un hqp], by rw [wu_ne (by omega), wu_ne (by omega), wu_ne (by omega)], ?_, ?_, ?_⟩ <;> rw [pk_un (by omega), pk_un (by omega), pk_un (by omega), pk_un (by omega), pk_un (by omega)]
      · refine Or.inr ⟨by rw [wu_ne (by omega), wu_ne (by omega), wu_s, pk_us], ?_, ?_, ?_⟩
        · rw [pk_un (by omega), pk_un (by omega), pk_un (by omega), pk_un (by omega), pk_us]
        · rw [pk_un (by omega), pk_un (by omega), pk_un (by omega), pk_us]
        · rw [pk_un (by omega), pk_un (by omega), pk_us]
    · refine hD.set (fun j hj => ?_) (fun j hj => ?_) ?_ ?_ (fun l hl => ?_) hn5 (Or.inr (Or.inr (Or.inr (Or.inr ⟨h0, ?_, hk4.2⟩))))
      · rw [wu_i, if_neg (by omega), wu_ne (by omega), wu_ne (by omega)]
      · rw [pk_un (by omega), pk_un (by omega), pk_un (by omega), pk_un (by omega), pk_un (by omega)]
      · rw [pk_us, wu_i, if_pos rfl]
      · rw [pk_un (by omega), pk_un (by omega), pk_un (by omega), pk_un (by omega), pk_un (by omega)]
      · rw [pk_un (by omega), pk_un (by omega), pk_un (by omega), pk_un (by omega), pk_un (by omega)]
      · rw [pk_un (by omega), pk_un (by omega), pk_un (by omega), pk_un (by omega), pk_un (by omega), wu_i, if_neg (by decide), wu_ne (by omega), wu_ne (by omega)]
        exact hk4.1
    · intro i h1 h2
      unfold inL at h1
      unfold inD at h2
      rw [pk_un (by omega), pk_un (by omega), pk_un (by omega), pk_un (by omega), pk_un (by omega)]
  · rw [if_pos he, if_neg he]
    exact ⟨hL, hD, fun _ _ _ => rfl⟩
theorem ntL_i {M : fOm} {d : Nat} (hd : d < 12) {j : Nat} (hj : j ≤ 7) : (∀ i, ¬ inD d i → m_ntL (nI d) M j 648 i = M 648 i) ∧ (∀ i, i < 8 → m_ntL (nI d) M j 648 (38 + 19 * d + i) = M 648 (38 + 19 * d + i)) ∧ (∀ i, i ≤ 7 → 7 - j < i → m_ntL (nI d) M j 648 (45 + 19 * d + i) = M 648 (45 + 19 * d + (i - 1))) ∧ (∀ i, i ≤ 7 - j → m_ntL (nI d) M j 648 (45 + 19 * d + i) = M 648 (45 + 19 * d + i)) := by
  induction j with
  | zero => exact ⟨fun _ _ => rfl, fun _ _ => rfl, fun i hi h => absurd h (by omega), fun _ _ => rfl⟩
  | succ j ih =>
    obtain ⟨h1, h2, h3, h4⟩ := ih (by omega)
    have e1 : iD (nI d) (7 + (7 - nI j)) = 45 + 19 * d + (7 - j) := by
      rw [show (7 : Int32) = nI 7 from rfl, pk_sub (by omega), nI_add, iD_n hd (by omega)]
      omega
    have e2 : iD (nI d) (7 + (7 - nI j) - 1) = 45 + 19 * d + (7 - j - 1) := by
      rw [show (7 : Int32) = nI 7 from rfl, pk_sub (by omega), nI_add, show (1 : Int32) = nI 1 from rfl, pk_sub (by omega), iD_n hd (by omega)]
      omega
    have es : m_ntL (nI d) M (j + 1) 648 = upd (m_ntL (nI d) M j 648) (45 + 19 * d + (7 - j)) (m_ntL (nI d) M j 648 (45 + 19 * d + (7 - j - 1))) := by
      show wu (m_ntL (nI d) M j) 648 (iD (nI d) (7 + (7 - nI j))) (m_ntL (nI d) M j 648 (iD (nI d) (7 + (7 - nI j) - 1))) 648 = _
      rw [wu_648, e1, e2]
    rw [es]
    refine ⟨fun i hi => ?_, fun i hi => ?_, fun i hi h => ?_, fun i hi => ?_⟩
    · have hi2 := hi
      unfold inD at hi2
      rw [pk_un (by omega)]
      exact h1 i hi
    · rw [pk_un (by omega)]
      exact h2 i hi
    · by_cases e : i = 7 - j
      · subst e
        rw [pk_us]
        exact h4 _ (by omega)
      · rw [pk_un (by omega)]
        exact h3 i hi (by omega)
    · rw [pk_un (by omega)]
      exact h4 i (by omega)
theorem turn_k {ω : fOm} {k P p : Nat} (h1 : 1 ≤ P) (h2 : P ≤ 12) (h0 : 1 ≤ p) (hp : p < P) : f_turn ω k 10 (nI P) k p = ω k (p - 1) := by
  obtain ⟨Q, rfl⟩ : ∃ Q, P = Q + 1 := ⟨P - 1, by omega⟩
  unfold f_turn
  rw [if_neg (show ¬ nI (Q + 1) < 1 from nI_nlt (b := 1) (by omega) (by omega)), if_pos (show nI (Q + 1) ≤ nI (ln 10) from nI_le (b := 12) (by omega) (by decide)), nI_pred, nI_clamp (by omega), wu_s, pk_un (by omega), wr_s, pk_cpy_in (by omega) (by omega)]
  congr 1
  omega
/-- a reader -/
theorem note_A {C M : fOm} {kd kr d r p : Nat} {rd : Int32} (hr : r < 5) (hd : d < 12) (hk : kr + 4 < kd) (hL : LRp C kr (M 648) r) (hD : DR C kd (M 648) d) (h0 : C kd 0 = 1) (hp : p < (C kr 0).toNatClampNeg) (hpl : C kd 2 = nI p) (hrl : M 648 (39 + 19 * d) = nI r) (hn5 : M 648 5 ≤ 5) (hrd : 0 ≤ rd ∧ rd ≤ 200) (h1 : M 648 1 = rd) :
    Act C (f_note C kd kr rd) kd kr (M 648) ((if M 648 (290 + 96 * r + 3 * p) < 0 then M else m_note M (nI d) (nI (290 + 96 * r + 3 * p))) 648) d r := by
  obtain ⟨P, hP4, hP, eP, eP2⟩ := hL.P
  have hc := hL.2.2.2 p hp
  have hs : f_strengthAt C kr (C kd 2) = C (kr + 2) p := by rw [hpl]; exact hL.str hp
  by_cases hl : C (kr + 2) p ≤ 0
  · have hu := hc.unl hl
    rw [if_pos (hc.iff.1.mp hl)]
    unfold f_note
    rw [hs, if_pos hu.1]
    exact ⟨hL, hD, fun _ _ _ => rfl⟩
  · have hcl := hc.lit hl
    rw [if_neg (by rw [hcl.2.2.1]; exact Int32.not_lt.mpr hcl.2.1.1)]
    have hz : ¬ C (kr + 2) p = 0 := fun q => hl (by rw [q]; decide)
    have hk1 := hD.k1 h0
    obtain ⟨n, hn, en⟩ := rgN (n := 8) hk1.2.1 rfl
    obtain ⟨x0, x1, x2, x3, x4, x5, x6, x7⟩ := iDs hd
    obtain ⟨⟨d0, d1, d2, d3, d4, d6⟩, -, -⟩ := id hD
    -- how many are kept afterwards
    obtain ⟨n2, hn2, e2, e3, hle⟩ : ∃ n2 : Nat, (1 ≤ n2 ∧ n2 ≤ 8) ∧ f_min (C kd 8 + 1) 8 = nI n2 ∧ (if 8 ≤ C kd 8 then (8 : Int32) else C kd 8 + 1) = nI n2 ∧ n2 ≤ n + 1 := by
      rw [en]
      have key : ∀ n, n ≤ 8 → f_min (nI n + 1) 8 = nI (min (n + 1) 8) ∧ (if 8 ≤ nI n then (8 : Int32) else nI n + 1) = nI (min (n + 1) 8) := by decide +kernel
      exact ⟨min (n + 1) 8, ⟨by omega, Nat.min_le_right _ _⟩, (key n hn).1, (key n hn).2, Nat.min_le_left _ _⟩
    obtain ⟨t1, t2, t3, t4⟩ := ntL_i (M := M) hd (Nat.le_refl 7)
    have hm4 : m_nt4 M (nI d) (nI (290 + 96 * r + 3 * p)) 648 = upd (upd (upd (m_ntL (nI d) M 7 648) (45 + 19 * d) (M 648 (290 + 96 * r + 3 * p))) (43 + 19 * d) (nI n2)) (44 + 19 * d) (C kd 6 + 1) := by
      have g := t1 (290 + 96 * r + 3 * p) (by unfold inD; omega)
      have g5 := t2 5 (by omega)
      have g6 := t2 6 (by omega)
      rw [show 38 + 19 * d + 5 = 43 + 19 * d by omega, hk1.1] at g5
      rw [show 38 + 19 * d + 6 = 44 + 19 * d by omega, d6] at g6
      unfold m_nt4 m_did
      try dsimp only
      rw [x5, x6, x7, nI_clamp (by omega)]
      rw [wu_648, wu_648, wu_648, pk_un (j := 43 + 19 * d) (by omega), g5, g, e3, pk_un (j := 44 + 19 * d) (by omega), pk_un (j := 44 + 19 * d) (by omega), g6]
    generalize hM4 : m_nt4 M (nI d) (nI (290 + 96 * r + 3 * p)) = M4 at hm4
    have f4 : ∀ i, ¬ inD d i → M4 648 i = M 648 i := fun i hi => by
      have hi2 := hi
      unfold inD at hi2
      rw [hm4, pk_un (by omega), pk_un (by omega), pk_un (by omega)]
      exact t1 i hi
    have f4b : ∀ i, i < 5 → M4 648 (38 + 19 * d + i) = M 648 (38 + 19 * d + i) := fun i hi => by
      rw [hm4, pk_un (by omega), pk_un (by omega), pk_un (by omega)]
      exact t2 i (by omega)
    have f39 := f4b 1 (by omega)
    rw [show 38 + 19 * d + 1 = 39 + 19 * d by omega] at f39
    have em : m_note M (nI d) (nI (290 + 96 * r + 3 * p)) = m_fade M4 (nI r) (mc (nI r) (nI p)) rd := by
      unfold m_note
      rw [hM4, x1, f39, hrl, mc_n, f4 1 (by unfold inD; omega), h1]
    rw [em]
    -- the class
    generalize hw1 : wu C kd 8 (f_min (C kd 8 + 1) 8) = w1
    have w1kd8 : w1 kd 8 = nI n2 := by rw [← hw1, wu_i, if_pos rfl, e2]
    have w1ne : ∀ q, q ≠ kd → w1 q = C q := fun q hq => by rw [← hw1]; exact wu_ne hq
    have w1f : ∀ j, j ≠ 8 → w1 kd j = C kd j := fun j hj => by rw [← hw1, wu_i, if_neg hj]
    generalize hw2 : f_turn w1 (kd + 1) 10 (w1 kd 8) = w2
    have w2ne : ∀ q, q ≠ kd + 1 → w2 q = w1 q := fun q hq => by rw [← hw2]; exact turn_ne hq
    have hL2 : LRp w2 kr (M 648) r := hL.fr (fun q h1 h2 => by rw [w2ne q (by omega), w1ne q (by omega)]) (fun _ _ => rfl) rfl
    have kr0 : w2 kr = C kr := by rw [w2ne kr (by omega), w1ne kr (by omega)]
    have hv : f_valueAt w2 kr (w2 kd 2) = M 648 (290 + 96 * r + 3 * p) := by
      rw [w2ne kd (by omega), w1f 2 (by decide), hpl]
      exact hL2.val (by rw [kr0]; exact hp)
    generalize hw3 : wu w2 (kd + 1) 0 (M 648 (290 + 96 * r + 3 * p)) = w3
    have w3ne : ∀ q, q ≠ kd + 1 → w3 q = w2 q := fun q hq => by rw [← hw3]; exact wu_ne hq
    have w3kd : w3 kd = w1 kd := by rw [w3ne kd (by omega), w2ne kd (by omega)]
    have w3r : ∀ q, kr ≤ q → q < kr + 5 → w3 q = C q := fun q h1 h2 => by rw [w3ne q (by omega), w2ne q (by omega), w1ne q (by omega)]
    have hL3 : LRp w3 kr (M4 648) r := hL.fr w3r (fun i hi => f4 i (by unfold inL at hi; unfold inD; omega)) (f4 _ (by unfold inD; omega))
    have hL4 := hL3.fade hr (p := p) (b := rd) (by rw [w3r kr (Nat.le_refl _) (by omega)]; exact hp) (by rw [w3r (kr + 2) (by omega) (by omega)]; exact hl) hrd
    have ec : f_note C kd kr rd = wu (f_fade w3 kr (nI p) rd) kd 6 (C kd 6 + 1) := by
      unfold f_note
      try dsimp only
      rw [hs, if_neg hz, hw1, hw2, hv, hw3, w3kd, w1f 2 (by decide), hpl]
      have : f_fade w3 kr (nI p) rd kd = w3 kd := fade_M kd (by show ¬ (kr < kd ∧ kd < kr + 5); omega)
      rw [this, w3kd, w1f 6 (by decide)]
    have fkd : f_fade w3 kr (nI p) rd kd = w3 kd := fade_M kd (by show ¬ (kr < kd ∧ kd < kr + 5); omega)
    have fkd1 : f_fade w3 kr (nI p) rd (kd + 1) = w3 (kd + 1) := fade_M (kd + 1) (by show ¬ (kr < kd + 1 ∧ kd + 1 < kr + 5); omega)
    have ff : ∀ i, ¬ inL r i → m_fade M4 (nI r) (mc (nI r) (nI p)) rd 648 i = M4 648 i := fun i hi => fade_fr hr (by omega) hi
    have nD : ∀ i, inD d i → ¬ inL r i := fun i hi => by unfold inD at hi; unfold inL; omega
    rw [ec]
    refine ⟨hL4.fr (fun q h1 h2 => wu_ne (by omega)) (fun _ _ => rfl) rfl, ?_, fun i h1 h2 => (ff i h1).trans (f4 i h2)⟩
    have c6 : ∀ j, j ≠ 6 → wu (f_fade w3 kr (nI p) rd) kd 6 (C kd 6 + 1) kd j = w1 kd j := fun j hj => by rw [wu_i, if_neg hj, fkd, w3kd]
    have cr : wu (f_fade w3 kr (nI p) rd) kd 6 (C kd 6 + 1) (kd + 1) = w3 (kd + 1) := by rw [wu_ne (by omega), fkd1]
    refine hD.set (fun j hj => ?_) (fun j hj => ?_) ?_ ?_ (fun l hl => ?_) hn5 (Or.inr (Or.inl ⟨h0, ?_, ?_, fun i hi => ?_⟩))
    · rw [c6 j (by omega), w1f j (by omega)]
    · rw [ff _ (nD _ ⟨by omega, by omega⟩)]
      exact f4b j hj
    · rw [ff _ (nD _ ⟨by omega, by omega⟩), hm4, pk_us, wu_i, if_pos rfl]
    · rw [ff 5 (by unfold inL; omega), f4 5 (by unfold inD; omega)]
    · rw [ff _ (by unfold inL; omega), f4 _ (by unfold inD; omega)]
    · rw [ff _ (nD _ ⟨by omega, by omega⟩), hm4, pk_un (by omega), pk_us, c6 8 (by decide), w1kd8]
    · rw [c6 8 (by decide), w1kd8]
      exact ⟨nI_pos' (by omega), nI_le (b := 8) (by omega) (by decide)⟩
    · rw [c6 8 (by decide), w1kd8, nI_clamp (by omega)] at hi
      rw [ff _ (nD _ ⟨by omega, by omega⟩), hm4, pk_un (by omega), pk_un (by omega), cr, ← hw3, wu_i]
      by_cases hi0 : i = 0
      · subst hi0
        rw [if_pos rfl, Nat.add_zero, pk_us]
      · rw [if_neg hi0, pk_un (by omega), t3 i (by omega) (by omega), ← hw2, w1kd8, turn_k (by omega) (by omega) (by omega) hi, w1ne (kd + 1) (by omega)]
        exact hk1.2.2 (i - 1) (by rw [en, nI_clamp (by omega)]; omega)
theorem piL_i {M : fOm} {d : Nat} (hd : d < 12) {j : Nat} (hj : j ≤ 11) : (∀ i, (i < 45 + 19 * d ∨ 45 + 19 * d + j ≤ i) → m_piL (nI d) M j 648 i = M 648 i) ∧ (∀ i, i < j → m_piL (nI d) M j 648 (45 + 19 * d + i) = M 648 (46 + 19 * d + i)) := by
  induction j with
  | zero => exact ⟨fun _ _ => rfl, fun i hi => absurd hi (by omega)⟩
  | succ j ih =>
    obtain ⟨h1, h2⟩ := ih (by omega)
    have e1 : iD (nI d) (7 + nI j) = 45 + 19 * d + j := by
      rw [show (7 : Int32) = nI 7 from rfl, nI_add, iD_n hd (by omega)]
      omega
    have e2 : iD (nI d) (7 + nI j + 1) = 46 + 19 * d + j := by
      rw [show (7 : Int32) = nI 7 from rfl, nI_add, nI_1, iD_n hd (by omega)]
      omega
    have es : m_piL (nI d) M (j + 1) 648 = upd (m_piL (nI d) M j 648) (45 + 19 * d + j) (m_piL (nI d) M j 648 (46 + 19 * d + j)) := by
      show wu (m_piL (nI d) M j) 648 (iD (nI d) (7 + nI j)) (m_piL (nI d) M j 648 (iD (nI d) (7 + nI j + 1))) 648 = _
      rw [wu_648, e1, e2]
    rw [es]
    refine ⟨fun i hi => ?_, fun i hi => ?_⟩
    · rw [pk_un (by omega)]
      exact h1 i (by omega)
    · by_cases e : i = j
      · subst e
        rw [pk_us]
        exact h1 _ (by omega)
      · rw [pk_un (by omega)]
        exact h2 i (by omega)
theorem shine_r {M : fOm} {r c : Nat} {v : Int32} (hr : r < 5) (hc : c < 768) (hc2 : 290 ≤ c) : m_shine M (nI r) (nI c) v 648 = upd (upd (upd (upd (M 648) c v) (c + 1) (M 648 3)) (c + 2) (M 648 4)) (9 + 6 * r) (M 648 (9 + 6 * r) + 1) := by
  unfold m_shine
  try dsimp only
  rw [show (1 : Int32) = nI 1 from rfl, moreL_r hr (by omega), show (nI 1 : Int32) = 1 from rfl, nI_1, nI_2, nI_clamp (by omega), nI_clamp (by omega), nI_clamp (by omega), wu_648, wu_648, wu_648, pk_un (j := 3) (by omega), pk_un (j := 4) (by omega), pk_un (j := 4) (by omega), show 8 + 6 * r + 1 = 9 + 6 * r by omega, pk_un (j := 9 + 6 * r) (by omega), pk_un (j := 9 + 6 * r) (by omega), pk_un (j := 9 + 6 * r) (by omega)]
theorem putIn_e {C : fOm} {k r p : Nat} {a : Nat → Int32} {v s t : Int32} (h : LRp C k a r) (hp : p < (C k 0).toNatClampNeg) : f_putIn C k (nI p) v s t = wu (wu (wu (wu C (k + 1) p v) (k + 2) p s) (k + 3) p t) (k + 4) 0 (C (k + 4) 0 + 1) := by
  obtain ⟨P, hP4, hP, eP, eP2⟩ := h.P
  unfold f_putIn
  rw [has_n h hp, if_neg (by decide), nI_clamp (by omega)]
  try dsimp only
  rw [wu_ne (k2 := k + 4) (k := k + 3) (by omega), wu_ne (k2 := k + 4) (k := k + 2) (by omega), wu_ne (k2 := k + 4) (k := k + 1) (by omega)]
/-- a flash is put in -/
theorem LRp.shine {C M : fOm} {k r p : Nat} {v s t : Int32} (h : LRp C k (M 648) r) (hr : r < 5) (hp : p < (C k 0).toNatClampNeg) (hv : 0 ≤ v ∧ v ≤ 99) (hs : 100 ≤ s ∧ s ≤ 1000) (h3 : M 648 3 = s) (h4 : M 648 4 = t) : LRp (f_putIn C k (nI p) v s t) k (m_shine M (nI r) (mc (nI r) (nI p)) v 648) r := by
  obtain ⟨P, hP4, hP, eP, eP2⟩ := h.P
  rw [putIn_e h hp, mc_n, shine_r hr (by omega) (by omega), h3, h4]
  refine h.set (p := p) (by rw [wu_ne (by omega), wu_ne (by omega), wu_ne (by omega), wu_ne (by omega)]) (by rw [pk_un (by omega), pk_un (by omega), pk_un (by omega), pk_un (by omega)]) (fun t ht => ?_) (fun q hq hqp => ?_) ?_
  · rw [wu_s, wu_ne (by omega), wu_ne (by omega), wu_ne (by omega)]
    by_cases h0 : t = 0
    · subst h0
      rw [pk_us]
      exact (pk_us (f := upd (upd (upd (M 648) (290 + 96 * r + 3 * p) v) (290 + 96 * r + 3 * p + 1) s) (290 + 96 * r + 3 * p + 2) _) (k := 9 + 6 * r)).trans (congrArg (fun z => z + 1) (h.2.2.1 0 (by omega)))
    · rw [pk_un (k := 0) h0, pk_un (by omega), pk_un (by omega), pk_un (by omega), pk_un (by omega)]
      exact h.2.2.1 t ht
  · refine ⟨by rw [wu_ne (by omega), wu_ne (by omega), wu_ne (by omega), wu_s, pk_un hqp], by rw [wu_ne (by omega), wu_ne (by omega), wu_s, pk_un hqp, wu_ne (by omega)], by rw [wu_ne (by omega), wu_s, pk_un hqp, wu_ne (by omega), wu_ne (by omega)], ?_, ?_, ?_⟩ <;> rw [pk_un (by omega), pk_un (by omega), pk_un (by omega), pk_un (by omega)]
  · refine Or.inl ?_
    have e1 : wu (wu (wu (wu C (k + 1) p v) (k + 2) p s) (k + 3) p t) (k + 4) 0 (C (k + 4) 0 + 1) (k + 1) p = v := by rw [wu_ne (by omega), wu_ne (by omega), wu_ne (by omega), wu_s, pk_us]
    have e2 : wu (wu (wu (wu C (k + 1) p v) (k + 2) p s) (k + 3) p t) (k + 4) 0 (C (k + 4) 0 + 1) (k + 2) p = s := by rw [wu_ne (by omega), wu_ne (by omega), wu_s, pk_us]
    have e3 : wu (wu (wu (wu C (k + 1) p v) (k + 2) p s) (k + 3) p t) (k + 4) 0 (C (k + 4) 0 + 1) (k + 3) p = t := by rw [wu_ne (by omega), wu_s, pk_us]
    rw [e1, e2, e3]
    refine ⟨⟨Int32.lt_of_lt_of_le (by decide) hs.1, hs.2⟩, hv, ?_, ?_, ?_⟩
    · rw [pk_un (by omega), pk_un (by omega), pk_un (by omega), pk_us]
    · rw [pk_un (by omega), pk_un (by omega), pk_us]
    · rw [pk_un (by omega), pk_us]
/-- a feeder -/
theorem putNext_A {C M : fOm} {kd kr d r p : Nat} {fr t : Int32} (hr : r < 5) (hd : d < 12) (hk : kr + 4 < kd) (hL : LRp C kr (M 648) r) (hD : DR C kd (M 648) d) (h0 : C kd 0 = 2) (hp : p < (C kr 0).toNatClampNeg) (hpl : C kd 2 = nI p) (hrl : M 648 (39 + 19 * d) = nI r) (hn5 : M 648 5 ≤ 5) (hfr : 100 ≤ fr ∧ fr ≤ 1000) (h3 : M 648 3 = fr) (h4 : M 648 4 = t) :
    Act C (f_putNext C kd kr fr t) kd kr (M 648) ((if 0 ≤ M 648 (290 + 96 * r + 3 * p) then M else if M 648 (43 + 19 * d) ≤ 0 then M else m_putIn M (nI d) (nI (290 + 96 * r + 3 * p))) 648) d r := by
  obtain ⟨P, hP4, hP, eP, eP2⟩ := hL.P
  have hc := hL.2.2.2 p hp
  have hs : f_strengthAt C kr (C kd 2) = C (kr + 2) p := by rw [hpl]; exact hL.str hp
  have hk2 := hD.k2 h0
  have none : Act C C kd kr (M 648) (M 648) d r := ⟨hL, hD, fun _ _ _ => rfl⟩
  unfold f_putNext
  rw [hs, hk2.1]
  by_cases hl : 0 ≤ M 648 (290 + 96 * r + 3 * p)
  · have hlt := hc.iff.2.1.mp hl
    have hz : ¬ C (kr + 2) p = 0 := fun q => by rw [q] at hlt; exact absurd hlt (by decide)
    rw [if_pos hl]
    by_cases h8 : C kd 8 ≤ 0
    · rw [if_pos h8]; exact none
    · rw [if_neg h8, if_pos hz]; exact none
  · have hu : C (kr + 2) p = 0 := by
      rcases hc with q | q
      · exact absurd (by rw [q.2.2.1]; exact q.2.1.1) hl
      · exact q.1
    rw [if_neg hl]
    by_cases h8 : C kd 8 ≤ 0
    · rw [if_pos h8, if_pos h8]; exact none
    · rw [if_neg h8, if_neg h8, if_neg (fun q => q hu)]
      obtain ⟨n, hn, en⟩ := rgN (n := 12) hk2.2.1 rfl
      obtain ⟨m, rfl⟩ : ∃ m, n = m + 1 := by
        rcases Nat.eq_zero_or_pos n with q | q
        · rw [en, q] at h8
          exact absurd (by decide) h8
        · exact ⟨n - 1, by omega⟩
      obtain ⟨x0, x1, x2, x3, x4, x5, x6, x7⟩ := iDs hd
      obtain ⟨⟨d0, d1, d2, d3, d4, d6⟩, -, -⟩ := id hD
      have hrow := hk2.2.2
      rw [en, nI_clamp (by omega)] at hrow
      have hv0 := hrow 0 (by omega)
      rw [Nat.add_zero] at hv0
      -- the row
      have hsh : ∀ i, ¬ inL r i → m_shine M (nI r) (mc (nI r) (nI p)) (C (kd + 1) 0) 648 i = M 648 i := fun i hi => by
        unfold inL at hi
        rw [mc_n, shine_r hr (by omega) (by omega), pk_un (by omega), pk_un (by omega), pk_un (by omega), pk_un (by omega)]
      have nD : ∀ i, inD d i → ¬ inL r i := fun i hi => by unfold inD at hi; unfold inL; omega
      have hL2 := hL.shine hr hp hv0.2 hfr h3 h4
      generalize hMs : m_shine M (nI r) (mc (nI r) (nI p)) (C (kd + 1) 0) = Ms at hsh hL2
      have e0 : m_pi0 M (nI d) (nI (290 + 96 * r + 3 * p)) = wu Ms 648 (43 + 19 * d) (nI m) := by
        unfold m_pi0
        try dsimp only
        rw [x1, x7, x5, hrl, hv0.1, ← mc_n, hMs, hsh _ (nD _ ⟨by omega, by omega⟩), hk2.1, en, nI_pred]
      have e5 : wu Ms 648 (43 + 19 * d) (nI m) 648 (43 + 19 * d) = nI m := by rw [wu_648, pk_us]
      obtain ⟨p1, p2⟩ := piL_i (M := wu Ms 648 (43 + 19 * d) (nI m)) hd (j := m) (by omega)
      have em : m_putIn M (nI d) (nI (290 + 96 * r + 3 * p)) 648 = upd (m_piL (nI d) (wu Ms 648 (43 + 19 * d) (nI m)) m 648) (44 + 19 * d) (C kd 6 + 1) := by
        unfold m_putIn m_did
        rw [e0, x5, x6, e5, nI_clamp (by omega), wu_648, p1 _ (by omega), wu_648, pk_un (j := 44 + 19 * d) (by omega), hsh _ (nD _ ⟨by omega, by omega⟩), d6]
      have fr1 : ∀ i, (i < 43 + 19 * d ∨ 57 + 19 * d ≤ i) → m_putIn M (nI d) (nI (290 + 96 * r + 3 * p)) 648 i = Ms 648 i := fun i hi => by
        rw [em, pk_un (by omega), p1 i (by omega), wu_648, pk_un (by omega)]
      -- the class
      generalize hw1 : f_putIn C kr (C kd 2) (C (kd + 1) 0) fr t = w1
      have w1ne : ∀ q, ¬ (kr < q ∧ q < kr + 5) → w1 q = C q := fun q hq => by rw [← hw1]; exact putIn_M q hq
      have wkd : w1 kd = C kd := w1ne kd (by omega)
      have wkd1 : w1 (kd + 1) = C (kd + 1) := w1ne (kd + 1) (by omega)
      have er : f_remF w1 kd = wu (wr w1 (kd + 1) (va_cpy (C (kd + 1)) (C (kd + 1)) 1 0 m)) kd 8 (nI m) := by
        unfold f_remF
        try dsimp only
        rw [wkd, wkd1, if_neg h8, wr_ne (k2 := kd) (k := kd + 1) (by omega), wkd, en, nI_pred, nI_clamp (by omega)]
      try dsimp only
      rw [er]
      have ek6 : wu (wr w1 (kd + 1) (va_cpy (C (kd + 1)) (C (kd + 1)) 1 0 m)) kd 8 (nI m) kd 6 = C kd 6 := by
        rw [wu_i, if_neg (by decide), wr_ne (by omega), wkd]
      rw [ek6]
      refine ⟨?_, ?_, fun i h1 h2 => ?_⟩
      · have hL3 : LRp w1 kr (Ms 648) r := by rw [← hw1, hpl]; exact hL2
        exact hL3.fr (fun q h1 h2 => by rw [wu_ne (by omega), wu_ne (by omega), wr_ne (by omega)]) (fun i hi => fr1 i (by unfold inL at hi; omega)) (fr1 _ (by omega))
      · refine hD.set (fun j hj => ?_) (fun j hj => ?_) ?_ ?_ (fun l hl => ?_) hn5 (Or.inr (Or.inr (Or.inl ⟨h0, ?_, ?_, fun i hi => ?_⟩)))
        · rw [wu_i, if_neg (by omega), wu_i, if_neg (by omega), wr_ne (by omega), wkd]
        · rw [fr1 _ (by omega), hsh _ (nD _ ⟨by omega, by omega⟩)]
        · rw [em, pk_us, wu_i, if_pos rfl]
        · rw [fr1 _ (by omega), hsh _ (by unfold inL; omega)]
        · rw [fr1 _ (by omega), hsh _ (by unfold inL; omega)]
        · rw [em, pk_un (by omega), p1 _ (by omega), e5, wu_i, if_neg (by decide), wu_i, if_pos rfl]
        · rw [wu_i, if_neg (by decide), wu_i, if_pos rfl]
          exact ⟨nI_pos' (by omega), nI_le (b := 12) (by omega) (by decide)⟩
        · rw [wu_i, if_neg (by decide), wu_i, if_pos rfl, nI_clamp (by omega)] at hi
          rw [em, pk_un (by omega), p2 i hi, wu_648, pk_un (by omega), hsh _ (nD _ ⟨by omega, by omega⟩), wu_ne (by omega), wu_ne (by omega), wr_s, pk_cpy_in (by omega) (by omega)]
          have := hrow (1 + i) (by omega)
          rw [show 45 + 19 * d + (1 + i) = 46 + 19 * d + i by omega] at this
          exact this
      · rw [fr1 i (by unfold inD at h2; omega), hsh i h1]
