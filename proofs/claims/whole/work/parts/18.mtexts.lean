/-! ===== the reference's texts ===== -/
theorem nzf {e : Int32} (h : e = 0 ∨ e = 1) : fits .boolean (.int e) = true := by rcases h with rfl | rfl <;> rfl
def m_re (c : Int64) : Nat → Int64
  | 0 => c
  | j + 1 => ((m_re c j).toUInt64 >>> ((8 : Int32).toInt64.toUInt64 &&& Int64.toUInt64 63)).toInt64
def m_puF (c : Int64) : Nat → Nat → Option Nat
  | 0, j => some j
  | n + 1, j => if lg_cmp (m_re c j &&& 255) 0 = 0 then some j else if f_btw (m_re c j &&& 255).toInt32 33 126 = 0 then none else m_puF c n (j + 1)
theorem puF_s {c : Int64} {n j : Nat} : m_puF c (n + 1) j = if lg_cmp (m_re c j &&& 255) 0 = 0 then some j else if f_btw (m_re c j &&& 255).toInt32 33 126 = 0 then none else m_puF c n (j + 1) := rfl
def m_pu (c : Int64) : Option Nat := m_puF c 8 0
theorem pu_a {c : Int64} {j : Nat} (hP : m_pu c = m_puF c (8 - j) j) (h : j = 8) : m_pu c = some j := by
  rw [hP, show 8 - j = 0 by omega]
  rfl
theorem pu_b {c : Int64} {j : Nat} (hP : m_pu c = m_puF c (8 - j) j) (h : j < 8) (e : lg_cmp (m_re c j &&& 255) 0 = 0) : m_pu c = some j := by rw [hP, sub_s h, puF_s, if_pos e]
theorem pu_c {c : Int64} {j : Nat} (hP : m_pu c = m_puF c (8 - j) j) (h : j < 8) (e : ¬ lg_cmp (m_re c j &&& 255) 0 = 0) (e2 : f_btw (m_re c j &&& 255).toInt32 33 126 = 0) : m_pu c = none := by rw [hP, sub_s h, puF_s, if_neg e, if_pos e2]
theorem pu_d {c : Int64} {j : Nat} (hP : m_pu c = m_puF c (8 - j) j) (h : j < 8) (e : ¬ lg_cmp (m_re c j &&& 255) 0 = 0) (e2 : ¬ f_btw (m_re c j &&& 255).toInt32 33 126 = 0) : m_pu c = m_puF c (8 - (j + 1)) (j + 1) := by rw [hP, sub_s h, puF_s, if_neg e, if_neg e2]
def m_sg (c : Int64) (n k : Nat) : Int32 := ((c >>> ((8 * (nI n - 1 - nI k) : Int32).toInt64 &&& 63)) &&& 255).toInt32
def m_apL (c : Int64) (n : Nat) (ω : fOm) : Nat → fOm
  | 0 => ω
  | j + 1 => wu (m_apL c n ω j) 653 (m_apL c n ω j 647 8 + nI j).toNatClampNeg (m_sg c n j)
def m_putW (ω : fOm) (c : Int64) (n : Nat) : fOm := wu (m_apL c n ω n) 647 8 (m_apL c n ω n 647 8 + nI n)
def m_put (ω : fOm) (c : Int64) : Int32 × fOm := match m_pu c with
  | none => (-2, ω)
  | some n => if nI n = 0 then (-2, ω) else if lg_cmp (m_re c n) 0 = 0 then (if ω 647 8 + nI n ≤ 80 then (m_putW ω c n 647 8, m_putW ω c n) else (-4, ω)) else (-2, ω)
theorem mapL_8 {c : Int64} {n : Nat} {ω : fOm} (j : Nat) : m_apL c n ω j 647 = ω 647 := by
  induction j with
  | zero => rfl
  | succ j ih => exact (wu_ne (by decide)).trans ih
theorem ix_pad {x : Int32} {n j : Nat} (hx : 0 ≤ x ∧ x ≤ 80) (h : x + nI n ≤ 80) (hn : n ≤ 8) (hj : j < n) : vp_in (x + nI j) 80 := by
  obtain ⟨m, hm, rfl⟩ := rgN (n := 80) hx rfl
  rw [nI_add] at h ⊢
  have h1 := Int32.le_iff_toInt_le.mp h
  rw [nI_toInt (by omega)] at h1
  have h2 : (80 : Int32).toInt = 80 := rfl
  exact vp_n (by omega) (by decide)
/-- the parser's numbers: s what is read of the text, m its length, r how many numbers, o how many orders -/
def IV (ω : fOm) (o a : Nat) : Prop := ω 647 11 = nI o ∧ o ≤ 28 ∧ ∃ s m r : Nat, ω 647 9 = nI s ∧ ω 647 8 = nI m ∧ ω 647 12 = nI r ∧ s ≤ m ∧ m ≤ 80 ∧ r ≤ s ∧ (ω 647 10 = 0 → a ≤ s)
def m_nx (ω : fOm) : Int32 := if ω 647 8 ≤ ω 647 9 then 0 else ω 653 (ω 647 9).toNatClampNeg
theorem nx_lt {ω : fOm} {s m : Nat} (h1 : ω 647 9 = nI s) (h2 : ω 647 8 = nI m) (hs : s ≤ 80) (hm : m ≤ 80) (h : ¬ m_nx ω = 0) : s < m := by
  unfold m_nx at h
  rw [h1, h2] at h
  rcases Nat.lt_or_ge s m with a | a
  · exact a
  · rw [if_pos (nI_le a (by omega))] at h
    exact absurd rfl h
theorem ix_nx {ω : fOm} (h : 0 ≤ ω 647 9 ∧ ω 647 8 ≤ 80) (c : ¬ ω 647 8 ≤ ω 647 9) : vp_in (ω 647 9) 80 := vp_lt (Int32.not_lt.mpr h.1) (Int32.not_le.mp c) h.2 rfl
theorem IV.nx {ω : fOm} {o a : Nat} (h : IV ω o a) : 0 ≤ ω 647 9 ∧ ω 647 8 ≤ 80 := by
  obtain ⟨-, -, s, m, r, h1, h2, -, h4, h5, -⟩ := h
  rw [h1, h2]
  exact ⟨nI_pos' (by omega), nI_le (b := 80) (by omega) (by decide)⟩
theorem IV.rd {ω : fOm} {o a : Nat} (h : IV ω o a) : vp_in (ω 647 12) 81 := by
  obtain ⟨-, -, s, m, r, -, -, h3, h4, h5, h6, -⟩ := h
  rw [h3]
  exact vp_n (by omega) (by decide)
theorem IV.od {ω : fOm} {o a : Nat} (h : IV ω o a) : vp_in (ω 647 11) 30 ∧ vp_in (ω 647 11) 29 ∧ vp_in (ω 647 11 + 1) 30 := by
  obtain ⟨h1, h2, -⟩ := h
  rw [h1, nI_1]
  exact ⟨vp_n (by omega) (by decide), vp_n (by omega) (by decide), vp_n (by omega) (by decide)⟩
theorem IV.le {ω : fOm} {o a b : Nat} (h : IV ω o a) (hb : b ≤ a) : IV ω o b := by
  obtain ⟨h0, h9, s, m, r, h1, h2, h3, h4, h5, h6, h7⟩ := h
  exact ⟨h0, h9, s, m, r, h1, h2, h3, h4, h5, h6, fun q => Nat.le_trans hb (h7 q)⟩
/-- a step that may be wrong: what it leaves -/
theorem IV.step {ω w : fOm} {o a : Nat} (h : IV ω o a) (h11 : w 647 11 = ω 647 11) (h8 : w 647 8 = ω 647 8) (hq : ∀ s m r : Nat, ω 647 9 = nI s → ω 647 8 = nI m → ω 647 12 = nI r → s ≤ m → m ≤ 80 → r ≤ s → ∃ s2 r2 : Nat, w 647 9 = nI s2 ∧ w 647 12 = nI r2 ∧ s2 ≤ m ∧ r2 ≤ s2 ∧ (w 647 10 = 0 → ω 647 10 = 0 ∧ s + 1 ≤ s2)) : IV w o (a + 1) := by
  obtain ⟨h0, h9, s, m, r, h1, h2, h3, h4, h5, h6, h7⟩ := h
  obtain ⟨s2, r2, e1, e2, e3, e4, e5⟩ := hq s m r h1 h2 h3 h4 h5 h6
  exact ⟨h11.trans h0, h9, s2, m, r2, e1, h8.trans h2, e2, e3, h5, e4, fun q => by
    have e6 := e5 q
    have := h7 e6.1
    omega⟩
def m_ts (ω : fOm) (c : Int32) : fOm :=
  let w1 := wu ω 647 10 (if ω 647 10 = 0 then (if m_nx ω = c then 0 else 1) else 1)
  wu w1 647 9 (w1 647 9 + (if w1 647 10 = 0 then 1 else 0))
theorem wu_i {ω : fOm} {k i j : Nat} {v : Int32} : wu ω k j v k i = if i = j then v else ω k i := by
  unfold wu upd
  rw [if_pos rfl]
theorem ts_IV {ω : fOm} {o a : Nat} {c : Int32} (hc : ¬ c = 0) (h : IV ω o a) : IV (m_ts ω c) o (a + 1) := by
  refine h.step (by simp [m_ts, wu_i]) (by simp [m_ts, wu_i]) fun s m r h1 h2 h3 h4 h5 h6 => ?_
  by_cases hw : ω 647 10 = 0
  · by_cases hn : m_nx ω = c
    · have hs := nx_lt h1 h2 (by omega) h5 (by rw [hn]; exact hc)
      have e9 : m_ts ω c 647 9 = nI (s + 1) := by simp [m_ts, wu_i, hw, hn, h1, nI_1]
      have e12 : m_ts ω c 647 12 = nI r := by simp [m_ts, wu_i, h3]
      exact ⟨s + 1, r, e9, e12, by omega, by omega, fun _ => ⟨hw, Nat.le_refl _⟩⟩
    · have e9 : m_ts ω c 647 9 = nI s := by simp [m_ts, wu_i, hw, hn, h1]
      have e12 : m_ts ω c 647 12 = nI r := by simp [m_ts, wu_i, h3]
      have e10 : m_ts ω c 647 10 = 1 := by simp [m_ts, wu_i, hw, hn]
      exact ⟨s, r, e9, e12, h4, h6, fun q => by rw [e10] at q; exact absurd q (by decide)⟩
  · have e9 : m_ts ω c 647 9 = nI s := by simp [m_ts, wu_i, hw, h1]
    have e12 : m_ts ω c 647 12 = nI r := by simp [m_ts, wu_i, h3]
    have e10 : m_ts ω c 647 10 = 1 := by simp [m_ts, wu_i, hw]
    exact ⟨s, r, e9, e12, h4, h6, fun q => by rw [e10] at q; exact absurd q (by decide)⟩
abbrev f1w : Type := Int32 × fOm
def m_tn1 (ω : fOm) : fOm := wu ω 647 10 (if ω 647 10 = 0 then (if f_btw (m_nx ω) 48 57 = 0 then 1 else 0) else 1)
def m_tnS (p : f1w) : f1w :=
  let w1 := wu p.2 647 10 (if 10 * p.1 + m_nx p.2 - 48 ≤ 999 then 0 else 1)
  (if w1 647 10 = 0 then 10 * p.1 + m_nx w1 - 48 else p.1, wu w1 647 9 (w1 647 9 + (if w1 647 10 = 0 then 1 else 0)))
def m_tnI (p : f1w) : Nat → f1w
  | 0 => p
  | j + 1 => m_tnS (m_tnI p j)
def m_tnF : Nat → f1w → f1w
  | 0, p => p
  | n + 1, p => if p.2 647 10 = 0 then (if p.1 ≤ 0 then p else if f_btw (m_nx p.2) 48 57 = 0 then p else m_tnF n (m_tnS p)) else p
theorem tnF_s {n : Nat} {p : f1w} : m_tnF (n + 1) p = if p.2 647 10 = 0 then (if p.1 ≤ 0 then p else if f_btw (m_nx p.2) 48 57 = 0 then p else m_tnF n (m_tnS p)) else p := rfl
def m_tn2 (w1 : fOm) : f1w := (m_nx w1 - 48, wu w1 647 9 (w1 647 9 + 1))
def m_tnE (p : f1w) : fOm := wu (wu p.2 656 (p.2 647 12).toNatClampNeg p.1) 647 12 (wu p.2 656 (p.2 647 12).toNatClampNeg p.1 647 12 + 1)
def m_tnR (w1 : fOm) : f1w := m_tnF 81 (m_tn2 w1)
def m_tn (ω : fOm) : fOm := if m_tn1 ω 647 10 = 0 then m_tnE (m_tnR (m_tn1 ω)) else m_tn1 ω
theorem tnx_a {w1 : fOm} {j : Nat} (hP : m_tnR w1 = m_tnF (81 - j) (m_tnI (m_tn2 w1) j)) (h : j ≤ 81) (c : ¬ (m_tnI (m_tn2 w1) j).2 647 10 = 0) : m_tnR w1 = m_tnI (m_tn2 w1) j := by
  rw [hP]
  rcases Nat.lt_or_ge j 81 with a | a
  · rw [sub_s a, tnF_s, if_neg c]
  · rw [show 81 - j = 0 by omega]; rfl
theorem tnx_b {w1 : fOm} {j : Nat} (hP : m_tnR w1 = m_tnF (81 - j) (m_tnI (m_tn2 w1) j)) (h : j ≤ 81) (c0 : (m_tnI (m_tn2 w1) j).2 647 10 = 0) (c : (m_tnI (m_tn2 w1) j).1 ≤ 0) : m_tnR w1 = m_tnI (m_tn2 w1) j := by
  rw [hP]
  rcases Nat.lt_or_ge j 81 with a | a
  · rw [sub_s a, tnF_s, if_pos c0, if_pos c]
  · rw [show 81 - j = 0 by omega]; rfl
theorem tnx_c {w1 : fOm} {j : Nat} (hP : m_tnR w1 = m_tnF (81 - j) (m_tnI (m_tn2 w1) j)) (h : j ≤ 81) (c0 : (m_tnI (m_tn2 w1) j).2 647 10 = 0) (c1 : ¬ (m_tnI (m_tn2 w1) j).1 ≤ 0) (c : f_btw (m_nx (m_tnI (m_tn2 w1) j).2) 48 57 = 0) : m_tnR w1 = m_tnI (m_tn2 w1) j := by
  rw [hP]
  rcases Nat.lt_or_ge j 81 with a | a
  · rw [sub_s a, tnF_s, if_pos c0, if_neg c1, if_pos c]
  · rw [show 81 - j = 0 by omega]; rfl
theorem tnx_d {w1 : fOm} {j : Nat} (hP : m_tnR w1 = m_tnF (81 - j) (m_tnI (m_tn2 w1) j)) (h : j < 81) (c0 : (m_tnI (m_tn2 w1) j).2 647 10 = 0) (c1 : ¬ (m_tnI (m_tn2 w1) j).1 ≤ 0) (c : ¬ f_btw (m_nx (m_tnI (m_tn2 w1) j).2) 48 57 = 0) : m_tnR w1 = m_tnF (81 - (j + 1)) (m_tnI (m_tn2 w1) (j + 1)) := by
  rw [hP, sub_s h, tnF_s, if_pos c0, if_neg c1, if_neg c]
  rfl
/-- inside a number: s0 + j is read at least -/
def NV (w0 w : fOm) (b : Nat) : Prop := w 647 11 = w0 647 11 ∧ w 647 8 = w0 647 8 ∧ w 647 12 = w0 647 12 ∧ ∀ m : Nat, w0 647 8 = nI m → m ≤ 80 → ∃ s : Nat, w 647 9 = nI s ∧ s ≤ m ∧ (w0 647 10 = 0 → ∀ s0 : Nat, w0 647 9 = nI s0 → s0 ≤ 80 → s0 + 1 ≤ s ∧ (w 647 10 = 0 → s0 + 1 + b ≤ s))
theorem btwd {x : Int32} (h : ¬ f_btw x 48 57 = 0) : ¬ x = 0 := by
  intro e
  rw [e] at h
  exact h rfl
theorem tn2_NV {ω : fOm} {o a : Nat} (h : IV ω o a) (c : m_tn1 ω 647 10 = 0) : NV ω (m_tn2 (m_tn1 ω)).2 0 := by
  have hw : ω 647 10 = 0 := by
    by_cases hw : ω 647 10 = 0
    · exact hw
    · simp [m_tn1, wu_i, hw] at c
  have hd : ¬ f_btw (m_nx ω) 48 57 = 0 := by
    intro e
    simp [m_tn1, wu_i, hw, e] at c
  obtain ⟨-, -, s, m, r, h1, h2, h3, h4, h5, h6, h7⟩ := h
  have hs := nx_lt h1 h2 (by omega) h5 (btwd hd)
  refine ⟨by simp [m_tn2, m_tn1, wu_i], by simp [m_tn2, m_tn1, wu_i], by simp [m_tn2, m_tn1, wu_i], fun m2 e2 hm2 => ?_⟩
  have em : m2 = m := (nI_eq (by omega) (by omega)).mp (e2.symm.trans h2)
  subst em
  refine ⟨s + 1, by simp [m_tn2, m_tn1, wu_i, h1, nI_1], by omega, fun _ s0 e0 hs0 => ?_⟩
  have es : s0 = s := (nI_eq (by omega) (by omega)).mp (e0.symm.trans h1)
  subst es
  exact ⟨Nat.le_refl _, fun _ => Nat.le_refl _⟩
theorem tnS_NV {ω : fOm} {p : f1w} {b m : Nat} (h8 : ω 647 8 = nI m) (hm : m ≤ 80) (h : NV ω p.2 b) (c0 : p.2 647 10 = 0) (c : ¬ f_btw (m_nx p.2) 48 57 = 0) : NV ω (m_tnS p).2 (b + 1) := by
  obtain ⟨h1, h2, h3, h4⟩ := h
  refine ⟨by simp [m_tnS, wu_i, h1], by simp [m_tnS, wu_i, h2], by simp [m_tnS, wu_i, h3], fun m2 e2 hm2 => ?_⟩
  obtain ⟨s, e9, hs, hq⟩ := h4 m2 e2 hm2
  have hlt := nx_lt e9 (h2.trans e2) (by omega) hm2 (btwd c)
  by_cases hx : 10 * p.1 + m_nx p.2 - 48 ≤ 999
  · refine ⟨s + 1, by simp [m_tnS, wu_i, hx, e9, nI_1], by omega, fun hw s0 e0 hs0 => ?_⟩
    have := hq hw s0 e0 hs0
    have h9 := this.2 c0
    exact ⟨by omega, fun _ => by omega⟩
  · refine ⟨s, by simp [m_tnS, wu_i, hx, e9], hs, fun hw s0 e0 hs0 => ?_⟩
    have := hq hw s0 e0 hs0
    exact ⟨this.1, fun q => by simp [m_tnS, wu_i, hx] at q⟩
theorem NV.nx {ω w : fOm} {o a b : Nat} (h : IV ω o a) (k : NV ω w b) : 0 ≤ w 647 9 ∧ w 647 8 ≤ 80 := by
  obtain ⟨-, -, s, m, r, h1, h2, h3, h4, h5, h6, h7⟩ := h
  obtain ⟨k1, k2, k3, k4⟩ := k
  obtain ⟨s2, e9, hs2, -⟩ := k4 m h2 h5
  rw [e9, k2, h2]
  exact ⟨nI_pos' (by omega), nI_le (b := 80) (by omega) (by decide)⟩
theorem NV.rd {ω w : fOm} {o a b : Nat} (h : IV ω o a) (k : NV ω w b) : vp_in (w 647 12) 81 := by
  rw [k.2.2.1]
  exact h.rd
theorem NV.lt {ω w : fOm} {o a b : Nat} (h : IV ω o a) (k : NV ω w b) (hw : ω 647 10 = 0) (c0 : w 647 10 = 0) (c : ¬ f_btw (m_nx w) 48 57 = 0) : b < 81 := by
  obtain ⟨-, -, s, m, r, h1, h2, h3, h4, h5, h6, h7⟩ := h
  obtain ⟨k1, k2, k3, k4⟩ := k
  obtain ⟨s2, e9, hs2, hq⟩ := k4 m h2 h5
  have := (hq hw s h1 (by omega)).2 c0
  omega
theorem tn1_0 {ω : fOm} (c : m_tn1 ω 647 10 = 0) : ω 647 10 = 0 := by
  by_cases hw : ω 647 10 = 0
  · exact hw
  · simp [m_tn1, wu_i, hw] at c
/-- nx of a world in which another number was set -/
theorem nx_10 {ω : fOm} {v : Int32} : m_nx (wu ω 647 10 v) = m_nx ω := by
  have e8 : wu ω 647 10 v 647 8 = ω 647 8 := by simp [wu_i]
  have e9 : wu ω 647 10 v 647 9 = ω 647 9 := by simp [wu_i]
  unfold m_nx
  rw [e8, e9, wu_ne (by decide)]
theorem tnI_NV {ω : fOm} {o a : Nat} (h : IV ω o a) (c : m_tn1 ω 647 10 = 0) (j : Nat) (hs : ∀ i, i < j → (m_tnI (m_tn2 (m_tn1 ω)) i).2 647 10 = 0 ∧ ¬ f_btw (m_nx (m_tnI (m_tn2 (m_tn1 ω)) i).2) 48 57 = 0) : NV ω (m_tnI (m_tn2 (m_tn1 ω)) j).2 j := by
  induction j with
  | zero => exact tn2_NV h c
  | succ j ih =>
    obtain ⟨-, -, s, m, r, h1, h2, h3, h4, h5, h6, h7⟩ := id h
    exact tnS_NV h2 h5 (ih fun i hi => hs i (by omega)) (hs j (by omega)).1 (hs j (by omega)).2
theorem tnF_NV {ω : fOm} {m : Nat} (h8 : ω 647 8 = nI m) (hm : m ≤ 80) (n : Nat) : ∀ (p : f1w) (b : Nat), NV ω p.2 b → ∃ b2, NV ω (m_tnF n p).2 b2 := by
  induction n with
  | zero => exact fun p b k => ⟨b, k⟩
  | succ n ih =>
    intro p b k
    rw [tnF_s]
    by_cases c0 : p.2 647 10 = 0
    · rw [if_pos c0]
      by_cases c1 : p.1 ≤ 0
      · rw [if_pos c1]; exact ⟨b, k⟩
      · rw [if_neg c1]
        by_cases c2 : f_btw (m_nx p.2) 48 57 = 0
        · rw [if_pos c2]; exact ⟨b, k⟩
        · rw [if_neg c2]
          exact ih _ _ (tnS_NV h8 hm k c0 c2)
    · rw [if_neg c0]; exact ⟨b, k⟩
theorem tn_IV {ω : fOm} {o a : Nat} (h : IV ω o a) : IV (m_tn ω) o (a + 1) := by
  obtain ⟨-, -, s', m', r', -, g2, -, -, g5, -⟩ := id h
  by_cases c : m_tn1 ω 647 10 = 0
  · have hw := tn1_0 c
    obtain ⟨b2, k⟩ := tnF_NV g2 g5 81 _ 0 (tn2_NV h c)
    have e : m_tn ω = m_tnE (m_tnR (m_tn1 ω)) := if_pos c
    rw [e]
    obtain ⟨k1, k2, k3, k4⟩ := k
    refine h.step (by simp [m_tnE, wu_i, wu, k1, m_tnR]; exact k1) (by simp [m_tnE, wu_i, wu, k2, m_tnR]; exact k2) fun s m r h1 h2 h3 h4 h5 h6 => ?_
    obtain ⟨s2, e9, hs2, hq⟩ := k4 m h2 h5
    have hq1 := hq hw s h1 (by omega)
    have x9 : m_tnE (m_tnR (m_tn1 ω)) 647 9 = (m_tnR (m_tn1 ω)).2 647 9 := by simp [m_tnE, wu_i, wu, upd]
    have x12 : m_tnE (m_tnR (m_tn1 ω)) 647 12 = (m_tnR (m_tn1 ω)).2 647 12 + 1 := by simp [m_tnE, wu_i, wu, upd]
    have k3' : (m_tnR (m_tn1 ω)).2 647 12 = nI r := k3.trans h3
    have e9' : (m_tnR (m_tn1 ω)).2 647 9 = nI s2 := e9
    refine ⟨s2, r + 1, x9.trans e9', by rw [x12, k3', nI_1], hs2, by omega, fun _ => ⟨hw, hq1.1⟩⟩
  · have e : m_tn ω = m_tn1 ω := if_neg c
    rw [e]
    exact h.step (by simp [m_tn1, wu_i]) (by simp [m_tn1, wu_i]) fun s m r h1 h2 h3 h4 h5 h6 => ⟨s, r, by simp [m_tn1, wu_i, h1], by simp [m_tn1, wu_i, h3], h4, h6, fun q => absurd q c⟩
def m_tm1 (ω : fOm) : fOm := wu ω 647 10 (if ω 647 10 = 0 then (if f_btw (m_nx ω) 48 50 = 0 then 1 else 0) else 1)
def m_tm2 (w1 : fOm) : fOm :=
  let w2 := wu w1 656 (w1 647 12).toNatClampNeg (m_nx w1 - 48)
  let w3 := wu w2 647 12 (w2 647 12 + 1)
  wu w3 647 9 (w3 647 9 + 1)
def m_tm (ω : fOm) : fOm := if m_tm1 ω 647 10 = 0 then m_tm2 (m_tm1 ω) else m_tm1 ω
theorem tm_IV {ω : fOm} {o a : Nat} (h : IV ω o a) : IV (m_tm ω) o (a + 1) := by
  by_cases c : m_tm1 ω 647 10 = 0
  · have hw : ω 647 10 = 0 := by
      by_cases hw : ω 647 10 = 0
      · exact hw
      · simp [m_tm1, wu_i, hw] at c
    have hd : ¬ f_btw (m_nx ω) 48 50 = 0 := by
      intro e
      simp [m_tm1, wu_i, hw, e] at c
    have hd2 : ¬ m_nx ω = 0 := by
      intro e
      rw [e] at hd
      exact hd rfl
    have e : m_tm ω = m_tm2 (m_tm1 ω) := if_pos c
    rw [e]
    refine h.step (by simp [m_tm2, m_tm1, wu_i, wu, upd]) (by simp [m_tm2, m_tm1, wu_i, wu, upd]) fun s m r h1 h2 h3 h4 h5 h6 => ?_
    have hs := nx_lt h1 h2 (by omega) h5 hd2
    exact ⟨s + 1, r + 1, by simp [m_tm2, m_tm1, wu_i, wu, upd, h1, nI_1], by simp [m_tm2, m_tm1, wu_i, wu, upd, h3, nI_1], by omega, by omega, fun _ => ⟨hw, Nat.le_refl _⟩⟩
  · have e : m_tm ω = m_tm1 ω := if_neg c
    rw [e]
    exact h.step (by simp [m_tm1, wu_i]) (by simp [m_tm1, wu_i]) fun s m r h1 h2 h3 h4 h5 h6 => ⟨s, r, by simp [m_tm1, wu_i, h1], by simp [m_tm1, wu_i, h3], h4, h6, fun q => absurd q c⟩
/-- the list of a feed -/
def m_tlS (w : fOm) : fOm := m_tn (wu w 647 9 (w 647 9 + 1))
def m_tlI (w : fOm) : Nat → fOm
  | 0 => w
  | j + 1 => m_tlS (m_tlI w j)
def m_tlF : Nat → fOm → fOm
  | 0, w => w
  | n + 1, w => if w 647 10 = 0 then (if m_nx w = 44 then m_tlF n (m_tlS w) else w) else w
theorem tlFm_s {n : Nat} {w : fOm} : m_tlF (n + 1) w = if w 647 10 = 0 then (if m_nx w = 44 then m_tlF n (m_tlS w) else w) else w := rfl
def m_tl (w : fOm) : fOm := m_tlF 81 w
theorem tl_a {w : fOm} {j : Nat} (hP : m_tl w = m_tlF (81 - j) (m_tlI w j)) (h : j ≤ 81) (c : ¬ m_tlI w j 647 10 = 0) : m_tl w = m_tlI w j := by
  rw [hP]
  rcases Nat.lt_or_ge j 81 with a | a
  · rw [sub_s a, tlFm_s, if_neg c]
  · rw [show 81 - j = 0 by omega]; rfl
theorem tl_b {w : fOm} {j : Nat} (hP : m_tl w = m_tlF (81 - j) (m_tlI w j)) (h : j ≤ 81) (c0 : m_tlI w j 647 10 = 0) (c : ¬ m_nx (m_tlI w j) = 44) : m_tl w = m_tlI w j := by
  rw [hP]
  rcases Nat.lt_or_ge j 81 with a | a
  · rw [sub_s a, tlFm_s, if_pos c0, if_neg c]
  · rw [show 81 - j = 0 by omega]; rfl
theorem tl_c {w : fOm} {j : Nat} (hP : m_tl w = m_tlF (81 - j) (m_tlI w j)) (h : j < 81) (c0 : m_tlI w j 647 10 = 0) (c : m_nx (m_tlI w j) = 44) : m_tl w = m_tlF (81 - (j + 1)) (m_tlI w (j + 1)) := by
  rw [hP, sub_s h, tlFm_s, if_pos c0, if_pos c]
  rfl
theorem sp1_IV {ω : fOm} {o a : Nat} {c : Int32} (hc : ¬ c = 0) (h : IV ω o a) (c0 : ω 647 10 = 0) (c1 : m_nx ω = c) : IV (wu ω 647 9 (ω 647 9 + 1)) o (a + 1) := by
  refine h.step (by simp [wu_i]) (by simp [wu_i]) fun s m r h1 h2 h3 h4 h5 h6 => ?_
  have hs := nx_lt h1 h2 (by omega) h5 (by rw [c1]; exact hc)
  exact ⟨s + 1, r, by simp [wu_i, h1, nI_1], by simp [wu_i, h3], by omega, by omega, fun _ => ⟨c0, Nat.le_refl _⟩⟩
theorem tlS_IV {ω : fOm} {o a : Nat} (h : IV ω o a) (c0 : ω 647 10 = 0) (c1 : m_nx ω = 44) : IV (m_tlS ω) o (a + 2) := tn_IV (sp1_IV (by decide) h c0 c1)
theorem IV.al {ω : fOm} {o a : Nat} (h : IV ω o a) (c : ω 647 10 = 0) : a ≤ 80 := by
  obtain ⟨-, -, s, m, r, h1, h2, h3, h4, h5, h6, h7⟩ := h
  have := h7 c
  omega
theorem tlF_IV {o : Nat} (n : Nat) : ∀ (w : fOm) (a : Nat), IV w o a → IV (m_tlF n w) o a := by
  induction n with
  | zero => exact fun w a h => h
  | succ n ih =>
    intro w a h
    rw [tlFm_s]
    split
    · rename_i c0
      split
      · rename_i c1
        exact (ih _ _ (tlS_IV h c0 c1)).le (by omega)
      · exact h
    · exact h
/-- an order -/
def m_to0 (ω : fOm) : fOm :=
  let w1 := wu ω 647 9 (ω 647 9 + 1)
  wu w1 655 (w1 647 11).toNatClampNeg (w1 647 12)
def m_toX (w : fOm) : fOm := wu (wu w 647 9 (w 647 9 - 1)) 647 10 1
def m_toB (c : Int32) (w : fOm) : fOm := if c = 102 then m_tl (m_tn (m_ts (m_tn w) 58)) else if c = 106 then m_tm (m_ts (m_tn w) 61) else if c = 108 then m_tn (m_ts (m_tn (m_ts (m_tn w) 58)) 61) else if c = 116 then m_tn w else m_toX w
def m_toE (c : Int32) (w : fOm) : fOm := if w 647 10 = 0 then
    let w1 := wu w 654 (w 647 11).toNatClampNeg c
    let w2 := wu w1 647 11 (w1 647 11 + 1)
    wu w2 655 (w2 647 11).toNatClampNeg (w2 647 12)
  else w
def m_to (ω : fOm) : fOm := m_toE (m_nx ω) (m_toB (m_nx ω) (m_to0 ω))
theorem to0_IV {ω : fOm} {o a : Nat} {c : Int32} (h : IV ω o a) (c0 : ω 647 10 = 0) (hc : m_nx ω = c) (hz : ¬ c = 0) : IV (m_to0 ω) o (a + 1) := by
  have h1 := sp1_IV hz h c0 hc
  obtain ⟨g0, g9, s, m, r, g1, g2, g3, g4, g5, g6, g7⟩ := h1
  have e : ∀ i, m_to0 ω 647 i = wu ω 647 9 (ω 647 9 + 1) 647 i := fun i => by unfold m_to0; (try dsimp only); rw [wu_ne (by decide)]
  exact ⟨(e 11).trans g0, g9, s, m, r, (e 9).trans g1, (e 8).trans g2, (e 12).trans g3, g4, g5, g6, fun q => g7 ((e 10).symm.trans q)⟩
theorem to0_11 {ω : fOm} : m_to0 ω 647 11 = ω 647 11 := by
  unfold m_to0
  try dsimp only
  rw [wu_ne (by decide)]
  simp [wu_i]
theorem to0_10 {ω : fOm} : m_to0 ω 647 10 = ω 647 10 := by
  unfold m_to0
  try dsimp only
  rw [wu_ne (by decide)]
  simp [wu_i]
theorem toX_IV {ω : fOm} {o a : Nat} (h : IV ω o a) : IV (m_toX (m_to0 ω)) o (a + 1) := by
  have e : ∀ i, m_to0 ω 647 i = wu ω 647 9 (ω 647 9 + 1) 647 i := fun i => by unfold m_to0; (try dsimp only); rw [wu_ne (by decide)]
  refine h.step (by simp [m_toX, wu_i, e]) (by simp [m_toX, wu_i, e]) fun s m r h1 h2 h3 h4 h5 h6 => ?_
  refine ⟨s, r, ?_, by simp [m_toX, wu_i, e, h3], h4, h6, fun q => by simp [m_toX, wu_i] at q⟩
  simp only [m_toX, wu_i, e]
  simp [h1, nI_1, nI_pred]
theorem toB_IV {ω : fOm} {o a : Nat} (h : IV ω o a) (c0 : ω 647 10 = 0) : IV (m_toB (m_nx ω) (m_to0 ω)) o (a + 1) ∧ (m_toB (m_nx ω) (m_to0 ω) 647 10 = 0 → IV (m_toB (m_nx ω) (m_to0 ω)) o (a + 2)) := by
  unfold m_toB
  split
  · rename_i c
    have h1 := tlF_IV 81 _ _ (tn_IV (ts_IV (c := 58) (by decide) (tn_IV (to0_IV h c0 c (by decide)))))
    exact ⟨h1.le (by omega), fun _ => h1.le (by omega)⟩
  · split
    · rename_i c
      have h1 := tm_IV (ts_IV (c := 61) (by decide) (tn_IV (to0_IV h c0 c (by decide))))
      exact ⟨h1.le (by omega), fun _ => h1.le (by omega)⟩
    · split
      · rename_i c
        have h1 := tn_IV (ts_IV (c := 61) (by decide) (tn_IV (ts_IV (c := 58) (by decide) (tn_IV (to0_IV h c0 c (by decide))))))
        exact ⟨h1.le (by omega), fun _ => h1.le (by omega)⟩
      · split
        · rename_i c
          have h1 := tn_IV (to0_IV h c0 c (by decide))
          exact ⟨h1.le (by omega), fun _ => h1.le (by omega)⟩
        · exact ⟨toX_IV h, fun q => by simp [m_toX, wu_i] at q⟩
theorem toE_0 {c : Int32} {w : fOm} (h : w 647 10 = 0) (i : Nat) : m_toE c w 647 i = if i = 11 then w 647 11 + 1 else w 647 i := by
  unfold m_toE
  rw [if_pos h]
  try dsimp only
  rw [wu_ne (by decide), wu_i]
  split
  · rename_i e
    subst e
    rw [wu_ne (by decide)]
  · rw [wu_ne (by decide)]
theorem to_IV {ω : fOm} {o a : Nat} (h : IV ω o a) (c0 : ω 647 10 = 0) (ho : o < 28) : if m_to ω 647 10 = 0 then IV (m_to ω) (o + 1) (a + 2) else IV (m_to ω) o (a + 1) := by
  have hB := toB_IV h c0
  unfold m_to
  generalize m_toB (m_nx ω) (m_to0 ω) = w at hB
  by_cases hw : w 647 10 = 0
  · have e := toE_0 (c := m_nx ω) hw
    have e10 : m_toE (m_nx ω) w 647 10 = 0 := by rw [e, if_neg (by decide)]; exact hw
    rw [if_pos e10]
    obtain ⟨g0, g9, s, m, r, g1, g2, g3, g4, g5, g6, g7⟩ := hB.2 hw
    refine ⟨by rw [e, if_pos rfl, g0, nI_1], by omega, s, m, r, by rw [e, if_neg (by decide)]; exact g1, by rw [e, if_neg (by decide)]; exact g2, by rw [e, if_neg (by decide)]; exact g3, g4, g5, g6, fun _ => g7 hw⟩
  · have e : m_toE (m_nx ω) w = w := if_neg hw
    rw [e, if_neg hw]
    exact hB.1
/-- the whole text -/
def m_ft0 (ω : fOm) : fOm := wu (wu (wu (wu ω 647 9 0) 647 10 0) 647 11 0) 647 12 0
def m_ftS (w : fOm) : fOm := if m_ts w 59 647 10 = 0 then m_to (m_ts w 59) else m_ts w 59
def m_ftI (w : fOm) : Nat → fOm
  | 0 => w
  | j + 1 => m_ftS (m_ftI w j)
def m_ftF : Nat → fOm → fOm
  | 0, w => w
  | n + 1, w => if w 647 10 = 0 then (if w 647 8 ≤ w 647 9 then w else m_ftF n (m_ftS w)) else w
theorem ftF_s {n : Nat} {w : fOm} : m_ftF (n + 1) w = if w 647 10 = 0 then (if w 647 8 ≤ w 647 9 then w else m_ftF n (m_ftS w)) else w := rfl
def m_ft1 (ω : fOm) : fOm := m_to (m_ft0 ω)
def m_ft (ω : fOm) : fOm := m_ftF 81 (m_ft1 ω)
def m_ftR (ω : fOm) : Int32 := if m_ft ω 647 10 = 0 then (-6) else m_ft ω 647 9
theorem ft_a {ω : fOm} {j : Nat} (hP : m_ft ω = m_ftF (81 - j) (m_ftI (m_ft1 ω) j)) (h : j ≤ 81) (c : ¬ m_ftI (m_ft1 ω) j 647 10 = 0) : m_ft ω = m_ftI (m_ft1 ω) j := by
  rw [hP]
  rcases Nat.lt_or_ge j 81 with a | a
  · rw [sub_s a, ftF_s, if_neg c]
  · rw [show 81 - j = 0 by omega]; rfl
theorem ft_b {ω : fOm} {j : Nat} (hP : m_ft ω = m_ftF (81 - j) (m_ftI (m_ft1 ω) j)) (h : j ≤ 81) (c0 : m_ftI (m_ft1 ω) j 647 10 = 0) (c : m_ftI (m_ft1 ω) j 647 8 ≤ m_ftI (m_ft1 ω) j 647 9) : m_ft ω = m_ftI (m_ft1 ω) j := by
  rw [hP]
  rcases Nat.lt_or_ge j 81 with a | a
  · rw [sub_s a, ftF_s, if_pos c0, if_pos c]
  · rw [show 81 - j = 0 by omega]; rfl
theorem ft_c {ω : fOm} {j : Nat} (hP : m_ft ω = m_ftF (81 - j) (m_ftI (m_ft1 ω) j)) (h : j < 81) (c0 : m_ftI (m_ft1 ω) j 647 10 = 0) (c : ¬ m_ftI (m_ft1 ω) j 647 8 ≤ m_ftI (m_ft1 ω) j 647 9) : m_ft ω = m_ftF (81 - (j + 1)) (m_ftI (m_ft1 ω) (j + 1)) := by
  rw [hP, sub_s h, ftF_s, if_pos c0, if_neg c]
  rfl
theorem ft0_IV {ω : fOm} (h : 0 ≤ ω 647 8 ∧ ω 647 8 ≤ 80) : IV (m_ft0 ω) 0 0 := by
  obtain ⟨m, hm, e⟩ := rgN (n := 80) h rfl
  exact ⟨by simp [m_ft0, wu_i]; rfl, by omega, 0, m, 0, by simp [m_ft0, wu_i]; rfl, by simp [m_ft0, wu_i, e], by simp [m_ft0, wu_i]; rfl, by omega, hm, by omega, fun _ => by omega⟩
theorem ft0_10 {ω : fOm} : m_ft0 ω 647 10 = 0 := by simp [m_ft0, wu_i]
def FV (w : fOm) (j : Nat) : Prop := (∃ o a, IV w o a) ∧ (w 647 10 = 0 → IV w (j + 1) (3 * j + 2))
theorem ft1_FV {ω : fOm} (h : 0 ≤ ω 647 8 ∧ ω 647 8 ≤ 80) : FV (m_ft1 ω) 0 := by
  have k := to_IV (ft0_IV h) ft0_10 (by omega)
  unfold m_ft1
  split at k
  · exact ⟨⟨_, _, k⟩, fun _ => k⟩
  · rename_i c
    exact ⟨⟨_, _, k⟩, fun q => absurd q c⟩
theorem FV.j {w : fOm} {j : Nat} (h : FV w j) (c : w 647 10 = 0) : j ≤ 26 := by
  have := (h.2 c).al c
  omega
theorem ts_w10 {ω : fOm} {c : Int32} : m_ts ω c 647 10 = if ω 647 10 = 0 then (if m_nx ω = c then 0 else 1) else 1 := by simp [m_ts, wu_i]
theorem ftS_FV {w : fOm} {j : Nat} (h : FV w j) (c : w 647 10 = 0) : FV (m_ftS w) (j + 1) := by
  have h1 := h.2 c
  have hj := h.j c
  have h2 := ts_IV (c := 59) (by decide) h1
  have hj2 : j + 1 < 28 := by omega
  by_cases c2 : m_ts w 59 647 10 = 0
  · have e : m_ftS w = m_to (m_ts w 59) := if_pos c2
    rw [e]
    generalize m_ts w 59 = w8 at h2 c2
    have k := to_IV h2 c2 hj2
    generalize m_to w8 = w9 at k
    by_cases c3 : w9 647 10 = 0
    · rw [if_pos c3] at k
      have k2 : IV w9 (j + 1 + 1) (3 * (j + 1) + 2) := k.le (by omega)
      exact ⟨⟨_, _, k2⟩, fun _ => k2⟩
    · rw [if_neg c3] at k
      exact ⟨⟨_, _, k⟩, fun q => absurd q c3⟩
  · have e : m_ftS w = m_ts w 59 := if_neg c2
    rw [e]
    exact ⟨⟨_, _, h2⟩, fun q => absurd q c2⟩
/-- carrying out -/
theorem tF_M {ω : fOm} {d v : Int32} : Mod aS ω (m_tF ω d v 0).2 := by
  have e : m_kIf ω 0 = ω := if_pos rfl
  unfold m_tF
  rw [e]
  split
  · exact Mod.rf
  · split
    · split
      · exact Mod.rf
      · split
        · exact Mod.rf
        · exact Mod.wu (Mod.wu Mod.rf rfl) rfl
    · exact Mod.rf
theorem tF_W {ω : fOm} {d v : Int32} (hW : MW (ω 648)) : MW ((m_tF ω d v 0).2 648) := by
  have e : m_kIf ω 0 = ω := if_pos rfl
  unfold m_tF
  rw [e]
  split
  · exact hW
  · rename_i c
    have hd := isD_rg hW c
    split
    · rename_i c2
      split
      · exact hW
      · split
        · exact hW
        · rename_i c5
          have h5 := hW.D5 hd (Or.inr c2)
          have hx := w_9 h5 c5
          have h6 := n12 h5 c5
          have k1 : KPw ω (wu ω 648 (iD d (7 + ω 648 (iD d 5))) v) := by
            obtain ⟨n, hn, en⟩ := rgN (n := 11) h6 rfl
            rw [en]
            have hw := pi_w (j := n)
            rcases Nat.lt_or_ge n 11 with z | z
            · exact KPw.wu KP.rf (ck_Dw hd (hw z).2.2.1 (hw z).2.2.2)
            · have : n = 11 := by omega
              subst this
              exact KPw.wu KP.rf (ck_Dw hd (by decide) (by decide))
          have e5 : wu ω 648 (iD d (7 + ω 648 (iD d 5))) v 648 (iD d 5) = ω 648 (iD d 5) := k1 _ (ck_D5 hd).2
          refine MW.st (k1.mw hW) hd (fun _ => ?_)
          rw [e5]
          obtain ⟨n, hn, en⟩ := rgN (n := 11) h6 rfl
          rw [en, nI_1]
          exact ⟨nI_pos' (by omega), nI_le (b := 12) (by omega) (by decide)⟩
    · exact hW
theorem tT_M {ω : fOm} {j m : Int32} : Mod aS ω (m_tT ω j m 0).2 := by
  have e : m_kIf ω 0 = ω := if_pos rfl
  unfold m_tT
  rw [e]
  split
  · exact Mod.rf
  · split
    · exact Mod.rf
    · exact Mod.wu Mod.rf rfl
theorem tT_W {ω : fOm} {j m : Int32} (hW : MW (ω 648)) : MW ((m_tT ω j m 0).2 648) := by
  have e : m_kIf ω 0 = ω := if_pos rfl
  unfold m_tT
  rw [e]
  split
  · exact hW
  · rename_i c
    split
    · exact hW
    · exact hW.p (KPw.wu (ω := ω) KP.rf (ck_Jw (isJ_rg hW c) (by decide)))
theorem tL_M {ω : fOm} {l p v : Int32} : Mod aS ω (m_tL ω l p v 0).2 := by
  have e : m_kIf ω 0 = ω := if_pos rfl
  unfold m_tL
  rw [e]
  split
  · exact Mod.rf
  · split
    · exact Mod.rf
    · split
      · exact shine_M
      · exact Mod.rf
theorem tL_W {ω : fOm} {l p v : Int32} (hW : MW (ω 648)) : MW ((m_tL ω l p v 0).2 648) := by
  have e : m_kIf ω 0 = ω := if_pos rfl
  unfold m_tL
  rw [e]
  split
  · exact hW
  · rename_i c
    have hp := isP_rg hW c
    split
    · exact hW
    · split
      · exact (shine_K KP.rf hp.1 (mc_rg hp.1 hp.2)).mw hW
      · exact hW
theorem tK_M {ω : fOm} {t : Int32} : Mod aS ω (m_tK ω t 0).2 := by
  have e : m_kIf ω 0 = ω := if_pos rfl
  unfold m_tK
  rw [e]
  split
  · exact Mod.rf
  · exact mpN_M _
theorem tK_W {ω : fOm} {t : Int32} (hW : MW (ω 648)) : MW ((m_tK ω t 0).2 648) := by
  have e : m_kIf ω 0 = ω := if_pos rfl
  unfold m_tK
  rw [e]
  split
  · exact hW
  · exact (pN_K hW _).2
/-- where an order's numbers stand -/
def BG (ω : fOm) (k : Nat) : Prop := ∃ b e : Nat, ω 655 k = nI b ∧ ω 655 (k + 1) = nI e ∧ b ≤ 78 ∧ e ≤ 81
def m_fN (ω : fOm) (k : Nat) : Nat := (ω 655 (k + 1)).toNatClampNeg - (ω 655 k).toNatClampNeg - 1
def m_faW (k : Nat) (ω : fOm) : Nat → fOm
  | 0 => ω
  | j + 1 => (m_tF (m_faW k ω j) (m_faW k ω j 656 (m_faW k ω j 655 k).toNatClampNeg) (m_faW k ω j 656 (ω 655 k + 1 + nI j).toNatClampNeg) 0).2
def m_faV (k : Nat) (ω : fOm) : Nat → Int32
  | 0 => 0
  | j + 1 => (m_tF (m_faW k ω j) (m_faW k ω j 656 (m_faW k ω j 655 k).toNatClampNeg) (m_faW k ω j 656 (ω 655 k + 1 + nI j).toNatClampNeg) 0).1
def m_faF (k : Nat) (ω : fOm) : Nat → Nat → Nat
  | 0, j => j
  | n + 1, j => if m_faV k ω j < 0 then j else m_faF k ω n (j + 1)
theorem mfaF_s {k : Nat} {ω : fOm} {n j : Nat} : m_faF k ω (n + 1) j = if m_faV k ω j < 0 then j else m_faF k ω n (j + 1) := rfl
def m_faN (ω : fOm) (k : Nat) : Nat := m_faF k ω (m_fN ω k) 0
theorem mfa_a {ω : fOm} {k j : Nat} (hP : m_faN ω k = m_faF k ω (m_fN ω k - j) j) (h : j = m_fN ω k) : m_faN ω k = j := by
  rw [hP, show m_fN ω k - j = 0 by omega]
  rfl
theorem mfa_b {ω : fOm} {k j : Nat} (hP : m_faN ω k = m_faF k ω (m_fN ω k - j) j) (h : j < m_fN ω k) (c : m_faV k ω j < 0) : m_faN ω k = j := by rw [hP, sub_s h, mfaF_s, if_pos c]
theorem mfa_c {ω : fOm} {k j : Nat} (hP : m_faN ω k = m_faF k ω (m_fN ω k - j) j) (h : j < m_fN ω k) (c : ¬ m_faV k ω j < 0) : m_faN ω k = m_faF k ω (m_fN ω k - (j + 1)) (j + 1) := by rw [hP, sub_s h, mfaF_s, if_neg c]
def m_fa (ω : fOm) (k : Nat) : Int32 × fOm := (m_faV k ω (m_faN ω k), m_faW k ω (m_faN ω k))
theorem faW_M {k : Nat} {ω : fOm} (j : Nat) : Mod aS ω (m_faW k ω j) := by
  induction j with
  | zero => exact Mod.rf
  | succ j ih => exact ih.tr tF_M
theorem faW_W {k : Nat} {ω : fOm} (hW : MW (ω 648)) (j : Nat) : MW (m_faW k ω j 648) := by
  induction j with
  | zero => exact hW
  | succ j ih => exact tF_W ih
theorem ne648 {q : Nat} (h : q ≠ 648 := by decide) : ¬ aS q := h
theorem fN_ge {ω w : fOm} {k j : Nat} (hB : BG ω k) (e1 : w 655 = ω 655) (c : w 655 (k + 1) ≤ ω 655 k + 1 + nI j) (hj : j ≤ m_fN ω k) : j = m_fN ω k := by
  obtain ⟨b, e, h1, h2, h3, h4⟩ := hB
  unfold m_fN at hj ⊢
  rw [e1, h2, h1, nI_1, nI_add] at c
  rw [h1, h2, nI_clamp (by omega), nI_clamp (by omega)] at hj ⊢
  have h5 := Int32.le_iff_toInt_le.mp c
  rw [nI_toInt (by omega), nI_toInt (by omega)] at h5
  omega
theorem fN_lt {ω w : fOm} {k j : Nat} (hB : BG ω k) (e1 : w 655 = ω 655) (c : ¬ w 655 (k + 1) ≤ ω 655 k + 1 + nI j) (hj : j ≤ m_fN ω k) : j < m_fN ω k := by
  obtain ⟨b, e, h1, h2, h3, h4⟩ := hB
  unfold m_fN at hj ⊢
  rw [e1, h2, h1, nI_1, nI_add] at c
  rw [h1, h2, nI_clamp (by omega), nI_clamp (by omega)] at hj ⊢
  have h5 := Int32.lt_iff_toInt_lt.mp (Int32.not_le.mp c)
  rw [nI_toInt (by omega), nI_toInt (by omega)] at h5
  omega
theorem fN_ix {ω : fOm} {k j : Nat} (hB : BG ω k) (h : j < m_fN ω k) : vp_in (ω 655 k) 81 ∧ vp_in (ω 655 k + 1 + nI j) 81 := by
  obtain ⟨b, e, h1, h2, h3, h4⟩ := hB
  unfold m_fN at h
  rw [h1, h2, nI_clamp (by omega), nI_clamp (by omega)] at h
  rw [h1, nI_1, nI_add]
  exact ⟨vp_n (by omega) (by decide), vp_n (by omega) (by decide)⟩
theorem BG.ix {ω : fOm} {k : Nat} (hB : BG ω k) : vp_in (ω 655 k) 81 ∧ vp_in (ω 655 k + 1) 81 ∧ vp_in (ω 655 k + 2) 81 := by
  obtain ⟨b, e, h1, h2, h3, h4⟩ := hB
  rw [h1, nI_1, nI_2]
  exact ⟨vp_n (by omega) (by decide), vp_n (by omega) (by decide), vp_n (by omega) (by decide)⟩
def m_nu (ω : fOm) (i : Int32) : Int32 := ω 656 i.toNatClampNeg
def m_car (ω : fOm) (k : Nat) : Int32 × fOm := if ω 654 k = 102 then m_fa ω k else if ω 654 k = 106 then m_tT ω (m_nu ω (ω 655 k)) (m_nu ω (ω 655 k + 1)) 0 else if ω 654 k = 108 then m_tL ω (m_nu ω (ω 655 k)) (m_nu ω (ω 655 k + 1)) (m_nu ω (ω 655 k + 2)) 0 else m_tK ω (m_nu ω (ω 655 k)) 0
theorem car_M {ω : fOm} {k : Nat} : Mod aS ω (m_car ω k).2 := by
  unfold m_car
  split
  · exact faW_M _
  · split
    · exact tT_M
    · split
      · exact tL_M
      · exact tK_M
theorem car_W {ω : fOm} {k : Nat} (hW : MW (ω 648)) : MW ((m_car ω k).2 648) := by
  unfold m_car
  split
  · exact faW_W hW _
  · split
    · exact tT_W hW
    · split
      · exact tL_W hW
      · exact tK_W hW
def m_coI (w : fOm) : Nat → fOm
  | 0 => w
  | j + 1 => (m_car (m_coI w j) j).2
def m_coF (w : fOm) : Nat → Nat → Nat
  | 0, j => j
  | n + 1, j => if (m_car (m_coI w j) j).1 < 0 then j else m_coF w n (j + 1)
theorem mcoF_s {w : fOm} {n j : Nat} : m_coF w (n + 1) j = if (m_car (m_coI w j) j).1 < 0 then j else m_coF w n (j + 1) := rfl
def m_coO (w : fOm) : Nat := (w 647 11).toNatClampNeg
def m_coN (w : fOm) : Nat := m_coF w (m_coO w) 0
theorem mco_a {w : fOm} {j : Nat} (hP : m_coN w = m_coF w (m_coO w - j) j) (h : j = m_coO w) : m_coN w = j := by
  rw [hP, show m_coO w - j = 0 by omega]
  rfl
theorem mco_b {w : fOm} {j : Nat} (hP : m_coN w = m_coF w (m_coO w - j) j) (h : j < m_coO w) (c : (m_car (m_coI w j) j).1 < 0) : m_coN w = j := by rw [hP, sub_s h, mcoF_s, if_pos c]
theorem mco_c {w : fOm} {j : Nat} (hP : m_coN w = m_coF w (m_coO w - j) j) (h : j < m_coO w) (c : ¬ (m_car (m_coI w j) j).1 < 0) : m_coN w = m_coF w (m_coO w - (j + 1)) (j + 1) := by rw [hP, sub_s h, mcoF_s, if_neg c]
theorem coI_M {w : fOm} (j : Nat) : Mod aS w (m_coI w j) := by
  induction j with
  | zero => exact Mod.rf
  | succ j ih => exact ih.tr car_M
theorem coI_W {w : fOm} (hW : MW (w 648)) (j : Nat) : MW (m_coI w j 648) := by
  induction j with
  | zero => exact hW
  | succ j ih => exact car_W ih
def m_coE (w : fOm) : fOm := if m_coN w < m_coO w then m_coI w (m_coN w + 1) else m_coI w (m_coN w)
def m_co0 (ω : fOm) : fOm := m_keep (m_ft ω)
def m_carryR (ω : fOm) : Int32 := if m_ftR ω < 0 then nI (m_coN (m_co0 ω)) else (-3)
def m_carryW (ω : fOm) : fOm := if m_ftR ω < 0 then wu (m_coE (m_co0 ω)) 647 8 0 else m_ft ω
/-- what the parser leaves as it is -/
def FS (S : Nat → Prop) (ω w : fOm) : Prop := (∀ q, q ≠ 647 → ¬ S q → w q = ω q) ∧ ∀ i, i < 9 ∨ 12 < i → w 647 i = ω 647 i
theorem FS.rf {S : Nat → Prop} {ω : fOm} : FS S ω ω := ⟨fun _ _ _ => rfl, fun _ _ => rfl⟩
theorem FS.tr {S : Nat → Prop} {a b c : fOm} (h : FS S a b) (h2 : FS S b c) : FS S a c := ⟨fun q x y => (h2.1 q x y).trans (h.1 q x y), fun i x => (h2.2 i x).trans (h.2 i x)⟩
theorem FS.mo {S S2 : Nat → Prop} {a b : fOm} (h : FS S a b) (hs : ∀ q, S q → S2 q) : FS S2 a b := ⟨fun q x y => h.1 q x (fun z => y (hs q z)), h.2⟩
theorem FS.wI {S : Nat → Prop} {a b : fOm} {i : Nat} {v : Int32} (h : FS S a b) (h9 : 9 ≤ i ∧ i ≤ 12) : FS S a (wu b 647 i v) := ⟨fun q x y => (wu_ne x).trans (h.1 q x y), fun j hj => by rw [wu_i, if_neg (by omega)]; exact h.2 j hj⟩
theorem FS.wS {S : Nat → Prop} {a b : fOm} {k i : Nat} {v : Int32} (h : FS S a b) (hk : S k) (h6 : k ≠ 647) : FS S a (wu b k i v) := ⟨fun q x y => (wu_ne (fun e => y (by rw [e]; exact hk))).trans (h.1 q x y), fun j hj => by rw [wu_ne (Ne.symm h6)]; exact h.2 j hj⟩
abbrev pS : Nat → Prop := fun q => q = 656
abbrev oS : Nat → Prop := fun q => q = 654 ∨ q = 655 ∨ q = 656
theorem ts_F {S : Nat → Prop} {ω : fOm} {c : Int32} : FS S ω (m_ts ω c) := FS.wI (FS.wI FS.rf (by omega)) (by omega)
theorem tnS_F {S : Nat → Prop} {p : f1w} : FS S p.2 (m_tnS p).2 := FS.wI (FS.wI FS.rf (by omega)) (by omega)
theorem tnF_F {S : Nat → Prop} (n : Nat) : ∀ p : f1w, FS S p.2 (m_tnF n p).2 := by
  induction n with
  | zero => exact fun p => FS.rf
  | succ n ih =>
    intro p
    rw [tnF_s]
    split
    · split
      · exact FS.rf
      · split
        · exact FS.rf
        · exact tnS_F.tr (ih _)
    · exact FS.rf
theorem tn1_F {S : Nat → Prop} {ω : fOm} : FS S ω (m_tn1 ω) := FS.wI FS.rf (by omega)
theorem tn_F {ω : fOm} : FS pS ω (m_tn ω) := by
  unfold m_tn
  split
  · exact FS.tr (FS.tr (FS.wI tn1_F (by omega)) (tnF_F 81 (m_tn2 (m_tn1 ω)))) (FS.wI (FS.wS FS.rf rfl (by decide)) (by omega))
  · exact tn1_F
theorem tm_F {ω : fOm} : FS pS ω (m_tm ω) := by
  have h1 : FS pS ω (m_tm1 ω) := FS.wI FS.rf (by omega)
  unfold m_tm
  split
  · exact FS.wI (FS.wI (FS.wS h1 rfl (by decide)) (by omega)) (by omega)
  · exact h1
theorem tlF_F (n : Nat) : ∀ w : fOm, FS pS w (m_tlF n w) := by
  induction n with
  | zero => exact fun w => FS.rf
  | succ n ih =>
    intro w
    rw [tlFm_s]
    split
    · split
      · exact ((FS.wI FS.rf (by omega)).tr tn_F).tr (ih _)
      · exact FS.rf
    · exact FS.rf
theorem toB_F {c : Int32} {w : fOm} : FS pS w (m_toB c w) := by
  unfold m_toB
  split
  · exact ((tn_F.tr ts_F).tr tn_F).tr (tlF_F 81 _)
  · split
    · exact (tn_F.tr ts_F).tr tm_F
    · split
      · exact (((tn_F.tr ts_F).tr tn_F).tr ts_F).tr tn_F
      · split
        · exact tn_F
        · exact FS.wI (FS.wI FS.rf (by omega)) (by omega)
theorem to_F {ω : fOm} : FS oS ω (m_to ω) := by
  have h0 : FS oS ω (m_to0 ω) := FS.wS (FS.wI FS.rf (by omega)) (Or.inr (Or.inl rfl)) (by decide)
  have h1 : FS oS ω (m_toB (m_nx ω) (m_to0 ω)) := h0.tr (toB_F.mo (fun q h => Or.inr (Or.inr h)))
  unfold m_to m_toE
  split
  · exact FS.wS (FS.wI (FS.wS h1 (Or.inl rfl) (by decide)) (by omega)) (Or.inr (Or.inl rfl)) (by decide)
  · exact h1
theorem ftS_F {w : fOm} : FS oS w (m_ftS w) := by
  unfold m_ftS
  split
  · exact ts_F.tr to_F
  · exact ts_F
theorem ftF_F (n : Nat) : ∀ w : fOm, FS oS w (m_ftF n w) := by
  induction n with
  | zero => exact fun w => FS.rf
  | succ n ih =>
    intro w
    rw [ftF_s]
    split
    · split
      · exact FS.rf
      · exact ftS_F.tr (ih _)
    · exact FS.rf
theorem ft_F {ω : fOm} : FS oS ω (m_ft ω) := ((FS.wI (FS.wI (FS.wI (FS.wI FS.rf (by omega)) (by omega)) (by omega)) (by omega)).tr to_F).tr (ftF_F 81 _)
theorem ft_648 {ω : fOm} : m_ft ω 648 = ω 648 := ft_F.1 648 (by decide) (by decide)
theorem ft_MK {ω : fOm} (h : MK ω) : MK (m_ft ω) := by
  unfold MK
  rw [ft_F.2 2 (by omega), ft_F.2 3 (by omega)]
  exact h
theorem to_BG {ω : fOm} {o a : Nat} (h : IV ω o a) (c0 : ω 647 10 = 0) (ho : o < 28) (hB : ∀ k, k < o → BG ω k) (hn : m_to ω 647 10 = 0) : ∀ k, k < o + 1 → BG (m_to ω) k := by
  obtain ⟨g0, -, s, m, r, g1, g2, g3, g4, g5, g6, g7⟩ := id h
  have hT := to_IV h c0 ho
  rw [if_pos hn] at hT
  obtain ⟨t0, -, s', m', r', t1, t2, t3, t4, t5, t6, t7⟩ := hT
  have hw : m_toB (m_nx ω) (m_to0 ω) 647 10 = 0 := by
    by_cases hw : m_toB (m_nx ω) (m_to0 ω) 647 10 = 0
    · exact hw
    · have e : m_to ω = m_toB (m_nx ω) (m_to0 ω) := if_neg hw
      rw [e] at hn
      exact hn
  have hBI := (toB_IV (h.le (b := 0) (Nat.zero_le _)) c0)
  obtain ⟨u0, -, su, mu, ru, u1, u2, u3, u4, u5, u6, u7⟩ := hBI.1
  have hs : r ≤ 78 := by
    -- two signs at least are read
    have hx : IV ω o s := ⟨g0, by omega, s, m, r, g1, g2, g3, g4, g5, g6, fun _ => Nat.le_refl _⟩
    have := ((toB_IV hx c0).2 hw).al hw
    omega
  have e655 : m_toB (m_nx ω) (m_to0 ω) 655 = upd (ω 655) o (nI r) := by
    rw [toB_F.1 655 (by decide) (by decide)]
    unfold m_to0
    try dsimp only
    have z : ∀ (w : fOm) (j : Nat) (v : Int32), wu w 655 j v 655 = upd (w 655) j v := fun w j v => by unfold wu; rw [if_pos rfl]
    rw [z, wu_ne (by decide), wu_i, if_neg (by decide), wu_i, if_neg (by decide), g0, g3, nI_clamp (by omega)]
  have e11 : m_toB (m_nx ω) (m_to0 ω) 647 11 = nI o := u0
  have f655 : m_to ω 655 = upd (upd (ω 655) o (nI r)) (o + 1) (nI ru) := by
    unfold m_to m_toE
    rw [if_pos hw]
    try dsimp only
    have z : ∀ (w : fOm) (j : Nat) (v : Int32), wu w 655 j v 655 = upd (w 655) j v := fun w j v => by unfold wu; rw [if_pos rfl]
    rw [z, wu_ne (by decide), wu_ne (by decide), e655, wu_i, if_pos rfl, wu_i, if_neg (by decide), wu_ne (by decide), e11, u3, nI_1, nI_clamp (by omega)]
  intro k hk
  unfold BG
  rw [f655]
  unfold upd
  rcases Nat.lt_or_ge k o with q | q
  · obtain ⟨b, e, h1, h2, h3, h4⟩ := hB k q
    by_cases hko : k + 1 = o
    · refine ⟨b, r, ?_, ?_, h3, by omega⟩
      · rw [if_neg (by omega), if_neg (by omega)]; exact h1
      · rw [if_neg (by omega), if_pos hko]
    · refine ⟨b, e, ?_, ?_, h3, h4⟩
      · rw [if_neg (by omega), if_neg (by omega)]; exact h1
      · rw [if_neg (by omega), if_neg hko]; exact h2
  · have hko : k = o := by omega
    subst hko
    refine ⟨r, ru, ?_, ?_, hs, by omega⟩
    · rw [if_neg (by omega), if_pos rfl]
    · rw [if_pos rfl]
def FB (w : fOm) (j : Nat) : Prop := w 647 10 = 0 → ∀ k, k < j + 1 → BG w k
theorem ft1_FB {ω : fOm} (h : 0 ≤ ω 647 8 ∧ ω 647 8 ≤ 80) : FB (m_ft1 ω) 0 := fun q => to_BG (ft0_IV h) ft0_10 (by omega) (fun k hk => absurd hk (by omega)) q
theorem ftS_FB {w : fOm} {j : Nat} (hV : FV w j) (h : FB w j) (c : w 647 10 = 0) : FB (m_ftS w) (j + 1) := by
  have h1 := hV.2 c
  have hj := hV.j c
  have h2 := ts_IV (c := 59) (by decide) h1
  unfold m_ftS
  split
  · rename_i c2
    intro q
    refine to_BG h2 c2 (by omega) (fun k hk => ?_) q
    have := h c k hk
    unfold BG at this ⊢
    rw [(ts_F (S := pS) (ω := w) (c := 59)).1 655 (by decide) (by decide)]
    exact this
  · rename_i c2
    exact fun q => absurd q c2
theorem ftF_VB (n : Nat) : ∀ (w : fOm) (j : Nat), FV w j → FB w j → ∃ i, FV (m_ftF n w) i ∧ FB (m_ftF n w) i := by
  induction n with
  | zero => exact fun w j h h2 => ⟨j, h, h2⟩
  | succ n ih =>
    intro w j h h2
    rw [ftF_s]
    split
    · rename_i c
      split
      · exact ⟨j, h, h2⟩
      · exact ih _ _ (ftS_FV h c) (ftS_FB h h2 c)
    · exact ⟨j, h, h2⟩
theorem ft_VB {ω : fOm} (h : 0 ≤ ω 647 8 ∧ ω 647 8 ≤ 80) : ∃ i, FV (m_ft ω) i ∧ FB (m_ft ω) i := ftF_VB 81 _ 0 (ft1_FV h) (ft1_FB h)
theorem ftR_10 {ω : fOm} (h : 0 ≤ ω 647 8 ∧ ω 647 8 ≤ 80) (c : ¬ 0 ≤ m_ftR ω) : m_ft ω 647 10 = 0 := by
  by_cases q : m_ft ω 647 10 = 0
  · exact q
  · exfalso
    apply c
    unfold m_ftR
    rw [if_neg q]
    obtain ⟨i, ⟨⟨o, a, hv⟩, -⟩, -⟩ := ft_VB h
    exact hv.nx.1
theorem keep_i {ω : fOm} {i : Nat} (h : i ≠ 2 ∧ i ≠ 3) : m_keep ω 647 i = ω 647 i := by
  unfold m_keep
  rw [wu_i, if_neg h.2, kpL_ne (by decide)]
  unfold m_kp0
  split
  · rw [wu_i, if_neg h.2, wu_i, if_neg h.1]
  · rfl
theorem keep_q {ω : fOm} {q : Nat} (h : q ≠ 647 ∧ q ≠ 649) : m_keep ω q = ω q := by
  unfold m_keep
  rw [wu_ne h.1, kpL_ne h.2, kp0_648 h.1]
/-- orders there are -/
theorem co_O {ω : fOm} (h : 0 ≤ ω 647 8 ∧ ω 647 8 ≤ 80) (c : ¬ 0 ≤ m_ftR ω) : ∃ n : Nat, n ≤ 27 ∧ m_co0 ω 647 11 = nI n ∧ m_coO (m_co0 ω) = n ∧ ∀ k, k < n → BG (m_co0 ω) k := by
  have c0 := ftR_10 h c
  obtain ⟨i, hV, hB⟩ := ft_VB h
  have hi := hV.j c0
  obtain ⟨g0, -⟩ := hV.2 c0
  have e : m_co0 ω 647 11 = nI (i + 1) := by
    unfold m_co0
    rw [keep_i (by decide)]
    exact g0
  refine ⟨i + 1, by omega, e, by unfold m_coO; rw [e, nI_clamp (by omega)], fun k hk => ?_⟩
  have := hB c0 k hk
  unfold BG at this ⊢
  unfold m_co0
  rw [keep_q (by decide)]
  exact this
theorem BG.mod {a b : fOm} {k : Nat} (h : BG a k) (m : Mod aS a b) : BG b k := by
  unfold BG at h ⊢
  rw [m 655 (by decide)]
  exact h
theorem MK.mod {a b : fOm} (h : MK a) (m : Mod aS a b) : MK b := by
  unfold MK at h ⊢
  rw [m 647 (by decide)]
  exact h
theorem tn_fin {ω : fOm} {p : f1w} (c : m_tn1 ω 647 10 = 0) (h : m_tnR (m_tn1 ω) = p) : m_tn ω = m_tnE p := by
  subst h
  exact if_pos c
theorem tn1_nx {ω : fOm} (h : ∃ o a, IV ω o a) : 0 ≤ m_tn1 ω 647 9 ∧ m_tn1 ω 647 8 ≤ 80 := by
  obtain ⟨o, a, h⟩ := h
  have := h.nx
  have e9 : m_tn1 ω 647 9 = ω 647 9 := by simp [m_tn1, wu_i]
  have e8 : m_tn1 ω 647 8 = ω 647 8 := by simp [m_tn1, wu_i]
  rw [e9, e8]
  exact this
theorem nxw {w : fOm} {v : Int32} (h : 0 ≤ w 647 9 ∧ w 647 8 ≤ 80) : 0 ≤ wu w 647 10 v 647 9 ∧ wu w 647 10 v 647 8 ≤ 80 := by
  rw [wu_i, wu_i, if_neg (by decide), if_neg (by decide)]
  exact h
theorem tnS_NVk {ω : fOm} {p : f1w} {o a b : Nat} (k : IV ω o a) (h : NV ω p.2 b) (c0 : p.2 647 10 = 0) (c : ¬ f_btw (m_nx p.2) 48 57 = 0) : NV ω (m_tnS p).2 (b + 1) := by
  obtain ⟨-, -, s, m, r, h1, h2, h3, h4, h5, h6, h7⟩ := k
  exact tnS_NV h2 h5 h c0 c
theorem tm1_i {ω : fOm} {i : Nat} (h : i ≠ 10) : m_tm1 ω 647 i = ω 647 i := by
  unfold m_tm1
  rw [wu_i, if_neg h]
theorem tm1_nx {ω : fOm} (h : ∃ o a, IV ω o a) : 0 ≤ m_tm1 ω 647 9 ∧ m_tm1 ω 647 8 ≤ 80 := by
  obtain ⟨o, a, h⟩ := h
  rw [tm1_i (by decide), tm1_i (by decide)]
  exact h.nx
theorem tm1_rd {ω : fOm} (h : ∃ o a, IV ω o a) : vp_in (m_tm1 ω 647 12) 81 := by
  obtain ⟨o, a, h⟩ := h
  rw [tm1_i (by decide)]
  exact h.rd
theorem od1 {ω : fOm} {v : Int32} (h : ∃ o a, IV ω o a ∧ o < 28) : vp_in (wu ω 647 9 v 647 11) 30 := by
  obtain ⟨o, a, h, -⟩ := h
  rw [wu_i, if_neg (by decide)]
  exact h.od.1
theorem od2 {w : fOm} {k i : Nat} {v u : Int32} (h : ∃ o a, IV w o a) : vp_in (wu (wu w 654 i v) 647 11 (wu w 654 i v 647 11 + 1) 647 11) 30 := by
  obtain ⟨o, a, h⟩ := h
  rw [wu_i, if_pos rfl, wu_ne (by decide)]
  exact h.od.2.2
theorem od3 {w : fOm} (h : ∃ o a, IV w o a) : vp_in (w 647 11) 29 := by
  obtain ⟨o, a, h⟩ := h
  exact h.od.2.1
theorem toB_f {ω w : fOm} (c : m_nx ω = 102) (h : m_tl (m_tn (m_ts (m_tn (m_to0 ω)) 58)) = w) : m_toB (m_nx ω) (m_to0 ω) = w := by
  unfold m_toB
  rw [if_pos c]
  exact h
theorem toB_j {ω : fOm} (c1 : ¬ m_nx ω = 102) (c : m_nx ω = 106) : m_toB (m_nx ω) (m_to0 ω) = m_tm (m_ts (m_tn (m_to0 ω)) 61) := by
  unfold m_toB
  rw [if_neg c1, if_pos c]
theorem toB_l {ω : fOm} (c1 : ¬ m_nx ω = 102) (c2 : ¬ m_nx ω = 106) (c : m_nx ω = 108) : m_toB (m_nx ω) (m_to0 ω) = m_tn (m_ts (m_tn (m_ts (m_tn (m_to0 ω)) 58)) 61) := by
  unfold m_toB
  rw [if_neg c1, if_neg c2, if_pos c]
theorem toB_t {ω : fOm} (c1 : ¬ m_nx ω = 102) (c2 : ¬ m_nx ω = 106) (c3 : ¬ m_nx ω = 108) (c : m_nx ω = 116) : m_toB (m_nx ω) (m_to0 ω) = m_tn (m_to0 ω) := by
  unfold m_toB
  rw [if_neg c1, if_neg c2, if_neg c3, if_pos c]
theorem toB_x {ω : fOm} (c1 : ¬ m_nx ω = 102) (c2 : ¬ m_nx ω = 106) (c3 : ¬ m_nx ω = 108) (c : ¬ m_nx ω = 116) : m_toB (m_nx ω) (m_to0 ω) = m_toX (m_to0 ω) := by
  unfold m_toB
  rw [if_neg c1, if_neg c2, if_neg c3, if_neg c]
theorem to_ok {ω w : fOm} (hB : m_toB (m_nx ω) (m_to0 ω) = w) (hw : w 647 10 = 0) : wu (wu (wu w 654 (w 647 11).toNatClampNeg (m_nx ω)) 647 11 (wu w 654 (w 647 11).toNatClampNeg (m_nx ω) 647 11 + 1)) 655 (wu (wu w 654 (w 647 11).toNatClampNeg (m_nx ω)) 647 11 (wu w 654 (w 647 11).toNatClampNeg (m_nx ω) 647 11 + 1) 647 11).toNatClampNeg (wu (wu w 654 (w 647 11).toNatClampNeg (m_nx ω)) 647 11 (wu w 654 (w 647 11).toNatClampNeg (m_nx ω) 647 11 + 1) 647 12) = m_to ω := by
  subst hB
  unfold m_to m_toE
  rw [if_pos hw]
theorem to_wr {ω w : fOm} (hB : m_toB (m_nx ω) (m_to0 ω) = w) (hw : ¬ w 647 10 = 0) : w = m_to ω := by
  subst hB
  unfold m_to m_toE
  rw [if_neg hw]
theorem toX_IV' {ω : fOm} (h : ∃ o a, IV ω o a ∧ o < 28) : ∃ o a, IV (m_toX (m_to0 ω)) o a := by
  obtain ⟨o, a, h, -⟩ := h
  exact ⟨_, _, toX_IV h⟩
theorem lko_3 {x : Int32} {o1 o2 o3 d : Int} (h1 : ¬ x = 102) (h2 : ¬ x = 106) (h3 : ¬ x = 108) : Op.lookupswitch.offset [(102, o1), (106, o2), (108, o3)] d x.toInt = d := by
  have e1 : ¬ (102 : Int) = x.toInt := fun q => h1 (Int32.toInt_inj.mp q.symm)
  have e2 : ¬ (106 : Int) = x.toInt := fun q => h2 (Int32.toInt_inj.mp q.symm)
  have e3 : ¬ (108 : Int) = x.toInt := fun q => h3 (Int32.toInt_inj.mp q.symm)
  rw [Op.lookupswitch.offset_cons, if_neg e1, Op.lookupswitch.offset_cons, if_neg e2, Op.lookupswitch.offset_cons, if_neg e3]
  rfl
theorem lko_4 {x : Int32} {o1 o2 o3 o4 d : Int} (h1 : ¬ x = 102) (h2 : ¬ x = 106) (h3 : ¬ x = 108) (h4 : ¬ x = 116) : Op.lookupswitch.offset [(102, o1), (106, o2), (108, o3), (116, o4)] d x.toInt = d := by
  have e1 : ¬ (102 : Int) = x.toInt := fun q => h1 (Int32.toInt_inj.mp q.symm)
  have e2 : ¬ (106 : Int) = x.toInt := fun q => h2 (Int32.toInt_inj.mp q.symm)
  have e3 : ¬ (108 : Int) = x.toInt := fun q => h3 (Int32.toInt_inj.mp q.symm)
  have e4 : ¬ (116 : Int) = x.toInt := fun q => h4 (Int32.toInt_inj.mp q.symm)
  rw [Op.lookupswitch.offset_cons, if_neg e1, Op.lookupswitch.offset_cons, if_neg e2, Op.lookupswitch.offset_cons, if_neg e3, Op.lookupswitch.offset_cons, if_neg e4]
  rfl
theorem mco_0 {w : fOm} : m_coN w = m_coF w (m_coO w - 0) 0 := by
  rw [Nat.sub_zero]
  rfl
theorem mfa_0 {ω : fOm} {k : Nat} : m_faN ω k = m_faF k ω (m_fN ω k - 0) 0 := by
  rw [Nat.sub_zero]
  rfl
theorem add_0 (x : Int32) : x = x + nI 0 := by
  rw [nI_0, Int32.add_zero]
theorem add_n (x : Int32) (j : Nat) : x + nI j + 1 = x + nI (j + 1) := by
  rw [nI_succ, Int32.add_assoc]
theorem keep_MK {ω : fOm} (h : MK ω) : MK (m_keep ω) := by
  have k := kp0_rg h
  have e2 : m_keep ω 647 2 = m_kp0 ω 647 2 := by
    unfold m_keep
    rw [wu_i, if_neg (by decide), kpL_ne (by decide)]
  have e3 : m_keep ω 647 3 = m_kp0 ω 647 3 + 1 := by
    unfold m_keep
    rw [wu_i, if_pos rfl, kpL_ne (by decide)]
  obtain ⟨n, hn, e⟩ := rgN (n := 5) k.2 rfl
  unfold MK
  rw [e2, e3, e, nI_1]
  exact ⟨k.1, nI_pos' (by omega), nI_le (b := 6) (by omega) (by decide)⟩
theorem co0_648 {ω : fOm} : m_co0 ω 648 = ω 648 := keep_648.trans ft_648
theorem co_x {ω : fOm} (hp : 0 ≤ ω 647 8 ∧ ω 647 8 ≤ 80) (c : m_ftR ω < 0) : ∃ n : Nat, n ≤ 27 ∧ m_co0 ω 647 11 = nI n ∧ m_coO (m_co0 ω) = n ∧ ∀ k, k < n → BG (m_co0 ω) k := co_O hp (Int32.not_le.mpr c)
theorem co_ge {ω : fOm} {j : Nat} (hp : 0 ≤ ω 647 8 ∧ ω 647 8 ≤ 80) (c : m_ftR ω < 0) (hc : m_coI (m_co0 ω) j 647 11 ≤ nI j) (hj : j ≤ m_coO (m_co0 ω)) : j = m_coO (m_co0 ω) := by
  obtain ⟨n, hn, e, e2, -⟩ := co_x hp c
  rw [coI_M j 647 (by decide), e] at hc
  rw [e2] at hj ⊢
  exact Nat.le_antisymm hj ((nI_leI (by omega) (by omega)).mp hc)
theorem co_lt {ω : fOm} {j : Nat} (hp : 0 ≤ ω 647 8 ∧ ω 647 8 ≤ 80) (c : m_ftR ω < 0) (hc : ¬ m_coI (m_co0 ω) j 647 11 ≤ nI j) (hj : j ≤ m_coO (m_co0 ω)) : j < m_coO (m_co0 ω) := by
  obtain ⟨n, hn, e, e2, -⟩ := co_x hp c
  rw [coI_M j 647 (by decide), e] at hc
  rw [e2] at hj ⊢
  rcases Nat.lt_or_ge j n with a | a
  · exact a
  · exact absurd (nI_le a (by omega)) hc
theorem co_B {ω : fOm} {j : Nat} (hp : 0 ≤ ω 647 8 ∧ ω 647 8 ≤ 80) (c : m_ftR ω < 0) (h : j < m_coO (m_co0 ω)) : BG (m_coI (m_co0 ω) j) j ∧ j ≤ 28 := by
  obtain ⟨n, hn, e, e2, hB⟩ := co_x hp c
  rw [e2] at h
  exact ⟨(hB j h).mod (coI_M j), by omega⟩
set_option maxHeartbeats 4000000 in
set_option maxRecDepth 100000 in
theorem tX8_put (l0 : Launch) (G : fG) (F : Nat) (ω : fOm) (hI : Inv ω) (cc : Int64) (hp : 0 ≤ ω 647 8 ∧ ω 647 8 ≤ 80) : CT l0 G F yX8_put cX8_put 7 (some .int) 1 [.ref (F + 647), .long cc] ω (some (.int ((m_put ω cc).1))) ((m_put ω cc).2) := by
  refine ct_met (own := RX8) (by decide +kernel) rfl (Nat.le_of_ble_eq_true rfl) (fun X hXl hX h => ?_)
  subst hXl
  refine g_iconst (v := 0) h dX8_put_0 (by decide) ?_
  refine g_istore_n (loc2 := [(3, .int 0), (0, .ref (F + 647)), (1, .long cc)]) h dX8_put_1 (by decide) rfl ?_
  refine g_lload_n h 2 dX8_put_2 rfl ?_
  refine g_lstore (loc2 := [(4, .long cc), (3, .int 0), (0, .ref (F + 647)), (1, .long cc)]) h dX8_put_3 (by decide) rfl ?_
  have e2 : cc = m_re cc 0 := rfl
  have e3 : 0 = nI 0 := by skip; first | rfl | exact nI_0.symm | exact nI_0 | decide
  refine g_lt (ω2 := ω) (loc2 := [(4, .long (m_re cc 0)), (3, .int (nI 0)), (0, .ref (F + 647)), (1, .long cc)]) rfl (lc_l e2 (lc_i e3 rfl)) rfl ?_
  refine g_loop3 (hd := 5) (8) (fun j1 => Inv ω ∧ m_pu cc = m_puF cc (8 - j1) j1) (fun j1 => [(4, .long (m_re cc j1)), (3, .int (nI j1)), (0, .ref (F + 647)), (1, .long cc)]) (fun j1 => cel F G ω) ⟨hI, rfl⟩ (fun j1 hj7 hP5 ih6 => ?_)
  (try dsimp only)
  obtain ⟨iv8, hP1⟩ := hP5
  refine g_iload_n h 1 dX8_put_5 rfl ?_
  refine g_bipush (v := 8) h dX8_put_6 (by decide) ?_
  refine g_icmp_ge (tgt := 55) h dX8_put_8 (by decide) (fun c9 => ?_) (fun c9 => ?_)
  · have hN10 : j1 = 8 := lpc_ge (x := 8) (M := 8) rfl (by decide) c9 hj7
    refine g_iload_n h 1 dX8_put_55 rfl ?_
    refine g_if_eq (tgt := 66) h dX8_put_56 (by decide) (fun c11 => ?_) (fun c11 => ?_)
    · refine g_bipush (v := (-2)) h dX8_put_66 (by decide) ?_
      exact e_iret h iv8 dX8_put_68 (by clear ih6; skip; unfold m_put; rw [pu_a hP1 hN10]; dsimp only; first | (simp only [if_pos c9, if_pos c11]; done) | (simp only [if_pos c9, if_pos c11]; rfl)) (by clear ih6; skip; unfold m_put; rw [pu_a hP1 hN10]; dsimp only; first | (simp only [if_pos c9, if_pos c11]; done) | (simp only [if_pos c9, if_pos c11]; rfl))
    · refine g_lload h 0 dX8_put_59 rfl ?_
      refine g_lconst (v := 0) h dX8_put_61 rfl ?_
      refine g_lcmp h dX8_put_62 (g_name fun v12 hv12 => ?_)
      refine g_if_eq (tgt := 69) h dX8_put_63 (by decide) (fun c13 => ?_) (fun c13 => ?_)
      · refine g_aload_n h 2 dX8_put_69 rfl ?_
        refine q_8_padMany h rfl tw_716 dX8_put_70 (fun v14 hv14 => ?_)
        refine g_iload_n h 1 dX8_put_73 rfl ?_
        refine g_iadd h dX8_put_74 (g_name fun v15 hv15 => ?_)
        refine g_bipush (v := 80) h dX8_put_75 (by decide) ?_
        refine g_icmp_le (tgt := 83) h dX8_put_77 (by decide) (fun c16 => ?_) (fun c16 => ?_)
        · refine g_iconst (v := 0) h dX8_put_83 (by decide) ?_
          refine g_istore (loc2 := [(6, .int 0), (4, .long (m_re cc j1)), (3, .int (nI j1)), (0, .ref (F + 647)), (1, .long cc)]) h dX8_put_84 (by decide) rfl ?_
          have e18 : 0 = nI 0 := by clear ih6; replace hv12 := hv12.symm; replace hv14 := hv14.symm; replace hv15 := hv15.symm; subst hv15 hv14 hv12; first | rfl | exact nI_0.symm | exact nI_0 | decide
          have e19 : ω = m_apL cc j1 ω 0 := rfl
          refine g_lt (ω2 := m_apL cc j1 ω 0) (loc2 := [(6, .int (nI 0)), (4, .long (m_re cc j1)), (3, .int (nI j1)), (0, .ref (F + 647)), (1, .long cc)]) e19 (lc_i e18 rfl) rfl ?_
          refine g_loop3 (hd := 86) (j1) (fun j17 => Inv (m_apL cc j1 ω j17)) (fun j17 => [(6, .int (nI j17)), (4, .long (m_re cc j1)), (3, .int (nI j1)), (0, .ref (F + 647)), (1, .long cc)]) (fun j17 => cel F G (m_apL cc j1 ω j17)) (e19 ▸ iv8) (fun j17 hj22 hP20 ih21 => ?_)
          (try dsimp only)
          have iv23 := hP20
          refine g_iload h 0 dX8_put_86 rfl ?_
          refine g_iload_n h 2 dX8_put_88 rfl ?_
          refine g_icmp_ge (tgt := 126) h dX8_put_89 (by decide) (fun c24 => ?_) (fun c24 => ?_)
          · have hN25 : j17 = j1 := lpc_ge (x := nI j1) (M := j1) rfl (by have := hj7; omega) c24 hj22
            refine g_aload_n h 3 dX8_put_126 rfl ?_
            refine g_dup h dX8_put_127 rfl ?_
            refine q_8_padMany h rfl tw_716 dX8_put_128 (fun v26 hv26 => ?_)
            refine g_iload_n h 2 dX8_put_131 rfl ?_
            refine g_iadd h dX8_put_132 (g_name fun v27 hv27 => ?_)
            refine p_8_padMany h iv23 rfl tw_716 dX8_put_133 (fun w28 hw28 iw28 => ?_)
            refine g_aload_n h 3 dX8_put_136 rfl ?_
            refine q_8_padMany h rfl tw_716 dX8_put_137 (fun v29 hv29 => ?_)
            exact e_iret h iw28 dX8_put_140 (by clear ih6 ih21 iw28; replace hv12 := hv12.symm; replace hv14 := hv14.symm; replace hv15 := hv15.symm; replace hv26 := hv26.symm; replace hv27 := hv27.symm; replace hw28 := hw28.symm; replace hv29 := hv29.symm; subst hv29 hw28 hv27 hv26 hv15 hv14 hv12; unfold m_put; rw [pu_a hP1 hN10]; dsimp only; rw [hN25]; first | (simp only [if_pos c9, if_neg c11, if_pos c13, if_pos c16, if_pos c24]; done) | (simp only [if_pos c9, if_neg c11, if_pos c13, if_pos c16, if_pos c24]; rfl)) (by clear ih6 ih21 iw28; replace hv12 := hv12.symm; replace hv14 := hv14.symm; replace hv15 := hv15.symm; replace hv26 := hv26.symm; replace hv27 := hv27.symm; replace hw28 := hw28.symm; replace hv29 := hv29.symm; subst hv29 hw28 hv27 hv26 hv15 hv14 hv12; unfold m_put; rw [pu_a hP1 hN10]; dsimp only; rw [hN25]; first | (simp only [if_pos c9, if_neg c11, if_pos c13, if_pos c16, if_pos c24]; done) | (simp only [if_pos c9, if_neg c11, if_pos c13, if_pos c16, if_pos c24]; rfl))
          · have hlt30 : j17 < j1 := lpc_lt (x := nI j1) (M := j1) rfl (by have := hj7; omega) c24 hj22
            refine g_aload_n h 3 dX8_put_92 rfl ?_
            refine q_8_pad h rfl tw_715 dX8_put_93 ?_
            refine g_aload_n h 3 dX8_put_96 rfl ?_
            refine q_8_padMany h rfl tw_716 dX8_put_97 (fun v31 hv31 => ?_)
            refine g_iload h 0 dX8_put_100 rfl ?_
            refine g_iadd h dX8_put_102 (g_name fun v32 hv32 => ?_)
            refine g_lload_n h 4 dX8_put_103 rfl ?_
            refine g_bipush (v := 8) h dX8_put_104 (by decide) ?_
            refine g_iload_n h 2 dX8_put_106 rfl ?_
            refine g_iconst (v := 1) h dX8_put_107 (by decide) ?_
            refine g_isub h dX8_put_108 (g_name fun v33 hv33 => ?_)
            refine g_iload h 0 dX8_put_109 rfl ?_
            refine g_isub h dX8_put_111 (g_name fun v34 hv34 => ?_)
            refine g_imul h dX8_put_112 (g_name fun v35 hv35 => ?_)
            refine g_lshr h dX8_put_113 rfl (g_nameL fun v36 hv36 => ?_)
            refine g_ldc2 h dX8_put_114 tw_1008 ?_
            refine g_land h dX8_put_117 (g_nameL fun v37 hv37 => ?_)
            refine g_l2i h dX8_put_118 rfl (g_name fun v38 hv38 => ?_)
            refine g_is (q := 27) h iv23 rfl rfl (by decide) (by clear ih6 ih21; replace hv12 := hv12.symm; replace hv14 := hv14.symm; replace hv15 := hv15.symm; replace hv31 := hv31.symm; replace hv32 := hv32.symm; replace hv33 := hv33.symm; replace hv34 := hv34.symm; replace hv35 := hv35.symm; replace hv36 := hv36.symm; replace hv37 := hv37.symm; replace hv38 := hv38.symm; subst hv38 hv37 hv36 hv35 hv34 hv33 hv32 hv31 hv15 hv14 hv12; rw [mapL_8]; exact ix_pad hp c16 hj7 hlt30) dX8_put_119 (fun w39 hw39 iw39 => ?_)
            obtain ⟨v40, hv40⟩ : ∃ z : Int32, z = (nI j17) + 1 := ⟨_, rfl⟩
            refine g_iinc (v := v40) (loc2 := [(6, .int v40), (4, .long (m_re cc j1)), (3, .int (nI j1)), (0, .ref (F + 647)), (1, .long cc)]) h 0 dX8_put_120 rfl (by rw [hv40]; rfl) (by decide) rfl ?_
            refine g_goto (tgt := 86) h dX8_put_123 (by decide) ?_
            have e41 : v40 = nI (j17 + 1) := by clear ih6 ih21 iw39; replace hv12 := hv12.symm; replace hv14 := hv14.symm; replace hv15 := hv15.symm; replace hv31 := hv31.symm; replace hv32 := hv32.symm; replace hv33 := hv33.symm; replace hv34 := hv34.symm; replace hv35 := hv35.symm; replace hv36 := hv36.symm; replace hv37 := hv37.symm; replace hv38 := hv38.symm; replace hw39 := hw39.symm; replace hv40 := hv40.symm; subst hv40 hw39 hv38 hv37 hv36 hv35 hv34 hv33 hv32 hv31 hv15 hv14 hv12; first | rfl | exact nI_1 _ | (rw [nI_succ])
            have e42 : w39 = m_apL cc j1 ω (j17 + 1) := by clear ih6 ih21 iw39; replace hv12 := hv12.symm; replace hv14 := hv14.symm; replace hv15 := hv15.symm; replace hv31 := hv31.symm; replace hv32 := hv32.symm; replace hv33 := hv33.symm; replace hv34 := hv34.symm; replace hv35 := hv35.symm; replace hv36 := hv36.symm; replace hv37 := hv37.symm; replace hv38 := hv38.symm; replace hw39 := hw39.symm; replace hv40 := hv40.symm; subst hv40 hw39 hv38 hv37 hv36 hv35 hv34 hv33 hv32 hv31 hv15 hv14 hv12; rfl
            exact g_lt e42 (lc_i e41 rfl) rfl (ih21 hlt30 (e42 ▸ iw39))
        · refine g_bipush (v := (-4)) h dX8_put_80 (by decide) ?_
          exact e_iret h iv8 dX8_put_82 (by clear ih6; replace hv12 := hv12.symm; replace hv14 := hv14.symm; replace hv15 := hv15.symm; subst hv15 hv14 hv12; unfold m_put; rw [pu_a hP1 hN10]; dsimp only; first | (simp only [if_pos c9, if_neg c11, if_pos c13, if_neg c16]; done) | (simp only [if_pos c9, if_neg c11, if_pos c13, if_neg c16]; rfl)) (by clear ih6; replace hv12 := hv12.symm; replace hv14 := hv14.symm; replace hv15 := hv15.symm; subst hv15 hv14 hv12; unfold m_put; rw [pu_a hP1 hN10]; dsimp only; first | (simp only [if_pos c9, if_neg c11, if_pos c13, if_neg c16]; done) | (simp only [if_pos c9, if_neg c11, if_pos c13, if_neg c16]; rfl))
      · refine g_bipush (v := (-2)) h dX8_put_66 (by decide) ?_
        exact e_iret h iv8 dX8_put_68 (by clear ih6; replace hv12 := hv12.symm; subst hv12; unfold m_put; rw [pu_a hP1 hN10]; dsimp only; first | (simp only [if_pos c9, if_neg c11, if_neg c13]; done) | (simp only [if_pos c9, if_neg c11, if_neg c13]; rfl)) (by clear ih6; replace hv12 := hv12.symm; subst hv12; unfold m_put; rw [pu_a hP1 hN10]; dsimp only; first | (simp only [if_pos c9, if_neg c11, if_neg c13]; done) | (simp only [if_pos c9, if_neg c11, if_neg c13]; rfl))
  · have hlt43 : j1 < 8 := lpc_lt (x := 8) (M := 8) rfl (by decide) c9 hj7
    refine g_lload h 0 dX8_put_11 rfl ?_
    refine g_ldc2 h dX8_put_13 tw_1008 ?_
    refine g_land h dX8_put_16 (g_nameL fun v44 hv44 => ?_)
    refine g_lconst (v := 0) h dX8_put_17 rfl ?_
    refine g_lcmp h dX8_put_18 (g_name fun v45 hv45 => ?_)
    refine g_if_eq (tgt := 55) h dX8_put_19 (by decide) (fun c46 => ?_) (fun c46 => ?_)
    · refine g_iload_n h 1 dX8_put_55 rfl ?_
      refine g_if_eq (tgt := 66) h dX8_put_56 (by decide) (fun c47 => ?_) (fun c47 => ?_)
      · refine g_bipush (v := (-2)) h dX8_put_66 (by decide) ?_
        exact e_iret h iv8 dX8_put_68 (by clear ih6; replace hv44 := hv44.symm; replace hv45 := hv45.symm; subst hv45 hv44; unfold m_put; rw [pu_b hP1 hlt43 c46]; dsimp only; first | (simp only [if_neg c9, if_pos c46, if_pos c47]; done) | (simp only [if_neg c9, if_pos c46, if_pos c47]; rfl)) (by clear ih6; replace hv44 := hv44.symm; replace hv45 := hv45.symm; subst hv45 hv44; unfold m_put; rw [pu_b hP1 hlt43 c46]; dsimp only; first | (simp only [if_neg c9, if_pos c46, if_pos c47]; done) | (simp only [if_neg c9, if_pos c46, if_pos c47]; rfl))
      · refine g_lload h 0 dX8_put_59 rfl ?_
        refine g_lconst (v := 0) h dX8_put_61 rfl ?_
        refine g_lcmp h dX8_put_62 (g_name fun v48 hv48 => ?_)
        refine g_if_eq (tgt := 69) h dX8_put_63 (by decide) (fun c49 => ?_) (fun c49 => ?_)
        · refine g_aload_n h 2 dX8_put_69 rfl ?_
          refine q_8_padMany h rfl tw_716 dX8_put_70 (fun v50 hv50 => ?_)
          refine g_iload_n h 1 dX8_put_73 rfl ?_
          refine g_iadd h dX8_put_74 (g_name fun v51 hv51 => ?_)
          refine g_bipush (v := 80) h dX8_put_75 (by decide) ?_
          refine g_icmp_le (tgt := 83) h dX8_put_77 (by decide) (fun c52 => ?_) (fun c52 => ?_)
          · refine g_iconst (v := 0) h dX8_put_83 (by decide) ?_
            refine g_istore (loc2 := [(6, .int 0), (4, .long (m_re cc j1)), (3, .int (nI j1)), (0, .ref (F + 647)), (1, .long cc)]) h dX8_put_84 (by decide) rfl ?_
            have e54 : 0 = nI 0 := by clear ih6; replace hv44 := hv44.symm; replace hv45 := hv45.symm; replace hv48 := hv48.symm; replace hv50 := hv50.symm; replace hv51 := hv51.symm; subst hv51 hv50 hv48 hv45 hv44; first | rfl | exact nI_0.symm | exact nI_0 | decide
            have e55 : ω = m_apL cc j1 ω 0 := rfl
            refine g_lt (ω2 := m_apL cc j1 ω 0) (loc2 := [(6, .int (nI 0)), (4, .long (m_re cc j1)), (3, .int (nI j1)), (0, .ref (F + 647)), (1, .long cc)]) e55 (lc_i e54 rfl) rfl ?_
            refine g_loop3 (hd := 86) (j1) (fun j53 => Inv (m_apL cc j1 ω j53)) (fun j53 => [(6, .int (nI j53)), (4, .long (m_re cc j1)), (3, .int (nI j1)), (0, .ref (F + 647)), (1, .long cc)]) (fun j53 => cel F G (m_apL cc j1 ω j53)) (e55 ▸ iv8) (fun j53 hj58 hP56 ih57 => ?_)
            (try dsimp only)
            have iv59 := hP56
            refine g_iload h 0 dX8_put_86 rfl ?_
            refine g_iload_n h 2 dX8_put_88 rfl ?_
            refine g_icmp_ge (tgt := 126) h dX8_put_89 (by decide) (fun c60 => ?_) (fun c60 => ?_)
            · have hN61 : j53 = j1 := lpc_ge (x := nI j1) (M := j1) rfl (by have := hj7; omega) c60 hj58
              refine g_aload_n h 3 dX8_put_126 rfl ?_
              refine g_dup h dX8_put_127 rfl ?_
              refine q_8_padMany h rfl tw_716 dX8_put_128 (fun v62 hv62 => ?_)
              refine g_iload_n h 2 dX8_put_131 rfl ?_
              refine g_iadd h dX8_put_132 (g_name fun v63 hv63 => ?_)
              refine p_8_padMany h iv59 rfl tw_716 dX8_put_133 (fun w64 hw64 iw64 => ?_)
              refine g_aload_n h 3 dX8_put_136 rfl ?_
              refine q_8_padMany h rfl tw_716 dX8_put_137 (fun v65 hv65 => ?_)
              exact e_iret h iw64 dX8_put_140 (by clear ih6 ih57 iw64; replace hv44 := hv44.symm; replace hv45 := hv45.symm; replace hv48 := hv48.symm; replace hv50 := hv50.symm; replace hv51 := hv51.symm; replace hv62 := hv62.symm; replace hv63 := hv63.symm; replace hw64 := hw64.symm; replace hv65 := hv65.symm; subst hv65 hw64 hv63 hv62 hv51 hv50 hv48 hv45 hv44; unfold m_put; rw [pu_b hP1 hlt43 c46]; dsimp only; rw [hN61]; first | (simp only [if_neg c9, if_pos c46, if_neg c47, if_pos c49, if_pos c52, if_pos c60]; done) | (simp only [if_neg c9, if_pos c46, if_neg c47, if_pos c49, if_pos c52, if_pos c60]; rfl)) (by clear ih6 ih57 iw64; replace hv44 := hv44.symm; replace hv45 := hv45.symm; replace hv48 := hv48.symm; replace hv50 := hv50.symm; replace hv51 := hv51.symm; replace hv62 := hv62.symm; replace hv63 := hv63.symm; replace hw64 := hw64.symm; replace hv65 := hv65.symm; subst hv65 hw64 hv63 hv62 hv51 hv50 hv48 hv45 hv44; unfold m_put; rw [pu_b hP1 hlt43 c46]; dsimp only; rw [hN61]; first | (simp only [if_neg c9, if_pos c46, if_neg c47, if_pos c49, if_pos c52, if_pos c60]; done) | (simp only [if_neg c9, if_pos c46, if_neg c47, if_pos c49, if_pos c52, if_pos c60]; rfl))
            · have hlt66 : j53 < j1 := lpc_lt (x := nI j1) (M := j1) rfl (by have := hj7; omega) c60 hj58
              refine g_aload_n h 3 dX8_put_92 rfl ?_
              refine q_8_pad h rfl tw_715 dX8_put_93 ?_
              refine g_aload_n h 3 dX8_put_96 rfl ?_
              refine q_8_padMany h rfl tw_716 dX8_put_97 (fun v67 hv67 => ?_)
              refine g_iload h 0 dX8_put_100 rfl ?_
              refine g_iadd h dX8_put_102 (g_name fun v68 hv68 => ?_)
              refine g_lload_n h 4 dX8_put_103 rfl ?_
              refine g_bipush (v := 8) h dX8_put_104 (by decide) ?_
              refine g_iload_n h 2 dX8_put_106 rfl ?_
              refine g_iconst (v := 1) h dX8_put_107 (by decide) ?_
              refine g_isub h dX8_put_108 (g_name fun v69 hv69 => ?_)
              refine g_iload h 0 dX8_put_109 rfl ?_
              refine g_isub h dX8_put_111 (g_name fun v70 hv70 => ?_)
              refine g_imul h dX8_put_112 (g_name fun v71 hv71 => ?_)
              refine g_lshr h dX8_put_113 rfl (g_nameL fun v72 hv72 => ?_)
              refine g_ldc2 h dX8_put_114 tw_1008 ?_
              refine g_land h dX8_put_117 (g_nameL fun v73 hv73 => ?_)
              refine g_l2i h dX8_put_118 rfl (g_name fun v74 hv74 => ?_)
              refine g_is (q := 27) h iv59 rfl rfl (by decide) (by clear ih6 ih57; replace hv44 := hv44.symm; replace hv45 := hv45.symm; replace hv48 := hv48.symm; replace hv50 := hv50.symm; replace hv51 := hv51.symm; replace hv67 := hv67.symm; replace hv68 := hv68.symm; replace hv69 := hv69.symm; replace hv70 := hv70.symm; replace hv71 := hv71.symm; replace hv72 := hv72.symm; replace hv73 := hv73.symm; replace hv74 := hv74.symm; subst hv74 hv73 hv72 hv71 hv70 hv69 hv68 hv67 hv51 hv50 hv48 hv45 hv44; rw [mapL_8]; exact ix_pad hp c52 hj7 hlt66) dX8_put_119 (fun w75 hw75 iw75 => ?_)
              obtain ⟨v76, hv76⟩ : ∃ z : Int32, z = (nI j53) + 1 := ⟨_, rfl⟩
              refine g_iinc (v := v76) (loc2 := [(6, .int v76), (4, .long (m_re cc j1)), (3, .int (nI j1)), (0, .ref (F + 647)), (1, .long cc)]) h 0 dX8_put_120 rfl (by rw [hv76]; rfl) (by decide) rfl ?_
              refine g_goto (tgt := 86) h dX8_put_123 (by decide) ?_
              have e77 : v76 = nI (j53 + 1) := by clear ih6 ih57 iw75; replace hv44 := hv44.symm; replace hv45 := hv45.symm; replace hv48 := hv48.symm; replace hv50 := hv50.symm; replace hv51 := hv51.symm; replace hv67 := hv67.symm; replace hv68 := hv68.symm; replace hv69 := hv69.symm; replace hv70 := hv70.symm; replace hv71 := hv71.symm; replace hv72 := hv72.symm; replace hv73 := hv73.symm; replace hv74 := hv74.symm; replace hw75 := hw75.symm; replace hv76 := hv76.symm; subst hv76 hw75 hv74 hv73 hv72 hv71 hv70 hv69 hv68 hv67 hv51 hv50 hv48 hv45 hv44; first | rfl | exact nI_1 _ | (rw [nI_succ])
              have e78 : w75 = m_apL cc j1 ω (j53 + 1) := by clear ih6 ih57 iw75; replace hv44 := hv44.symm; replace hv45 := hv45.symm; replace hv48 := hv48.symm; replace hv50 := hv50.symm; replace hv51 := hv51.symm; replace hv67 := hv67.symm; replace hv68 := hv68.symm; replace hv69 := hv69.symm; replace hv70 := hv70.symm; replace hv71 := hv71.symm; replace hv72 := hv72.symm; replace hv73 := hv73.symm; replace hv74 := hv74.symm; replace hw75 := hw75.symm; replace hv76 := hv76.symm; subst hv76 hw75 hv74 hv73 hv72 hv71 hv70 hv69 hv68 hv67 hv51 hv50 hv48 hv45 hv44; rfl
              exact g_lt e78 (lc_i e77 rfl) rfl (ih57 hlt66 (e78 ▸ iw75))
          · refine g_bipush (v := (-4)) h dX8_put_80 (by decide) ?_
            exact e_iret h iv8 dX8_put_82 (by clear ih6; replace hv44 := hv44.symm; replace hv45 := hv45.symm; replace hv48 := hv48.symm; replace hv50 := hv50.symm; replace hv51 := hv51.symm; subst hv51 hv50 hv48 hv45 hv44; unfold m_put; rw [pu_b hP1 hlt43 c46]; dsimp only; first | (simp only [if_neg c9, if_pos c46, if_neg c47, if_pos c49, if_neg c52]; done) | (simp only [if_neg c9, if_pos c46, if_neg c47, if_pos c49, if_neg c52]; rfl)) (by clear ih6; replace hv44 := hv44.symm; replace hv45 := hv45.symm; replace hv48 := hv48.symm; replace hv50 := hv50.symm; replace hv51 := hv51.symm; subst hv51 hv50 hv48 hv45 hv44; unfold m_put; rw [pu_b hP1 hlt43 c46]; dsimp only; first | (simp only [if_neg c9, if_pos c46, if_neg c47, if_pos c49, if_neg c52]; done) | (simp only [if_neg c9, if_pos c46, if_neg c47, if_pos c49, if_neg c52]; rfl))
        · refine g_bipush (v := (-2)) h dX8_put_66 (by decide) ?_
          exact e_iret h iv8 dX8_put_68 (by clear ih6; replace hv44 := hv44.symm; replace hv45 := hv45.symm; replace hv48 := hv48.symm; subst hv48 hv45 hv44; unfold m_put; rw [pu_b hP1 hlt43 c46]; dsimp only; first | (simp only [if_neg c9, if_pos c46, if_neg c47, if_neg c49]; done) | (simp only [if_neg c9, if_pos c46, if_neg c47, if_neg c49]; rfl)) (by clear ih6; replace hv44 := hv44.symm; replace hv45 := hv45.symm; replace hv48 := hv48.symm; subst hv48 hv45 hv44; unfold m_put; rw [pu_b hP1 hlt43 c46]; dsimp only; first | (simp only [if_neg c9, if_pos c46, if_neg c47, if_neg c49]; done) | (simp only [if_neg c9, if_pos c46, if_neg c47, if_neg c49]; rfl))
    · refine g_lload h 0 dX8_put_22 rfl ?_
      refine g_ldc2 h dX8_put_24 tw_1008 ?_
      refine g_land h dX8_put_27 (g_nameL fun v79 hv79 => ?_)
      refine g_l2i h dX8_put_28 rfl (g_name fun v80 hv80 => ?_)
      refine g_bipush (v := 33) h dX8_put_29 (by decide) ?_
      refine g_bipush (v := 126) h dX8_put_31 (by decide) ?_
      refine k_S_i (st := []) h hX (tX8_in (xl X) G F ω iv8 v80 33 126) rfl miX8_in tw_761 (by decide) (by decide) rfl (Nat.le_of_ble_eq_true rfl) (by rw [hX]; exact Nat.zero_le _) (by rw [hX]; exact Nat.zero_le _) dX8_put_33 (fun v81 hv81 => ?_)
      refine g_if_ne (tgt := 42) h dX8_put_36 (by decide) (fun c82 => ?_) (fun c82 => ?_)
      · obtain ⟨v83, hv83⟩ : ∃ z : Int32, z = (nI j1) + 1 := ⟨_, rfl⟩
        refine g_iinc (v := v83) (loc2 := [(3, .int v83), (4, .long (m_re cc j1)), (0, .ref (F + 647)), (1, .long cc)]) h 1 dX8_put_42 rfl (by rw [hv83]; rfl) (by decide) rfl ?_
        refine g_lload h 1 dX8_put_45 rfl ?_
        refine g_bipush (v := 8) h dX8_put_47 (by decide) ?_
        refine g_lushr h dX8_put_49 rfl (g_nameL fun v84 hv84 => ?_)
        refine g_lstore (loc2 := [(4, .long v84), (3, .int v83), (0, .ref (F + 647)), (1, .long cc)]) h dX8_put_50 (by decide) rfl ?_
        refine g_goto (tgt := 5) h dX8_put_52 (by decide) ?_
        have e85 : v84 = m_re cc (j1 + 1) := by clear ih6; replace hv44 := hv44.symm; replace hv45 := hv45.symm; replace hv79 := hv79.symm; replace hv80 := hv80.symm; replace hv81 := hv81.symm; replace hv83 := hv83.symm; replace hv84 := hv84.symm; subst hv84 hv83 hv81 hv80 hv79 hv45 hv44; rfl
        have e86 : v83 = nI (j1 + 1) := by clear ih6; replace hv44 := hv44.symm; replace hv45 := hv45.symm; replace hv79 := hv79.symm; replace hv80 := hv80.symm; replace hv81 := hv81.symm; replace hv83 := hv83.symm; replace hv84 := hv84.symm; subst hv84 hv83 hv81 hv80 hv79 hv45 hv44; first | rfl | exact nI_1 _ | (rw [nI_succ])
        exact g_lt rfl (lc_l e85 (lc_i e86 rfl)) rfl (ih6 hlt43 ⟨iv8, (by clear ih6; replace hv44 := hv44.symm; replace hv45 := hv45.symm; replace hv79 := hv79.symm; replace hv80 := hv80.symm; replace hv81 := hv81.symm; replace hv83 := hv83.symm; replace hv84 := hv84.symm; subst hv84 hv83 hv81 hv80 hv79 hv45 hv44; exact pu_d hP1 hlt43 c46 c82)⟩)
      · refine g_bipush (v := (-2)) h dX8_put_39 (by decide) ?_
        exact e_iret h iv8 dX8_put_41 (by clear ih6; replace hv44 := hv44.symm; replace hv45 := hv45.symm; replace hv79 := hv79.symm; replace hv80 := hv80.symm; replace hv81 := hv81.symm; subst hv81 hv80 hv79 hv45 hv44; unfold m_put; rw [pu_c hP1 hlt43 c46 c82]) (by clear ih6; replace hv44 := hv44.symm; replace hv45 := hv45.symm; replace hv79 := hv79.symm; replace hv80 := hv80.symm; replace hv81 := hv81.symm; subst hv81 hv80 hv79 hv45 hv44; unfold m_put; rw [pu_c hP1 hlt43 c46 c82])
set_option maxHeartbeats 4000000 in
set_option maxRecDepth 100000 in
theorem tX8_next (l0 : Launch) (G : fG) (F : Nat) (ω : fOm) (hI : Inv ω) (hn : 0 ≤ ω 647 9 ∧ ω 647 8 ≤ 80) : CT l0 G F yX8_next cX8_next 1 (some .int) 0 [.ref (F + 647)] ω (some (.int (m_nx ω))) ω := by
  refine ct_met (own := RX8) (by decide +kernel) rfl (Nat.le_of_ble_eq_true rfl) (fun X hXl hX h => ?_)
  subst hXl
  refine g_aload_n h 0 dX8_next_0 rfl ?_
  refine q_8_spot h rfl tw_717 dX8_next_1 (fun v1 hv1 => ?_)
  refine g_aload_n h 0 dX8_next_4 rfl ?_
  refine q_8_padMany h rfl tw_716 dX8_next_5 (fun v2 hv2 => ?_)
  refine g_icmp_ge (tgt := 23) h dX8_next_8 (by decide) (fun c3 => ?_) (fun c3 => ?_)
  · refine g_iconst (v := 0) h dX8_next_23 (by decide) ?_
    exact e_iret h hI dX8_next_24 (by replace hv1 := hv1.symm; replace hv2 := hv2.symm; subst hv2 hv1; first | contradiction | (unfold m_nx; simp only [c3, ↓reduceIte]; done) | (unfold m_nx; simp only [c3, ↓reduceIte] <;> rfl) | rfl | (unfold m_nx; simp [c3]; done)) rfl
  · refine g_aload_n h 0 dX8_next_11 rfl ?_
    refine q_8_pad h rfl tw_715 dX8_next_12 ?_
    refine g_aload_n h 0 dX8_next_15 rfl ?_
    refine q_8_spot h rfl tw_717 dX8_next_16 (fun v4 hv4 => ?_)
    refine g_ia (q := 27) h rfl rfl (by decide) (by replace hv1 := hv1.symm; replace hv2 := hv2.symm; replace hv4 := hv4.symm; subst hv4 hv2 hv1; exact ix_nx hn c3) dX8_next_19 (fun v5 hv5 => ?_)
    refine g_goto (tgt := 24) h dX8_next_20 (by decide) ?_
    exact e_iret h hI dX8_next_24 (by replace hv1 := hv1.symm; replace hv2 := hv2.symm; replace hv4 := hv4.symm; replace hv5 := hv5.symm; subst hv5 hv4 hv2 hv1; first | contradiction | (unfold m_nx; simp only [c3, ↓reduceIte]; done) | (unfold m_nx; simp only [c3, ↓reduceIte] <;> rfl) | rfl | (unfold m_nx; simp [c3]; done)) rfl
set_option maxHeartbeats 4000000 in
set_option maxRecDepth 100000 in
theorem tX8_takeSign (l0 : Launch) (G : fG) (F : Nat) (ω : fOm) (hI : Inv ω) (c : Int32) (hV : ∃ o a, IV ω o a) : CT l0 G F yX8_takeSign cX8_takeSign 2 none 1 [.ref (F + 647), .int c] ω none (m_ts ω c) := by
  refine ct_met (own := RX8) (by decide +kernel) rfl (Nat.le_of_ble_eq_true rfl) (fun X hXl hX h => ?_)
  subst hXl
  refine g_aload_n h 0 dX8_takeSign_0 rfl ?_
  refine g_aload_n h 0 dX8_takeSign_1 rfl ?_
  refine q_8_isWrong h rfl tw_718 dX8_takeSign_2 (fun v1 hv1 => ?_)
  have hm21_9 : ∀ m8 : Int32, m8 = (if v1 = 0 then (if (m_nx ω) = c then 0 else 1) else 1) → Vg X (MQ (xb X) (fQ G F (fP F G none (m_ts ω c))) (xa X) (xs X) 0 0 (fA F)) G F 2 NC (cel F G ω) 0 0 21 [(0, .ref (F + 647)), (1, .int c)] [.int m8, .ref (F + 647)] := by
    intro m8 hm8
    refine p_8_isWrong h hI rfl (by replace hv1 := hv1.symm; replace hm8 := hm8.symm; subst hm8 hv1; exact nz (if01 (if01 z01 o01) o01)) (by replace hv1 := hv1.symm; replace hm8 := hm8.symm; subst hm8 hv1; exact nzf (if01 (if01 z01 o01) o01)) tw_718 dX8_takeSign_21 (fun w10 hw10 iw10 => ?_)
    refine g_aload_n h 0 dX8_takeSign_24 rfl ?_
    refine g_dup h dX8_takeSign_25 rfl ?_
    refine q_8_spot h rfl tw_717 dX8_takeSign_26 (fun v11 hv11 => ?_)
    refine g_aload_n h 0 dX8_takeSign_29 rfl ?_
    refine q_8_isWrong h rfl tw_718 dX8_takeSign_30 (fun v12 hv12 => ?_)
    refine g_if_eq (tgt := 40) h dX8_takeSign_33 (by decide) (fun c13 => ?_) (fun c13 => ?_)
    · refine g_iconst (v := 1) h dX8_takeSign_40 (by decide) ?_
      refine g_iadd h dX8_takeSign_41 (g_name fun v14 hv14 => ?_)
      refine p_8_spot h iw10 rfl tw_717 dX8_takeSign_42 (fun w15 hw15 iw15 => ?_)
      exact e_vret h iw15 dX8_takeSign_45 (by clear iw10 iw15; replace hv1 := hv1.symm; replace hm8 := hm8.symm; replace hw10 := hw10.symm; replace hv11 := hv11.symm; replace hv12 := hv12.symm; replace hv14 := hv14.symm; replace hw15 := hw15.symm; subst hw15 hv14 hv12 hv11 hw10 hm8 hv1; unfold m_ts; first | (simp only [if_pos c13]; done) | (simp only [if_pos c13]; rfl))
    · refine g_iconst (v := 0) h dX8_takeSign_36 (by decide) ?_
      refine g_goto (tgt := 41) h dX8_takeSign_37 (by decide) ?_
      refine g_iadd h dX8_takeSign_41 (g_name fun v16 hv16 => ?_)
      refine p_8_spot h iw10 rfl tw_717 dX8_takeSign_42 (fun w17 hw17 iw17 => ?_)
      exact e_vret h iw17 dX8_takeSign_45 (by clear iw10 iw17; replace hv1 := hv1.symm; replace hm8 := hm8.symm; replace hw10 := hw10.symm; replace hv11 := hv11.symm; replace hv12 := hv12.symm; replace hv16 := hv16.symm; replace hw17 := hw17.symm; subst hw17 hv16 hv12 hv11 hw10 hm8 hv1; unfold m_ts; first | (simp only [if_neg c13]; done) | (simp only [if_neg c13]; rfl))
  refine g_if_ne (tgt := 16) h dX8_takeSign_5 (by decide) (fun c2 => ?_) (fun c2 => ?_)
  · refine g_iconst (v := 1) h dX8_takeSign_16 (by decide) ?_
    refine g_goto (tgt := 21) h dX8_takeSign_17 (by decide) ?_
    exact hm21_9 _ (by replace hv1 := hv1.symm; subst hv1; rw [if_neg c2])
  · refine g_aload_n h 0 dX8_takeSign_8 rfl ?_
    refine k_V_i (st := [.ref (F + 647)]) h hX (tX8_next (xl X) G F ω hI (by replace hv1 := hv1.symm; subst hv1; exact (hV.elim fun o q => q.elim fun a k => k.nx))) rfl ⟨kd_lt rfl, ob_21 rfl⟩ rfl miX8_next tw_1021 (by decide) (by decide) rfl (Nat.le_of_ble_eq_true rfl) (by rw [hX]; exact Nat.zero_le _) (by rw [hX]; exact Nat.zero_le _) dX8_takeSign_9 (fun v4 hv4 => ?_)
    refine g_iload_n h 1 dX8_takeSign_12 rfl ?_
    refine g_icmp_eq (tgt := 20) h dX8_takeSign_13 (by decide) (fun c5 => ?_) (fun c5 => ?_)
    · refine g_iconst (v := 0) h dX8_takeSign_20 (by decide) ?_
      exact hm21_9 _ (by replace hv1 := hv1.symm; replace hv4 := hv4.symm; subst hv4 hv1; rw [if_pos c2, if_pos c5])
    · refine g_iconst (v := 1) h dX8_takeSign_16 (by decide) ?_
      refine g_goto (tgt := 21) h dX8_takeSign_17 (by decide) ?_
      exact hm21_9 _ (by replace hv1 := hv1.symm; replace hv4 := hv4.symm; subst hv4 hv1; rw [if_pos c2, if_neg c5])
set_option maxHeartbeats 4000000 in
set_option maxRecDepth 100000 in
theorem tX8_takeNumber (l0 : Launch) (G : fG) (F : Nat) (ω : fOm) (hI : Inv ω) (hV : ∃ o a, IV ω o a) : CT l0 G F yX8_takeNumber cX8_takeNumber 2 none 1 [.ref (F + 647)] ω none (m_tn ω) := by
  refine ct_met (own := RX8) (by decide +kernel) rfl (Nat.le_of_ble_eq_true rfl) (fun X hXl hX h => ?_)
  subst hXl
  refine g_aload_n h 0 dX8_takeNumber_0 rfl ?_
  refine g_aload_n h 0 dX8_takeNumber_1 rfl ?_
  refine q_8_isWrong h rfl tw_718 dX8_takeNumber_2 (fun v1 hv1 => ?_)
  have hm27_10 : ∀ m9 : Int32, m9 = (if v1 = 0 then (if (f_btw (m_nx ω) 48 57) = 0 then 1 else 0) else 1) → Vg X (MQ (xb X) (fQ G F (fP F G none (m_tn ω))) (xa X) (xs X) 0 0 (fA F)) G F 2 NC (cel F G ω) 0 0 27 [(0, .ref (F + 647))] [.int m9, .ref (F + 647)] := by
    intro m9 hm9
    refine p_8_isWrong h hI rfl (by replace hv1 := hv1.symm; replace hm9 := hm9.symm; subst hm9 hv1; exact nz (if01 (if01 o01 z01) o01)) (by replace hv1 := hv1.symm; replace hm9 := hm9.symm; subst hm9 hv1; exact nzf (if01 (if01 o01 z01) o01)) tw_718 dX8_takeNumber_27 (fun w11 hw11 iw11 => ?_)
    refine g_aload_n h 0 dX8_takeNumber_30 rfl ?_
    refine q_8_isWrong h rfl tw_718 dX8_takeNumber_31 (fun v12 hv12 => ?_)
    refine g_if_eq (tgt := 38) h dX8_takeNumber_34 (by decide) (fun c13 => ?_) (fun c13 => ?_)
    · refine g_aload_n h 0 dX8_takeNumber_38 rfl ?_
      refine k_V_i (st := []) h hX (tX8_next (xl X) G F w11 iw11 (by clear iw11; replace hv1 := hv1.symm; replace hm9 := hm9.symm; replace hw11 := hw11.symm; replace hv12 := hv12.symm; subst hv12 hw11 hm9 hv1; exact tn1_nx hV)) rfl ⟨kd_lt rfl, ob_21 rfl⟩ rfl miX8_next tw_1021 (by decide) (by decide) rfl (Nat.le_of_ble_eq_true rfl) (by rw [hX]; exact Nat.zero_le _) (by rw [hX]; exact Nat.zero_le _) dX8_takeNumber_39 (fun v14 hv14 => ?_)
      refine g_bipush (v := 48) h dX8_takeNumber_42 (by decide) ?_
      refine g_isub h dX8_takeNumber_44 (g_name fun v15 hv15 => ?_)
      refine g_istore_n (loc2 := [(1, .int v15), (0, .ref (F + 647))]) h dX8_takeNumber_45 (by decide) rfl ?_
      refine g_aload_n h 1 dX8_takeNumber_46 rfl ?_
      refine g_dup h dX8_takeNumber_47 rfl ?_
      refine q_8_spot h rfl tw_717 dX8_takeNumber_48 (fun v16 hv16 => ?_)
      refine g_iconst (v := 1) h dX8_takeNumber_51 (by decide) ?_
      refine g_iadd h dX8_takeNumber_52 (g_name fun v17 hv17 => ?_)
      refine p_8_spot h iw11 rfl tw_717 dX8_takeNumber_53 (fun w18 hw18 iw18 => ?_)
      have e20 : v15 = (m_tnI (m_tn2 (m_tn1 ω)) 0).1 := by clear iw11 iw18; replace hv1 := hv1.symm; replace hm9 := hm9.symm; replace hw11 := hw11.symm; replace hv12 := hv12.symm; replace hv14 := hv14.symm; replace hv15 := hv15.symm; replace hv16 := hv16.symm; replace hv17 := hv17.symm; replace hw18 := hw18.symm; subst hw18 hv17 hv16 hv15 hv14 hv12 hw11 hm9 hv1; rfl
      have e21 : w18 = (m_tnI (m_tn2 (m_tn1 ω)) 0).2 := by clear iw11 iw18; replace hv1 := hv1.symm; replace hm9 := hm9.symm; replace hw11 := hw11.symm; replace hv12 := hv12.symm; replace hv14 := hv14.symm; replace hv15 := hv15.symm; replace hv16 := hv16.symm; replace hv17 := hv17.symm; replace hw18 := hw18.symm; subst hw18 hv17 hv16 hv15 hv14 hv12 hw11 hm9 hv1; rfl
      refine g_lt (ω2 := (m_tnI (m_tn2 (m_tn1 ω)) 0).2) (loc2 := [(1, .int ((m_tnI (m_tn2 (m_tn1 ω)) 0).1)), (0, .ref (F + 647))]) e21 (lc_i e20 rfl) rfl ?_
      refine g_loop3 (hd := 56) (81) (fun j19 => Inv ((m_tnI (m_tn2 (m_tn1 ω)) j19).2) ∧ m_tnR (m_tn1 ω) = m_tnF (81 - j19) (m_tnI (m_tn2 (m_tn1 ω)) j19) ∧ NV ω (m_tnI (m_tn2 (m_tn1 ω)) j19).2 j19) (fun j19 => [(1, .int ((m_tnI (m_tn2 (m_tn1 ω)) j19).1)), (0, .ref (F + 647))]) (fun j19 => cel F G ((m_tnI (m_tn2 (m_tn1 ω)) j19).2)) ⟨(e21 ▸ iw18), rfl, (by clear iw11 iw18; replace hv1 := hv1.symm; replace hm9 := hm9.symm; replace hw11 := hw11.symm; replace hv12 := hv12.symm; replace hv14 := hv14.symm; replace hv15 := hv15.symm; replace hv16 := hv16.symm; replace hv17 := hv17.symm; replace hw18 := hw18.symm; subst hw18 hv17 hv16 hv15 hv14 hv12 hw11 hm9 hv1; exact hV.elim fun o q => q.elim fun a k => tn2_NV k c13)⟩ (fun j19 hj24 hP22 ih23 => ?_)
      (try dsimp only)
      obtain ⟨iv25, hP1, hNV⟩ := hP22
      refine g_aload_n h 1 dX8_takeNumber_56 rfl ?_
      refine q_8_isWrong h rfl tw_718 dX8_takeNumber_57 (fun v26 hv26 => ?_)
      refine g_if_ne (tgt := 156) h dX8_takeNumber_60 (by decide) (fun c27 => ?_) (fun c27 => ?_)
      · refine g_aload_n h 1 dX8_takeNumber_156 rfl ?_
        refine q_8_numbers h rfl tw_723 dX8_takeNumber_157 ?_
        refine g_aload_n h 1 dX8_takeNumber_160 rfl ?_
        refine q_8_read h rfl tw_720 dX8_takeNumber_161 (fun v28 hv28 => ?_)
        refine g_iload_n h 0 dX8_takeNumber_164 rfl ?_
        refine g_is (q := 30) h iv25 rfl rfl (by decide) (by clear iw11 iw18 ih23; replace hv1 := hv1.symm; replace hm9 := hm9.symm; replace hw11 := hw11.symm; replace hv12 := hv12.symm; replace hv14 := hv14.symm; replace hv15 := hv15.symm; replace hv16 := hv16.symm; replace hv17 := hv17.symm; replace hw18 := hw18.symm; replace hv26 := hv26.symm; replace hv28 := hv28.symm; subst hv28 hv26 hw18 hv17 hv16 hv15 hv14 hv12 hw11 hm9 hv1; exact hV.elim fun o q => q.elim fun a k => NV.rd k hNV) dX8_takeNumber_165 (fun w29 hw29 iw29 => ?_)
        refine g_aload_n h 1 dX8_takeNumber_166 rfl ?_
        refine g_dup h dX8_takeNumber_167 rfl ?_
        refine q_8_read h rfl tw_720 dX8_takeNumber_168 (fun v30 hv30 => ?_)
        refine g_iconst (v := 1) h dX8_takeNumber_171 (by decide) ?_
        refine g_iadd h dX8_takeNumber_172 (g_name fun v31 hv31 => ?_)
        refine p_8_read h iw29 rfl tw_720 dX8_takeNumber_173 (fun w32 hw32 iw32 => ?_)
        exact e_vret h iw32 dX8_takeNumber_176 (by clear iw11 iw18 ih23 iw29 iw32; replace hv1 := hv1.symm; replace hm9 := hm9.symm; replace hw11 := hw11.symm; replace hv12 := hv12.symm; replace hv14 := hv14.symm; replace hv15 := hv15.symm; replace hv16 := hv16.symm; replace hv17 := hv17.symm; replace hw18 := hw18.symm; replace hv26 := hv26.symm; replace hv28 := hv28.symm; replace hw29 := hw29.symm; replace hv30 := hv30.symm; replace hv31 := hv31.symm; replace hw32 := hw32.symm; subst hw32 hv31 hv30 hw29 hv28 hv26 hw18 hv17 hv16 hv15 hv14 hv12 hw11 hm9 hv1; exact (tn_fin c13 (tnx_a hP1 hj24 c27)).symm)
      · refine g_iload_n h 0 dX8_takeNumber_63 rfl ?_
        refine g_if_le (tgt := 156) h dX8_takeNumber_64 (by decide) (fun c33 => ?_) (fun c33 => ?_)
        · refine g_aload_n h 1 dX8_takeNumber_156 rfl ?_
          refine q_8_numbers h rfl tw_723 dX8_takeNumber_157 ?_
          refine g_aload_n h 1 dX8_takeNumber_160 rfl ?_
          refine q_8_read h rfl tw_720 dX8_takeNumber_161 (fun v34 hv34 => ?_)
          refine g_iload_n h 0 dX8_takeNumber_164 rfl ?_
          refine g_is (q := 30) h iv25 rfl rfl (by decide) (by clear iw11 iw18 ih23; replace hv1 := hv1.symm; replace hm9 := hm9.symm; replace hw11 := hw11.symm; replace hv12 := hv12.symm; replace hv14 := hv14.symm; replace hv15 := hv15.symm; replace hv16 := hv16.symm; replace hv17 := hv17.symm; replace hw18 := hw18.symm; replace hv26 := hv26.symm; replace hv34 := hv34.symm; subst hv34 hv26 hw18 hv17 hv16 hv15 hv14 hv12 hw11 hm9 hv1; exact hV.elim fun o q => q.elim fun a k => NV.rd k hNV) dX8_takeNumber_165 (fun w35 hw35 iw35 => ?_)
          refine g_aload_n h 1 dX8_takeNumber_166 rfl ?_
          refine g_dup h dX8_takeNumber_167 rfl ?_
          refine q_8_read h rfl tw_720 dX8_takeNumber_168 (fun v36 hv36 => ?_)
          refine g_iconst (v := 1) h dX8_takeNumber_171 (by decide) ?_
          refine g_iadd h dX8_takeNumber_172 (g_name fun v37 hv37 => ?_)
          refine p_8_read h iw35 rfl tw_720 dX8_takeNumber_173 (fun w38 hw38 iw38 => ?_)
          exact e_vret h iw38 dX8_takeNumber_176 (by clear iw11 iw18 ih23 iw35 iw38; replace hv1 := hv1.symm; replace hm9 := hm9.symm; replace hw11 := hw11.symm; replace hv12 := hv12.symm; replace hv14 := hv14.symm; replace hv15 := hv15.symm; replace hv16 := hv16.symm; replace hv17 := hv17.symm; replace hw18 := hw18.symm; replace hv26 := hv26.symm; replace hv34 := hv34.symm; replace hw35 := hw35.symm; replace hv36 := hv36.symm; replace hv37 := hv37.symm; replace hw38 := hw38.symm; subst hw38 hv37 hv36 hw35 hv34 hv26 hw18 hv17 hv16 hv15 hv14 hv12 hw11 hm9 hv1; exact (tn_fin c13 (tnx_b hP1 hj24 c27 c33)).symm)
        · refine g_aload_n h 1 dX8_takeNumber_67 rfl ?_
          refine k_V_i (st := []) h hX (tX8_next (xl X) G F ((m_tnI (m_tn2 (m_tn1 ω)) j19).2) iv25 (by clear iw11 iw18 ih23; replace hv1 := hv1.symm; replace hm9 := hm9.symm; replace hw11 := hw11.symm; replace hv12 := hv12.symm; replace hv14 := hv14.symm; replace hv15 := hv15.symm; replace hv16 := hv16.symm; replace hv17 := hv17.symm; replace hw18 := hw18.symm; replace hv26 := hv26.symm; subst hv26 hw18 hv17 hv16 hv15 hv14 hv12 hw11 hm9 hv1; exact (hV.elim fun o q => q.elim fun a k => NV.nx k hNV))) rfl ⟨kd_lt rfl, ob_21 rfl⟩ rfl miX8_next tw_1021 (by decide) (by decide) rfl (Nat.le_of_ble_eq_true rfl) (by rw [hX]; exact Nat.zero_le _) (by rw [hX]; exact Nat.zero_le _) dX8_takeNumber_68 (fun v39 hv39 => ?_)
          refine g_bipush (v := 48) h dX8_takeNumber_71 (by decide) ?_
          refine g_bipush (v := 57) h dX8_takeNumber_73 (by decide) ?_
          refine k_S_i (st := []) h hX (tX8_in (xl X) G F ((m_tnI (m_tn2 (m_tn1 ω)) j19).2) iv25 v39 48 57) rfl miX8_in tw_761 (by decide) (by decide) rfl (Nat.le_of_ble_eq_true rfl) (by rw [hX]; exact Nat.zero_le _) (by rw [hX]; exact Nat.zero_le _) dX8_takeNumber_75 (fun v40 hv40 => ?_)
          refine g_if_eq (tgt := 156) h dX8_takeNumber_78 (by decide) (fun c41 => ?_) (fun c41 => ?_)
          · refine g_aload_n h 1 dX8_takeNumber_156 rfl ?_
            refine q_8_numbers h rfl tw_723 dX8_takeNumber_157 ?_
            refine g_aload_n h 1 dX8_takeNumber_160 rfl ?_
            refine q_8_read h rfl tw_720 dX8_takeNumber_161 (fun v42 hv42 => ?_)
            refine g_iload_n h 0 dX8_takeNumber_164 rfl ?_
            refine g_is (q := 30) h iv25 rfl rfl (by decide) (by clear iw11 iw18 ih23; replace hv1 := hv1.symm; replace hm9 := hm9.symm; replace hw11 := hw11.symm; replace hv12 := hv12.symm; replace hv14 := hv14.symm; replace hv15 := hv15.symm; replace hv16 := hv16.symm; replace hv17 := hv17.symm; replace hw18 := hw18.symm; replace hv26 := hv26.symm; replace hv39 := hv39.symm; replace hv40 := hv40.symm; replace hv42 := hv42.symm; subst hv42 hv40 hv39 hv26 hw18 hv17 hv16 hv15 hv14 hv12 hw11 hm9 hv1; exact hV.elim fun o q => q.elim fun a k => NV.rd k hNV) dX8_takeNumber_165 (fun w43 hw43 iw43 => ?_)
            refine g_aload_n h 1 dX8_takeNumber_166 rfl ?_
            refine g_dup h dX8_takeNumber_167 rfl ?_
            refine q_8_read h rfl tw_720 dX8_takeNumber_168 (fun v44 hv44 => ?_)
            refine g_iconst (v := 1) h dX8_takeNumber_171 (by decide) ?_
            refine g_iadd h dX8_takeNumber_172 (g_name fun v45 hv45 => ?_)
            refine p_8_read h iw43 rfl tw_720 dX8_takeNumber_173 (fun w46 hw46 iw46 => ?_)
            exact e_vret h iw46 dX8_takeNumber_176 (by clear iw11 iw18 ih23 iw43 iw46; replace hv1 := hv1.symm; replace hm9 := hm9.symm; replace hw11 := hw11.symm; replace hv12 := hv12.symm; replace hv14 := hv14.symm; replace hv15 := hv15.symm; replace hv16 := hv16.symm; replace hv17 := hv17.symm; replace hw18 := hw18.symm; replace hv26 := hv26.symm; replace hv39 := hv39.symm; replace hv40 := hv40.symm; replace hv42 := hv42.symm; replace hw43 := hw43.symm; replace hv44 := hv44.symm; replace hv45 := hv45.symm; replace hw46 := hw46.symm; subst hw46 hv45 hv44 hw43 hv42 hv40 hv39 hv26 hw18 hv17 hv16 hv15 hv14 hv12 hw11 hm9 hv1; exact (tn_fin c13 (tnx_c hP1 hj24 c27 c33 c41)).symm)
          · refine g_aload_n h 1 dX8_takeNumber_81 rfl ?_
            refine g_bipush (v := 10) h dX8_takeNumber_82 (by decide) ?_
            refine g_iload_n h 0 dX8_takeNumber_84 rfl ?_
            refine g_imul h dX8_takeNumber_85 (g_name fun v47 hv47 => ?_)
            refine g_aload_n h 1 dX8_takeNumber_86 rfl ?_
            refine k_V_i (st := [.int v47, .ref (F + 647)]) h hX (tX8_next (xl X) G F ((m_tnI (m_tn2 (m_tn1 ω)) j19).2) iv25 (by clear iw11 iw18 ih23; replace hv1 := hv1.symm; replace hm9 := hm9.symm; replace hw11 := hw11.symm; replace hv12 := hv12.symm; replace hv14 := hv14.symm; replace hv15 := hv15.symm; replace hv16 := hv16.symm; replace hv17 := hv17.symm; replace hw18 := hw18.symm; replace hv26 := hv26.symm; replace hv39 := hv39.symm; replace hv40 := hv40.symm; replace hv47 := hv47.symm; subst hv47 hv40 hv39 hv26 hw18 hv17 hv16 hv15 hv14 hv12 hw11 hm9 hv1; exact (hV.elim fun o q => q.elim fun a k => NV.nx k hNV))) rfl ⟨kd_lt rfl, ob_21 rfl⟩ rfl miX8_next tw_1021 (by decide) (by decide) rfl (Nat.le_of_ble_eq_true rfl) (by rw [hX]; exact Nat.zero_le _) (by rw [hX]; exact Nat.zero_le _) dX8_takeNumber_87 (fun v48 hv48 => ?_)
            refine g_iadd h dX8_takeNumber_90 (g_name fun v49 hv49 => ?_)
            refine g_bipush (v := 48) h dX8_takeNumber_91 (by decide) ?_
            refine g_isub h dX8_takeNumber_93 (g_name fun v50 hv50 => ?_)
            refine g_sipush (v := 999) h dX8_takeNumber_94 (by decide) ?_
            have hm105_55 : ∀ m54 : Int32, m54 = (if v50 ≤ 999 then 0 else 1) → Vg X (MQ (xb X) (fQ G F (fP F G none (m_tn ω))) (xa X) (xs X) 0 0 (fA F)) G F 2 NC (cel F G ((m_tnI (m_tn2 (m_tn1 ω)) j19).2)) 0 0 105 [(1, .int ((m_tnI (m_tn2 (m_tn1 ω)) j19).1)), (0, .ref (F + 647))] [.int m54, .ref (F + 647)] := by
              intro m54 hm54
              refine p_8_isWrong h iv25 rfl (by clear iw11 iw18 ih23; replace hv1 := hv1.symm; replace hm9 := hm9.symm; replace hw11 := hw11.symm; replace hv12 := hv12.symm; replace hv14 := hv14.symm; replace hv15 := hv15.symm; replace hv16 := hv16.symm; replace hv17 := hv17.symm; replace hw18 := hw18.symm; replace hv26 := hv26.symm; replace hv39 := hv39.symm; replace hv40 := hv40.symm; replace hv47 := hv47.symm; replace hv48 := hv48.symm; replace hv49 := hv49.symm; replace hv50 := hv50.symm; replace hm54 := hm54.symm; subst hm54 hv50 hv49 hv48 hv47 hv40 hv39 hv26 hw18 hv17 hv16 hv15 hv14 hv12 hw11 hm9 hv1; exact nz (if01 z01 o01)) (by clear iw11 iw18 ih23; replace hv1 := hv1.symm; replace hm9 := hm9.symm; replace hw11 := hw11.symm; replace hv12 := hv12.symm; replace hv14 := hv14.symm; replace hv15 := hv15.symm; replace hv16 := hv16.symm; replace hv17 := hv17.symm; replace hw18 := hw18.symm; replace hv26 := hv26.symm; replace hv39 := hv39.symm; replace hv40 := hv40.symm; replace hv47 := hv47.symm; replace hv48 := hv48.symm; replace hv49 := hv49.symm; replace hv50 := hv50.symm; replace hm54 := hm54.symm; subst hm54 hv50 hv49 hv48 hv47 hv40 hv39 hv26 hw18 hv17 hv16 hv15 hv14 hv12 hw11 hm9 hv1; exact nzf (if01 z01 o01)) tw_718 dX8_takeNumber_105 (fun w56 hw56 iw56 => ?_)
              refine g_aload_n h 1 dX8_takeNumber_108 rfl ?_
              refine q_8_isWrong h rfl tw_718 dX8_takeNumber_109 (fun v57 hv57 => ?_)
              have hm131_66 : ∀ m65 : Int32, m65 = (if v57 = 0 then (((10 * ((m_tnI (m_tn2 (m_tn1 ω)) j19).1)) + (m_nx w56)) - 48) else (m_tnI (m_tn2 (m_tn1 ω)) j19).1) → Vg X (MQ (xb X) (fQ G F (fP F G none (m_tn ω))) (xa X) (xs X) 0 0 (fA F)) G F 2 NC (cel F G w56) 0 0 131 [(1, .int ((m_tnI (m_tn2 (m_tn1 ω)) j19).1)), (0, .ref (F + 647))] [.int m65] := by
                intro m65 hm65
                refine g_istore_n (loc2 := [(1, .int m65), (0, .ref (F + 647))]) h dX8_takeNumber_131 (by decide) rfl ?_
                refine g_aload_n h 1 dX8_takeNumber_132 rfl ?_
                refine g_dup h dX8_takeNumber_133 rfl ?_
                refine q_8_spot h rfl tw_717 dX8_takeNumber_134 (fun v67 hv67 => ?_)
                refine g_aload_n h 1 dX8_takeNumber_137 rfl ?_
                refine q_8_isWrong h rfl tw_718 dX8_takeNumber_138 (fun v68 hv68 => ?_)
                have hm149_73 : ∀ m72 : Int32, m72 = (if v68 = 0 then 1 else 0) → Vg X (MQ (xb X) (fQ G F (fP F G none (m_tn ω))) (xa X) (xs X) 0 0 (fA F)) G F 2 NC (cel F G w56) 0 0 149 [(1, .int m65), (0, .ref (F + 647))] [.int m72, .int v67, .ref (F + 647)] := by
                  intro m72 hm72
                  refine g_iadd h dX8_takeNumber_149 (g_name fun v74 hv74 => ?_)
                  refine p_8_spot h iw56 rfl tw_717 dX8_takeNumber_150 (fun w75 hw75 iw75 => ?_)
                  refine g_goto (tgt := 56) h dX8_takeNumber_153 (by decide) ?_
                  have e76 : m65 = (m_tnI (m_tn2 (m_tn1 ω)) (j19 + 1)).1 := by clear iw11 iw18 ih23 iw56 iw75; replace hv1 := hv1.symm; replace hm9 := hm9.symm; replace hw11 := hw11.symm; replace hv12 := hv12.symm; replace hv14 := hv14.symm; replace hv15 := hv15.symm; replace hv16 := hv16.symm; replace hv17 := hv17.symm; replace hw18 := hw18.symm; replace hv26 := hv26.symm; replace hv39 := hv39.symm; replace hv40 := hv40.symm; replace hv47 := hv47.symm; replace hv48 := hv48.symm; replace hv49 := hv49.symm; replace hv50 := hv50.symm; replace hm54 := hm54.symm; replace hw56 := hw56.symm; replace hv57 := hv57.symm; replace hm65 := hm65.symm; replace hv67 := hv67.symm; replace hv68 := hv68.symm; replace hm72 := hm72.symm; replace hv74 := hv74.symm; replace hw75 := hw75.symm; subst hw75 hv74 hm72 hv68 hv67 hm65 hv57 hw56 hm54 hv50 hv49 hv48 hv47 hv40 hv39 hv26 hw18 hv17 hv16 hv15 hv14 hv12 hw11 hm9 hv1; rfl
                  have e77 : w75 = (m_tnI (m_tn2 (m_tn1 ω)) (j19 + 1)).2 := by clear iw11 iw18 ih23 iw56 iw75; replace hv1 := hv1.symm; replace hm9 := hm9.symm; replace hw11 := hw11.symm; replace hv12 := hv12.symm; replace hv14 := hv14.symm; replace hv15 := hv15.symm; replace hv16 := hv16.symm; replace hv17 := hv17.symm; replace hw18 := hw18.symm; replace hv26 := hv26.symm; replace hv39 := hv39.symm; replace hv40 := hv40.symm; replace hv47 := hv47.symm; replace hv48 := hv48.symm; replace hv49 := hv49.symm; replace hv50 := hv50.symm; replace hm54 := hm54.symm; replace hw56 := hw56.symm; replace hv57 := hv57.symm; replace hm65 := hm65.symm; replace hv67 := hv67.symm; replace hv68 := hv68.symm; replace hm72 := hm72.symm; replace hv74 := hv74.symm; replace hw75 := hw75.symm; subst hw75 hv74 hm72 hv68 hv67 hm65 hv57 hw56 hm54 hv50 hv49 hv48 hv47 hv40 hv39 hv26 hw18 hv17 hv16 hv15 hv14 hv12 hw11 hm9 hv1; rfl
                  exact g_lt e77 (lc_i e76 rfl) rfl (ih23 (by clear iw11 iw18 ih23 iw56 iw75; replace hv1 := hv1.symm; replace hm9 := hm9.symm; replace hw11 := hw11.symm; replace hv12 := hv12.symm; replace hv14 := hv14.symm; replace hv15 := hv15.symm; replace hv16 := hv16.symm; replace hv17 := hv17.symm; replace hw18 := hw18.symm; replace hv26 := hv26.symm; replace hv39 := hv39.symm; replace hv40 := hv40.symm; replace hv47 := hv47.symm; replace hv48 := hv48.symm; replace hv49 := hv49.symm; replace hv50 := hv50.symm; replace hm54 := hm54.symm; replace hw56 := hw56.symm; replace hv57 := hv57.symm; replace hm65 := hm65.symm; replace hv67 := hv67.symm; replace hv68 := hv68.symm; replace hm72 := hm72.symm; replace hv74 := hv74.symm; replace hw75 := hw75.symm; subst hw75 hv74 hm72 hv68 hv67 hm65 hv57 hw56 hm54 hv50 hv49 hv48 hv47 hv40 hv39 hv26 hw18 hv17 hv16 hv15 hv14 hv12 hw11 hm9 hv1; exact hV.elim fun o q => q.elim fun a k => NV.lt k hNV (tn1_0 c13) c27 c41) ⟨(e77 ▸ iw75), (by clear iw11 iw18 ih23 iw56 iw75; replace hv1 := hv1.symm; replace hm9 := hm9.symm; replace hw11 := hw11.symm; replace hv12 := hv12.symm; replace hv14 := hv14.symm; replace hv15 := hv15.symm; replace hv16 := hv16.symm; replace hv17 := hv17.symm; replace hw18 := hw18.symm; replace hv26 := hv26.symm; replace hv39 := hv39.symm; replace hv40 := hv40.symm; replace hv47 := hv47.symm; replace hv48 := hv48.symm; replace hv49 := hv49.symm; replace hv50 := hv50.symm; replace hm54 := hm54.symm; replace hw56 := hw56.symm; replace hv57 := hv57.symm; replace hm65 := hm65.symm; replace hv67 := hv67.symm; replace hv68 := hv68.symm; replace hm72 := hm72.symm; replace hv74 := hv74.symm; replace hw75 := hw75.symm; subst hw75 hv74 hm72 hv68 hv67 hm65 hv57 hw56 hm54 hv50 hv49 hv48 hv47 hv40 hv39 hv26 hw18 hv17 hv16 hv15 hv14 hv12 hw11 hm9 hv1; exact tnx_d hP1 (hV.elim fun o q => q.elim fun a k => NV.lt k hNV (tn1_0 c13) c27 c41) c27 c33 c41), (by clear iw11 iw18 ih23 iw56 iw75; replace hv1 := hv1.symm; replace hm9 := hm9.symm; replace hw11 := hw11.symm; replace hv12 := hv12.symm; replace hv14 := hv14.symm; replace hv15 := hv15.symm; replace hv16 := hv16.symm; replace hv17 := hv17.symm; replace hw18 := hw18.symm; replace hv26 := hv26.symm; replace hv39 := hv39.symm; replace hv40 := hv40.symm; replace hv47 := hv47.symm; replace hv48 := hv48.symm; replace hv49 := hv49.symm; replace hv50 := hv50.symm; replace hm54 := hm54.symm; replace hw56 := hw56.symm; replace hv57 := hv57.symm; replace hm65 := hm65.symm; replace hv67 := hv67.symm; replace hv68 := hv68.symm; replace hm72 := hm72.symm; replace hv74 := hv74.symm; replace hw75 := hw75.symm; subst hw75 hv74 hm72 hv68 hv67 hm65 hv57 hw56 hm54 hv50 hv49 hv48 hv47 hv40 hv39 hv26 hw18 hv17 hv16 hv15 hv14 hv12 hw11 hm9 hv1; exact hV.elim fun o q => q.elim fun a k => tnS_NVk k hNV c27 c41)⟩)
                refine g_if_eq (tgt := 148) h dX8_takeNumber_141 (by decide) (fun c69 => ?_) (fun c69 => ?_)
                · refine g_iconst (v := 1) h dX8_takeNumber_148 (by decide) ?_
                  exact hm149_73 _ (by clear iw11 iw18 ih23 iw56; replace hv1 := hv1.symm; replace hm9 := hm9.symm; replace hw11 := hw11.symm; replace hv12 := hv12.symm; replace hv14 := hv14.symm; replace hv15 := hv15.symm; replace hv16 := hv16.symm; replace hv17 := hv17.symm; replace hw18 := hw18.symm; replace hv26 := hv26.symm; replace hv39 := hv39.symm; replace hv40 := hv40.symm; replace hv47 := hv47.symm; replace hv48 := hv48.symm; replace hv49 := hv49.symm; replace hv50 := hv50.symm; replace hm54 := hm54.symm; replace hw56 := hw56.symm; replace hv57 := hv57.symm; replace hm65 := hm65.symm; replace hv67 := hv67.symm; replace hv68 := hv68.symm; subst hv68 hv67 hm65 hv57 hw56 hm54 hv50 hv49 hv48 hv47 hv40 hv39 hv26 hw18 hv17 hv16 hv15 hv14 hv12 hw11 hm9 hv1; rw [if_pos c69])
                · refine g_iconst (v := 0) h dX8_takeNumber_144 (by decide) ?_
                  refine g_goto (tgt := 149) h dX8_takeNumber_145 (by decide) ?_
                  exact hm149_73 _ (by clear iw11 iw18 ih23 iw56; replace hv1 := hv1.symm; replace hm9 := hm9.symm; replace hw11 := hw11.symm; replace hv12 := hv12.symm; replace hv14 := hv14.symm; replace hv15 := hv15.symm; replace hv16 := hv16.symm; replace hv17 := hv17.symm; replace hw18 := hw18.symm; replace hv26 := hv26.symm; replace hv39 := hv39.symm; replace hv40 := hv40.symm; replace hv47 := hv47.symm; replace hv48 := hv48.symm; replace hv49 := hv49.symm; replace hv50 := hv50.symm; replace hm54 := hm54.symm; replace hw56 := hw56.symm; replace hv57 := hv57.symm; replace hm65 := hm65.symm; replace hv67 := hv67.symm; replace hv68 := hv68.symm; subst hv68 hv67 hm65 hv57 hw56 hm54 hv50 hv49 hv48 hv47 hv40 hv39 hv26 hw18 hv17 hv16 hv15 hv14 hv12 hw11 hm9 hv1; rw [if_neg c69])
              refine g_if_eq (tgt := 119) h dX8_takeNumber_112 (by decide) (fun c58 => ?_) (fun c58 => ?_)
              · refine g_bipush (v := 10) h dX8_takeNumber_119 (by decide) ?_
                refine g_iload_n h 0 dX8_takeNumber_121 rfl ?_
                refine g_imul h dX8_takeNumber_122 (g_name fun v59 hv59 => ?_)
                refine g_aload_n h 1 dX8_takeNumber_123 rfl ?_
                refine k_V_i (st := [.int v59]) h hX (tX8_next (xl X) G F w56 iw56 (by clear iw11 iw18 ih23 iw56; replace hv1 := hv1.symm; replace hm9 := hm9.symm; replace hw11 := hw11.symm; replace hv12 := hv12.symm; replace hv14 := hv14.symm; replace hv15 := hv15.symm; replace hv16 := hv16.symm; replace hv17 := hv17.symm; replace hw18 := hw18.symm; replace hv26 := hv26.symm; replace hv39 := hv39.symm; replace hv40 := hv40.symm; replace hv47 := hv47.symm; replace hv48 := hv48.symm; replace hv49 := hv49.symm; replace hv50 := hv50.symm; replace hm54 := hm54.symm; replace hw56 := hw56.symm; replace hv57 := hv57.symm; replace hv59 := hv59.symm; subst hv59 hv57 hw56 hm54 hv50 hv49 hv48 hv47 hv40 hv39 hv26 hw18 hv17 hv16 hv15 hv14 hv12 hw11 hm9 hv1; exact nxw (hV.elim fun o q => q.elim fun a k => NV.nx k hNV))) rfl ⟨kd_lt rfl, ob_21 rfl⟩ rfl miX8_next tw_1021 (by decide) (by decide) rfl (Nat.le_of_ble_eq_true rfl) (by rw [hX]; exact Nat.zero_le _) (by rw [hX]; exact Nat.zero_le _) dX8_takeNumber_124 (fun v60 hv60 => ?_)
                refine g_iadd h dX8_takeNumber_127 (g_name fun v61 hv61 => ?_)
                refine g_bipush (v := 48) h dX8_takeNumber_128 (by decide) ?_
                refine g_isub h dX8_takeNumber_130 (g_name fun v62 hv62 => ?_)
                exact hm131_66 _ (by clear iw11 iw18 ih23 iw56; replace hv1 := hv1.symm; replace hm9 := hm9.symm; replace hw11 := hw11.symm; replace hv12 := hv12.symm; replace hv14 := hv14.symm; replace hv15 := hv15.symm; replace hv16 := hv16.symm; replace hv17 := hv17.symm; replace hw18 := hw18.symm; replace hv26 := hv26.symm; replace hv39 := hv39.symm; replace hv40 := hv40.symm; replace hv47 := hv47.symm; replace hv48 := hv48.symm; replace hv49 := hv49.symm; replace hv50 := hv50.symm; replace hm54 := hm54.symm; replace hw56 := hw56.symm; replace hv57 := hv57.symm; replace hv59 := hv59.symm; replace hv60 := hv60.symm; replace hv61 := hv61.symm; replace hv62 := hv62.symm; subst hv62 hv61 hv60 hv59 hv57 hw56 hm54 hv50 hv49 hv48 hv47 hv40 hv39 hv26 hw18 hv17 hv16 hv15 hv14 hv12 hw11 hm9 hv1; rw [if_pos c58])
              · refine g_iload_n h 0 dX8_takeNumber_115 rfl ?_
                refine g_goto (tgt := 131) h dX8_takeNumber_116 (by decide) ?_
                exact hm131_66 _ (by clear iw11 iw18 ih23 iw56; replace hv1 := hv1.symm; replace hm9 := hm9.symm; replace hw11 := hw11.symm; replace hv12 := hv12.symm; replace hv14 := hv14.symm; replace hv15 := hv15.symm; replace hv16 := hv16.symm; replace hv17 := hv17.symm; replace hw18 := hw18.symm; replace hv26 := hv26.symm; replace hv39 := hv39.symm; replace hv40 := hv40.symm; replace hv47 := hv47.symm; replace hv48 := hv48.symm; replace hv49 := hv49.symm; replace hv50 := hv50.symm; replace hm54 := hm54.symm; replace hw56 := hw56.symm; replace hv57 := hv57.symm; subst hv57 hw56 hm54 hv50 hv49 hv48 hv47 hv40 hv39 hv26 hw18 hv17 hv16 hv15 hv14 hv12 hw11 hm9 hv1; rw [if_neg c58])
            refine g_icmp_le (tgt := 104) h dX8_takeNumber_97 (by decide) (fun c51 => ?_) (fun c51 => ?_)
            · refine g_iconst (v := 0) h dX8_takeNumber_104 (by decide) ?_
              exact hm105_55 _ (by clear iw11 iw18 ih23; replace hv1 := hv1.symm; replace hm9 := hm9.symm; replace hw11 := hw11.symm; replace hv12 := hv12.symm; replace hv14 := hv14.symm; replace hv15 := hv15.symm; replace hv16 := hv16.symm; replace hv17 := hv17.symm; replace hw18 := hw18.symm; replace hv26 := hv26.symm; replace hv39 := hv39.symm; replace hv40 := hv40.symm; replace hv47 := hv47.symm; replace hv48 := hv48.symm; replace hv49 := hv49.symm; replace hv50 := hv50.symm; subst hv50 hv49 hv48 hv47 hv40 hv39 hv26 hw18 hv17 hv16 hv15 hv14 hv12 hw11 hm9 hv1; rw [if_pos c51])
            · refine g_iconst (v := 1) h dX8_takeNumber_100 (by decide) ?_
              refine g_goto (tgt := 105) h dX8_takeNumber_101 (by decide) ?_
              exact hm105_55 _ (by clear iw11 iw18 ih23; replace hv1 := hv1.symm; replace hm9 := hm9.symm; replace hw11 := hw11.symm; replace hv12 := hv12.symm; replace hv14 := hv14.symm; replace hv15 := hv15.symm; replace hv16 := hv16.symm; replace hv17 := hv17.symm; replace hw18 := hw18.symm; replace hv26 := hv26.symm; replace hv39 := hv39.symm; replace hv40 := hv40.symm; replace hv47 := hv47.symm; replace hv48 := hv48.symm; replace hv49 := hv49.symm; replace hv50 := hv50.symm; subst hv50 hv49 hv48 hv47 hv40 hv39 hv26 hw18 hv17 hv16 hv15 hv14 hv12 hw11 hm9 hv1; rw [if_neg c51])
    · exact e_vret h iw11 dX8_takeNumber_37 (by clear iw11; replace hv1 := hv1.symm; replace hm9 := hm9.symm; replace hw11 := hw11.symm; replace hv12 := hv12.symm; subst hv12 hw11 hm9 hv1; exact (if_neg c13).symm)
  refine g_if_ne (tgt := 22) h dX8_takeNumber_5 (by decide) (fun c2 => ?_) (fun c2 => ?_)
  · refine g_iconst (v := 1) h dX8_takeNumber_22 (by decide) ?_
    refine g_goto (tgt := 27) h dX8_takeNumber_23 (by decide) ?_
    exact hm27_10 _ (by replace hv1 := hv1.symm; subst hv1; rw [if_neg c2])
  · refine g_aload_n h 0 dX8_takeNumber_8 rfl ?_
    refine k_V_i (st := [.ref (F + 647)]) h hX (tX8_next (xl X) G F ω hI (by replace hv1 := hv1.symm; subst hv1; exact (hV.elim fun o q => q.elim fun a k => k.nx))) rfl ⟨kd_lt rfl, ob_21 rfl⟩ rfl miX8_next tw_1021 (by decide) (by decide) rfl (Nat.le_of_ble_eq_true rfl) (by rw [hX]; exact Nat.zero_le _) (by rw [hX]; exact Nat.zero_le _) dX8_takeNumber_9 (fun v4 hv4 => ?_)
    refine g_bipush (v := 48) h dX8_takeNumber_12 (by decide) ?_
    refine g_bipush (v := 57) h dX8_takeNumber_14 (by decide) ?_
    refine k_S_i (st := [.ref (F + 647)]) h hX (tX8_in (xl X) G F ω hI v4 48 57) rfl miX8_in tw_761 (by decide) (by decide) rfl (Nat.le_of_ble_eq_true rfl) (by rw [hX]; exact Nat.zero_le _) (by rw [hX]; exact Nat.zero_le _) dX8_takeNumber_16 (fun v5 hv5 => ?_)
    refine g_if_ne (tgt := 26) h dX8_takeNumber_19 (by decide) (fun c6 => ?_) (fun c6 => ?_)
    · refine g_iconst (v := 0) h dX8_takeNumber_26 (by decide) ?_
      exact hm27_10 _ (by replace hv1 := hv1.symm; replace hv4 := hv4.symm; replace hv5 := hv5.symm; subst hv5 hv4 hv1; rw [if_pos c2, if_neg c6])
    · refine g_iconst (v := 1) h dX8_takeNumber_22 (by decide) ?_
      refine g_goto (tgt := 27) h dX8_takeNumber_23 (by decide) ?_
      exact hm27_10 _ (by replace hv1 := hv1.symm; replace hv4 := hv4.symm; replace hv5 := hv5.symm; subst hv5 hv4 hv1; rw [if_pos c2, if_pos c6])
set_option maxHeartbeats 4000000 in
set_option maxRecDepth 100000 in
theorem tX8_takeMode (l0 : Launch) (G : fG) (F : Nat) (ω : fOm) (hI : Inv ω) (hV : ∃ o a, IV ω o a) : CT l0 G F yX8_takeMode cX8_takeMode 1 none 1 [.ref (F + 647)] ω none (m_tm ω) := by
  refine ct_met (own := RX8) (by decide +kernel) rfl (Nat.le_of_ble_eq_true rfl) (fun X hXl hX h => ?_)
  subst hXl
  refine g_aload_n h 0 dX8_takeMode_0 rfl ?_
  refine g_aload_n h 0 dX8_takeMode_1 rfl ?_
  refine q_8_isWrong h rfl tw_718 dX8_takeMode_2 (fun v1 hv1 => ?_)
  have hm27_10 : ∀ m9 : Int32, m9 = (if v1 = 0 then (if (f_btw (m_nx ω) 48 50) = 0 then 1 else 0) else 1) → Vg X (MQ (xb X) (fQ G F (fP F G none (m_tm ω))) (xa X) (xs X) 0 0 (fA F)) G F 1 NC (cel F G ω) 0 0 27 [(0, .ref (F + 647))] [.int m9, .ref (F + 647)] := by
    intro m9 hm9
    refine p_8_isWrong h hI rfl (by replace hv1 := hv1.symm; replace hm9 := hm9.symm; subst hm9 hv1; exact nz (if01 (if01 o01 z01) o01)) (by replace hv1 := hv1.symm; replace hm9 := hm9.symm; subst hm9 hv1; exact nzf (if01 (if01 o01 z01) o01)) tw_718 dX8_takeMode_27 (fun w11 hw11 iw11 => ?_)
    refine g_aload_n h 0 dX8_takeMode_30 rfl ?_
    refine q_8_isWrong h rfl tw_718 dX8_takeMode_31 (fun v12 hv12 => ?_)
    refine g_if_ne (tgt := 73) h dX8_takeMode_34 (by decide) (fun c13 => ?_) (fun c13 => ?_)
    · exact e_vret h iw11 dX8_takeMode_73 (by clear iw11; replace hv1 := hv1.symm; replace hm9 := hm9.symm; replace hw11 := hw11.symm; replace hv12 := hv12.symm; subst hv12 hw11 hm9 hv1; exact (if_neg c13).symm)
    · refine g_aload_n h 0 dX8_takeMode_37 rfl ?_
      refine q_8_numbers h rfl tw_723 dX8_takeMode_38 ?_
      refine g_aload_n h 0 dX8_takeMode_41 rfl ?_
      refine q_8_read h rfl tw_720 dX8_takeMode_42 (fun v14 hv14 => ?_)
      refine g_aload_n h 0 dX8_takeMode_45 rfl ?_
      refine k_V_i (st := [.int v14, .ref (F + 656)]) h hX (tX8_next (xl X) G F w11 iw11 (by clear iw11; replace hv1 := hv1.symm; replace hm9 := hm9.symm; replace hw11 := hw11.symm; replace hv12 := hv12.symm; replace hv14 := hv14.symm; subst hv14 hv12 hw11 hm9 hv1; exact tm1_nx hV)) rfl ⟨kd_lt rfl, ob_21 rfl⟩ rfl miX8_next tw_1021 (by decide) (by decide) rfl (Nat.le_of_ble_eq_true rfl) (by rw [hX]; exact Nat.zero_le _) (by rw [hX]; exact Nat.zero_le _) dX8_takeMode_46 (fun v15 hv15 => ?_)
      refine g_bipush (v := 48) h dX8_takeMode_49 (by decide) ?_
      refine g_isub h dX8_takeMode_51 (g_name fun v16 hv16 => ?_)
      refine g_is (q := 30) h iw11 rfl rfl (by decide) (by clear iw11; replace hv1 := hv1.symm; replace hm9 := hm9.symm; replace hw11 := hw11.symm; replace hv12 := hv12.symm; replace hv14 := hv14.symm; replace hv15 := hv15.symm; replace hv16 := hv16.symm; subst hv16 hv15 hv14 hv12 hw11 hm9 hv1; exact tm1_rd hV) dX8_takeMode_52 (fun w17 hw17 iw17 => ?_)
      refine g_aload_n h 0 dX8_takeMode_53 rfl ?_
      refine g_dup h dX8_takeMode_54 rfl ?_
      refine q_8_read h rfl tw_720 dX8_takeMode_55 (fun v18 hv18 => ?_)
      refine g_iconst (v := 1) h dX8_takeMode_58 (by decide) ?_
      refine g_iadd h dX8_takeMode_59 (g_name fun v19 hv19 => ?_)
      refine p_8_read h iw17 rfl tw_720 dX8_takeMode_60 (fun w20 hw20 iw20 => ?_)
      refine g_aload_n h 0 dX8_takeMode_63 rfl ?_
      refine g_dup h dX8_takeMode_64 rfl ?_
      refine q_8_spot h rfl tw_717 dX8_takeMode_65 (fun v21 hv21 => ?_)
      refine g_iconst (v := 1) h dX8_takeMode_68 (by decide) ?_
      refine g_iadd h dX8_takeMode_69 (g_name fun v22 hv22 => ?_)
      refine p_8_spot h iw20 rfl tw_717 dX8_takeMode_70 (fun w23 hw23 iw23 => ?_)
      exact e_vret h iw23 dX8_takeMode_73 (by clear iw11 iw17 iw20 iw23; replace hv1 := hv1.symm; replace hm9 := hm9.symm; replace hw11 := hw11.symm; replace hv12 := hv12.symm; replace hv14 := hv14.symm; replace hv15 := hv15.symm; replace hv16 := hv16.symm; replace hw17 := hw17.symm; replace hv18 := hv18.symm; replace hv19 := hv19.symm; replace hw20 := hw20.symm; replace hv21 := hv21.symm; replace hv22 := hv22.symm; replace hw23 := hw23.symm; subst hw23 hv22 hv21 hw20 hv19 hv18 hw17 hv16 hv15 hv14 hv12 hw11 hm9 hv1; exact (if_pos c13).symm)
  refine g_if_ne (tgt := 22) h dX8_takeMode_5 (by decide) (fun c2 => ?_) (fun c2 => ?_)
  · refine g_iconst (v := 1) h dX8_takeMode_22 (by decide) ?_
    refine g_goto (tgt := 27) h dX8_takeMode_23 (by decide) ?_
    exact hm27_10 _ (by replace hv1 := hv1.symm; subst hv1; rw [if_neg c2])
  · refine g_aload_n h 0 dX8_takeMode_8 rfl ?_
    refine k_V_i (st := [.ref (F + 647)]) h hX (tX8_next (xl X) G F ω hI (by replace hv1 := hv1.symm; subst hv1; exact (hV.elim fun o q => q.elim fun a k => k.nx))) rfl ⟨kd_lt rfl, ob_21 rfl⟩ rfl miX8_next tw_1021 (by decide) (by decide) rfl (Nat.le_of_ble_eq_true rfl) (by rw [hX]; exact Nat.zero_le _) (by rw [hX]; exact Nat.zero_le _) dX8_takeMode_9 (fun v4 hv4 => ?_)
    refine g_bipush (v := 48) h dX8_takeMode_12 (by decide) ?_
    refine g_bipush (v := 50) h dX8_takeMode_14 (by decide) ?_
    refine k_S_i (st := [.ref (F + 647)]) h hX (tX8_in (xl X) G F ω hI v4 48 50) rfl miX8_in tw_761 (by decide) (by decide) rfl (Nat.le_of_ble_eq_true rfl) (by rw [hX]; exact Nat.zero_le _) (by rw [hX]; exact Nat.zero_le _) dX8_takeMode_16 (fun v5 hv5 => ?_)
    refine g_if_ne (tgt := 26) h dX8_takeMode_19 (by decide) (fun c6 => ?_) (fun c6 => ?_)
    · refine g_iconst (v := 0) h dX8_takeMode_26 (by decide) ?_
      exact hm27_10 _ (by replace hv1 := hv1.symm; replace hv4 := hv4.symm; replace hv5 := hv5.symm; subst hv5 hv4 hv1; rw [if_pos c2, if_neg c6])
    · refine g_iconst (v := 1) h dX8_takeMode_22 (by decide) ?_
      refine g_goto (tgt := 27) h dX8_takeMode_23 (by decide) ?_
      exact hm27_10 _ (by replace hv1 := hv1.symm; replace hv4 := hv4.symm; replace hv5 := hv5.symm; subst hv5 hv4 hv1; rw [if_pos c2, if_pos c6])
set_option maxHeartbeats 4000000 in
set_option maxRecDepth 100000 in
theorem tX8_takeOrder (l0 : Launch) (G : fG) (F : Nat) (ω : fOm) (hI : Inv ω) (hV : ∃ o a, IV ω o a ∧ o < 28) (h0 : ω 647 10 = 0) : CT l0 G F yX8_takeOrder cX8_takeOrder 2 none 2 [.ref (F + 647)] ω none (m_to ω) := by
  refine ct_met (own := RX8) (by decide +kernel) rfl (Nat.le_of_ble_eq_true rfl) (fun X hXl hX h => ?_)
  subst hXl
  refine g_aload_n h 0 dX8_takeOrder_0 rfl ?_
  refine k_V_i (st := []) h hX (tX8_next (xl X) G F ω hI (by skip; exact hV.elim fun o q => q.elim fun a k => k.1.nx)) rfl ⟨kd_lt rfl, ob_21 rfl⟩ rfl miX8_next tw_1021 (by decide) (by decide) rfl (Nat.le_of_ble_eq_true rfl) (by rw [hX]; exact Nat.zero_le _) (by rw [hX]; exact Nat.zero_le _) dX8_takeOrder_1 (fun v1 hv1 => ?_)
  refine g_istore_n (loc2 := [(1, .int v1), (0, .ref (F + 647))]) h dX8_takeOrder_4 (by decide) rfl ?_
  refine g_aload_n h 1 dX8_takeOrder_5 rfl ?_
  refine g_dup h dX8_takeOrder_6 rfl ?_
  refine q_8_spot h rfl tw_717 dX8_takeOrder_7 (fun v2 hv2 => ?_)
  refine g_iconst (v := 1) h dX8_takeOrder_10 (by decide) ?_
  refine g_iadd h dX8_takeOrder_11 (g_name fun v3 hv3 => ?_)
  refine p_8_spot h hI rfl tw_717 dX8_takeOrder_12 (fun w4 hw4 iw4 => ?_)
  refine g_aload_n h 1 dX8_takeOrder_15 rfl ?_
  refine q_8_begins h rfl tw_722 dX8_takeOrder_16 ?_
  refine g_aload_n h 1 dX8_takeOrder_19 rfl ?_
  refine q_8_orders h rfl tw_719 dX8_takeOrder_20 (fun v5 hv5 => ?_)
  refine g_aload_n h 1 dX8_takeOrder_23 rfl ?_
  refine q_8_read h rfl tw_720 dX8_takeOrder_24 (fun v6 hv6 => ?_)
  refine g_is (q := 29) h iw4 rfl rfl (by decide) (by clear iw4; replace hv1 := hv1.symm; replace hv2 := hv2.symm; replace hv3 := hv3.symm; replace hw4 := hw4.symm; replace hv5 := hv5.symm; replace hv6 := hv6.symm; subst hv6 hv5 hw4 hv3 hv2 hv1; exact od1 hV) dX8_takeOrder_27 (fun w7 hw7 iw7 => ?_)
  replace hw7 : w7 = m_to0 ω := by clear iw4 iw7; replace hv1 := hv1.symm; replace hv2 := hv2.symm; replace hv3 := hv3.symm; replace hw4 := hw4.symm; replace hv5 := hv5.symm; replace hv6 := hv6.symm; replace hw7 := hw7.symm; subst hw7 hv6 hv5 hw4 hv3 hv2 hv1; rfl
  refine g_iload_n h 0 dX8_takeOrder_28 rfl ?_
  by_cases c8 : v1 = 102
  · refine g_lookup (off := 43) (tgt := 72) h dX8_takeOrder_29 (by decide) (by rw [c8]; rfl) (by decide) ?_
    refine g_aload_n h 1 dX8_takeOrder_72 rfl ?_
    refine k_V_v (st := []) h hX (tX8_takeNumber (xl X) G F w7 iw7 (by clear iw4 iw7; replace hv1 := hv1.symm; replace hv2 := hv2.symm; replace hv3 := hv3.symm; replace hw4 := hw4.symm; replace hv5 := hv5.symm; replace hv6 := hv6.symm; replace hw7 := hw7.symm; subst hw7 hv6 hv5 hw4 hv3 hv2 hv1; exact hV.elim fun o q => q.elim fun a k => ⟨_, _, to0_IV k.1 h0 c8 (by decide)⟩)) rfl ⟨kd_lt rfl, ob_21 rfl⟩ rfl miX8_takeNumber tw_1025 (by decide) (by decide) rfl (Nat.le_of_ble_eq_true rfl) (by rw [hX]; exact Nat.zero_le _) (by rw [hX]; exact Nat.zero_le _) dX8_takeOrder_73 (fun w9 hw9 iw9 => ?_)
    refine g_aload_n h 1 dX8_takeOrder_76 rfl ?_
    refine g_bipush (v := 58) h dX8_takeOrder_77 (by decide) ?_
    refine k_V_v (st := []) h hX (tX8_takeSign (xl X) G F w9 iw9 58 (by clear iw4 iw7 iw9; replace hv1 := hv1.symm; replace hv2 := hv2.symm; replace hv3 := hv3.symm; replace hw4 := hw4.symm; replace hv5 := hv5.symm; replace hv6 := hv6.symm; replace hw7 := hw7.symm; replace hw9 := hw9.symm; subst hw9 hw7 hv6 hv5 hw4 hv3 hv2 hv1; exact hV.elim fun o q => q.elim fun a k => ⟨_, _, tn_IV (to0_IV k.1 h0 c8 (by decide))⟩)) rfl ⟨kd_lt rfl, ob_21 rfl⟩ rfl miX8_takeSign tw_1029 (by decide) (by decide) rfl (Nat.le_of_ble_eq_true rfl) (by rw [hX]; exact Nat.zero_le _) (by rw [hX]; exact Nat.zero_le _) dX8_takeOrder_79 (fun w10 hw10 iw10 => ?_)
    refine g_aload_n h 1 dX8_takeOrder_82 rfl ?_
    refine k_V_v (st := []) h hX (tX8_takeNumber (xl X) G F w10 iw10 (by clear iw4 iw7 iw9 iw10; replace hv1 := hv1.symm; replace hv2 := hv2.symm; replace hv3 := hv3.symm; replace hw4 := hw4.symm; replace hv5 := hv5.symm; replace hv6 := hv6.symm; replace hw7 := hw7.symm; replace hw9 := hw9.symm; replace hw10 := hw10.symm; subst hw10 hw9 hw7 hv6 hv5 hw4 hv3 hv2 hv1; exact hV.elim fun o q => q.elim fun a k => ⟨_, _, ts_IV (c := 58) (by decide) (tn_IV (to0_IV k.1 h0 c8 (by decide)))⟩)) rfl ⟨kd_lt rfl, ob_21 rfl⟩ rfl miX8_takeNumber tw_1025 (by decide) (by decide) rfl (Nat.le_of_ble_eq_true rfl) (by rw [hX]; exact Nat.zero_le _) (by rw [hX]; exact Nat.zero_le _) dX8_takeOrder_83 (fun w11 hw11 iw11 => ?_)
    have e13 : w11 = m_tlI (m_tn (m_ts (m_tn (m_to0 ω)) 58)) 0 := by clear iw4 iw7 iw9 iw10 iw11; replace hv1 := hv1.symm; replace hv2 := hv2.symm; replace hv3 := hv3.symm; replace hw4 := hw4.symm; replace hv5 := hv5.symm; replace hv6 := hv6.symm; replace hw7 := hw7.symm; replace hw9 := hw9.symm; replace hw10 := hw10.symm; replace hw11 := hw11.symm; subst hw11 hw10 hw9 hw7 hv6 hv5 hw4 hv3 hv2 hv1; rfl
    refine g_lt (ω2 := m_tlI (m_tn (m_ts (m_tn (m_to0 ω)) 58)) 0) (loc2 := [(1, .int v1), (0, .ref (F + 647))]) e13 rfl rfl ?_
    refine g_loop3 (hd := 86) (81) (fun j12 => Inv (m_tlI (m_tn (m_ts (m_tn (m_to0 ω)) 58)) j12) ∧ m_tl (m_tn (m_ts (m_tn (m_to0 ω)) 58)) = m_tlF (81 - j12) (m_tlI (m_tn (m_ts (m_tn (m_to0 ω)) 58)) j12) ∧ ∃ o, IV (m_tlI (m_tn (m_ts (m_tn (m_to0 ω)) 58)) j12) o j12) (fun j12 => [(1, .int v1), (0, .ref (F + 647))]) (fun j12 => cel F G (m_tlI (m_tn (m_ts (m_tn (m_to0 ω)) 58)) j12)) ⟨(e13 ▸ iw11), rfl, (by clear iw4 iw7 iw9 iw10 iw11; replace hv1 := hv1.symm; replace hv2 := hv2.symm; replace hv3 := hv3.symm; replace hw4 := hw4.symm; replace hv5 := hv5.symm; replace hv6 := hv6.symm; replace hw7 := hw7.symm; replace hw9 := hw9.symm; replace hw10 := hw10.symm; replace hw11 := hw11.symm; subst hw11 hw10 hw9 hw7 hv6 hv5 hw4 hv3 hv2 hv1; exact hV.elim fun o q => q.elim fun a k => ⟨_, (tn_IV (ts_IV (c := 58) (by decide) (tn_IV (to0_IV k.1 h0 c8 (by decide))))).le (Nat.zero_le _)⟩)⟩ (fun j12 hj16 hP14 ih15 => ?_)
    (try dsimp only)
    obtain ⟨iv17, hP1, hIVj⟩ := hP14
    refine g_aload_n h 1 dX8_takeOrder_86 rfl ?_
    refine q_8_isWrong h rfl tw_718 dX8_takeOrder_87 (fun v18 hv18 => ?_)
    refine g_if_ne (tgt := 185) h dX8_takeOrder_90 (by decide) (fun c19 => ?_) (fun c19 => ?_)
    · refine g_aload_n h 1 dX8_takeOrder_185 rfl ?_
      refine q_8_isWrong h rfl tw_718 dX8_takeOrder_186 (fun v20 hv20 => ?_)
      refine g_if_ne (tgt := 225) h dX8_takeOrder_189 (by decide) (fun c21 => ?_) (fun c21 => ?_)
      · exact e_vret h iv17 dX8_takeOrder_225 (by clear iw4 iw7 iw9 iw10 iw11 ih15; replace hv1 := hv1.symm; replace hv2 := hv2.symm; replace hv3 := hv3.symm; replace hw4 := hw4.symm; replace hv5 := hv5.symm; replace hv6 := hv6.symm; replace hw7 := hw7.symm; replace hw9 := hw9.symm; replace hw10 := hw10.symm; replace hw11 := hw11.symm; replace hv18 := hv18.symm; replace hv20 := hv20.symm; subst hv20 hv18 hw11 hw10 hw9 hw7 hv6 hv5 hw4 hv3 hv2 hv1; exact to_wr (toB_f c8 (tl_a hP1 hj16 c19)) c21)
      · refine g_aload_n h 1 dX8_takeOrder_192 rfl ?_
        refine q_8_sort h rfl tw_721 dX8_takeOrder_193 ?_
        refine g_aload_n h 1 dX8_takeOrder_196 rfl ?_
        refine q_8_orders h rfl tw_719 dX8_takeOrder_197 (fun v22 hv22 => ?_)
        refine g_iload_n h 0 dX8_takeOrder_200 rfl ?_
        refine g_is (q := 28) h iv17 rfl rfl (by decide) (by clear iw4 iw7 iw9 iw10 iw11 ih15; replace hv1 := hv1.symm; replace hv2 := hv2.symm; replace hv3 := hv3.symm; replace hw4 := hw4.symm; replace hv5 := hv5.symm; replace hv6 := hv6.symm; replace hw7 := hw7.symm; replace hw9 := hw9.symm; replace hw10 := hw10.symm; replace hw11 := hw11.symm; replace hv18 := hv18.symm; replace hv20 := hv20.symm; replace hv22 := hv22.symm; subst hv22 hv20 hv18 hw11 hw10 hw9 hw7 hv6 hv5 hw4 hv3 hv2 hv1; exact od3 (hIVj.elim fun o k => ⟨_, _, k⟩)) dX8_takeOrder_201 (fun w23 hw23 iw23 => ?_)
        refine g_aload_n h 1 dX8_takeOrder_202 rfl ?_
        refine g_dup h dX8_takeOrder_203 rfl ?_
        refine q_8_orders h rfl tw_719 dX8_takeOrder_204 (fun v24 hv24 => ?_)
        refine g_iconst (v := 1) h dX8_takeOrder_207 (by decide) ?_
        refine g_iadd h dX8_takeOrder_208 (g_name fun v25 hv25 => ?_)
        refine p_8_orders h iw23 rfl tw_719 dX8_takeOrder_209 (fun w26 hw26 iw26 => ?_)
        refine g_aload_n h 1 dX8_takeOrder_212 rfl ?_
        refine q_8_begins h rfl tw_722 dX8_takeOrder_213 ?_
        refine g_aload_n h 1 dX8_takeOrder_216 rfl ?_
        refine q_8_orders h rfl tw_719 dX8_takeOrder_217 (fun v27 hv27 => ?_)
        refine g_aload_n h 1 dX8_takeOrder_220 rfl ?_
        refine q_8_read h rfl tw_720 dX8_takeOrder_221 (fun v28 hv28 => ?_)
        refine g_is (q := 29) h iw26 rfl rfl (by decide) (by clear iw4 iw7 iw9 iw10 iw11 ih15 iw23 iw26; replace hv1 := hv1.symm; replace hv2 := hv2.symm; replace hv3 := hv3.symm; replace hw4 := hw4.symm; replace hv5 := hv5.symm; replace hv6 := hv6.symm; replace hw7 := hw7.symm; replace hw9 := hw9.symm; replace hw10 := hw10.symm; replace hw11 := hw11.symm; replace hv18 := hv18.symm; replace hv20 := hv20.symm; replace hv22 := hv22.symm; replace hw23 := hw23.symm; replace hv24 := hv24.symm; replace hv25 := hv25.symm; replace hw26 := hw26.symm; replace hv27 := hv27.symm; replace hv28 := hv28.symm; subst hv28 hv27 hw26 hv25 hv24 hw23 hv22 hv20 hv18 hw11 hw10 hw9 hw7 hv6 hv5 hw4 hv3 hv2 hv1; exact od2 (k := 0) (u := 0) (hIVj.elim fun o k => ⟨_, _, k⟩)) dX8_takeOrder_224 (fun w29 hw29 iw29 => ?_)
        exact e_vret h iw29 dX8_takeOrder_225 (by clear iw4 iw7 iw9 iw10 iw11 ih15 iw23 iw26 iw29; replace hv1 := hv1.symm; replace hv2 := hv2.symm; replace hv3 := hv3.symm; replace hw4 := hw4.symm; replace hv5 := hv5.symm; replace hv6 := hv6.symm; replace hw7 := hw7.symm; replace hw9 := hw9.symm; replace hw10 := hw10.symm; replace hw11 := hw11.symm; replace hv18 := hv18.symm; replace hv20 := hv20.symm; replace hv22 := hv22.symm; replace hw23 := hw23.symm; replace hv24 := hv24.symm; replace hv25 := hv25.symm; replace hw26 := hw26.symm; replace hv27 := hv27.symm; replace hv28 := hv28.symm; replace hw29 := hw29.symm; subst hw29 hv28 hv27 hw26 hv25 hv24 hw23 hv22 hv20 hv18 hw11 hw10 hw9 hw7 hv6 hv5 hw4 hv3 hv2 hv1; exact absurd c21 c19)
    · refine g_aload_n h 1 dX8_takeOrder_93 rfl ?_
      refine k_V_i (st := []) h hX (tX8_next (xl X) G F (m_tlI (m_tn (m_ts (m_tn (m_to0 ω)) 58)) j12) iv17 (by clear iw4 iw7 iw9 iw10 iw11 ih15; replace hv1 := hv1.symm; replace hv2 := hv2.symm; replace hv3 := hv3.symm; replace hw4 := hw4.symm; replace hv5 := hv5.symm; replace hv6 := hv6.symm; replace hw7 := hw7.symm; replace hw9 := hw9.symm; replace hw10 := hw10.symm; replace hw11 := hw11.symm; replace hv18 := hv18.symm; subst hv18 hw11 hw10 hw9 hw7 hv6 hv5 hw4 hv3 hv2 hv1; exact hIVj.elim fun o k => k.nx)) rfl ⟨kd_lt rfl, ob_21 rfl⟩ rfl miX8_next tw_1021 (by decide) (by decide) rfl (Nat.le_of_ble_eq_true rfl) (by rw [hX]; exact Nat.zero_le _) (by rw [hX]; exact Nat.zero_le _) dX8_takeOrder_94 (fun v30 hv30 => ?_)
      refine g_bipush (v := 44) h dX8_takeOrder_97 (by decide) ?_
      refine g_icmp_ne (tgt := 185) h dX8_takeOrder_99 (by decide) (fun c31 => ?_) (fun c31 => ?_)
      · refine g_aload_n h 1 dX8_takeOrder_185 rfl ?_
        refine q_8_isWrong h rfl tw_718 dX8_takeOrder_186 (fun v32 hv32 => ?_)
        refine g_if_ne (tgt := 225) h dX8_takeOrder_189 (by decide) (fun c33 => ?_) (fun c33 => ?_)
        · exact e_vret h iv17 dX8_takeOrder_225 (by clear iw4 iw7 iw9 iw10 iw11 ih15; replace hv1 := hv1.symm; replace hv2 := hv2.symm; replace hv3 := hv3.symm; replace hw4 := hw4.symm; replace hv5 := hv5.symm; replace hv6 := hv6.symm; replace hw7 := hw7.symm; replace hw9 := hw9.symm; replace hw10 := hw10.symm; replace hw11 := hw11.symm; replace hv18 := hv18.symm; replace hv30 := hv30.symm; replace hv32 := hv32.symm; subst hv32 hv30 hv18 hw11 hw10 hw9 hw7 hv6 hv5 hw4 hv3 hv2 hv1; exact absurd c19 c33)
        · refine g_aload_n h 1 dX8_takeOrder_192 rfl ?_
          refine q_8_sort h rfl tw_721 dX8_takeOrder_193 ?_
          refine g_aload_n h 1 dX8_takeOrder_196 rfl ?_
          refine q_8_orders h rfl tw_719 dX8_takeOrder_197 (fun v34 hv34 => ?_)
          refine g_iload_n h 0 dX8_takeOrder_200 rfl ?_
          refine g_is (q := 28) h iv17 rfl rfl (by decide) (by clear iw4 iw7 iw9 iw10 iw11 ih15; replace hv1 := hv1.symm; replace hv2 := hv2.symm; replace hv3 := hv3.symm; replace hw4 := hw4.symm; replace hv5 := hv5.symm; replace hv6 := hv6.symm; replace hw7 := hw7.symm; replace hw9 := hw9.symm; replace hw10 := hw10.symm; replace hw11 := hw11.symm; replace hv18 := hv18.symm; replace hv30 := hv30.symm; replace hv32 := hv32.symm; replace hv34 := hv34.symm; subst hv34 hv32 hv30 hv18 hw11 hw10 hw9 hw7 hv6 hv5 hw4 hv3 hv2 hv1; exact od3 (hIVj.elim fun o k => ⟨_, _, k⟩)) dX8_takeOrder_201 (fun w35 hw35 iw35 => ?_)
          refine g_aload_n h 1 dX8_takeOrder_202 rfl ?_
          refine g_dup h dX8_takeOrder_203 rfl ?_
          refine q_8_orders h rfl tw_719 dX8_takeOrder_204 (fun v36 hv36 => ?_)
          refine g_iconst (v := 1) h dX8_takeOrder_207 (by decide) ?_
          refine g_iadd h dX8_takeOrder_208 (g_name fun v37 hv37 => ?_)
          refine p_8_orders h iw35 rfl tw_719 dX8_takeOrder_209 (fun w38 hw38 iw38 => ?_)
          refine g_aload_n h 1 dX8_takeOrder_212 rfl ?_
          refine q_8_begins h rfl tw_722 dX8_takeOrder_213 ?_
          refine g_aload_n h 1 dX8_takeOrder_216 rfl ?_
          refine q_8_orders h rfl tw_719 dX8_takeOrder_217 (fun v39 hv39 => ?_)
          refine g_aload_n h 1 dX8_takeOrder_220 rfl ?_
          refine q_8_read h rfl tw_720 dX8_takeOrder_221 (fun v40 hv40 => ?_)
          refine g_is (q := 29) h iw38 rfl rfl (by decide) (by clear iw4 iw7 iw9 iw10 iw11 ih15 iw35 iw38; replace hv1 := hv1.symm; replace hv2 := hv2.symm; replace hv3 := hv3.symm; replace hw4 := hw4.symm; replace hv5 := hv5.symm; replace hv6 := hv6.symm; replace hw7 := hw7.symm; replace hw9 := hw9.symm; replace hw10 := hw10.symm; replace hw11 := hw11.symm; replace hv18 := hv18.symm; replace hv30 := hv30.symm; replace hv32 := hv32.symm; replace hv34 := hv34.symm; replace hw35 := hw35.symm; replace hv36 := hv36.symm; replace hv37 := hv37.symm; replace hw38 := hw38.symm; replace hv39 := hv39.symm; replace hv40 := hv40.symm; subst hv40 hv39 hw38 hv37 hv36 hw35 hv34 hv32 hv30 hv18 hw11 hw10 hw9 hw7 hv6 hv5 hw4 hv3 hv2 hv1; exact od2 (k := 0) (u := 0) (hIVj.elim fun o k => ⟨_, _, k⟩)) dX8_takeOrder_224 (fun w41 hw41 iw41 => ?_)
          exact e_vret h iw41 dX8_takeOrder_225 (by clear iw4 iw7 iw9 iw10 iw11 ih15 iw35 iw38 iw41; replace hv1 := hv1.symm; replace hv2 := hv2.symm; replace hv3 := hv3.symm; replace hw4 := hw4.symm; replace hv5 := hv5.symm; replace hv6 := hv6.symm; replace hw7 := hw7.symm; replace hw9 := hw9.symm; replace hw10 := hw10.symm; replace hw11 := hw11.symm; replace hv18 := hv18.symm; replace hv30 := hv30.symm; replace hv32 := hv32.symm; replace hv34 := hv34.symm; replace hw35 := hw35.symm; replace hv36 := hv36.symm; replace hv37 := hv37.symm; replace hw38 := hw38.symm; replace hv39 := hv39.symm; replace hv40 := hv40.symm; replace hw41 := hw41.symm; subst hw41 hv40 hv39 hw38 hv37 hv36 hw35 hv34 hv32 hv30 hv18 hw11 hw10 hw9 hw7 hv6 hv5 hw4 hv3 hv2 hv1; exact to_ok (toB_f c8 (tl_b hP1 hj16 c19 c31)) c33)
      · refine g_aload_n h 1 dX8_takeOrder_102 rfl ?_
        refine g_dup h dX8_takeOrder_103 rfl ?_
        refine q_8_spot h rfl tw_717 dX8_takeOrder_104 (fun v42 hv42 => ?_)
        refine g_iconst (v := 1) h dX8_takeOrder_107 (by decide) ?_
        refine g_iadd h dX8_takeOrder_108 (g_name fun v43 hv43 => ?_)
        refine p_8_spot h iv17 rfl tw_717 dX8_takeOrder_109 (fun w44 hw44 iw44 => ?_)
        refine g_aload_n h 1 dX8_takeOrder_112 rfl ?_
        refine k_V_v (st := []) h hX (tX8_takeNumber (xl X) G F w44 iw44 (by clear iw4 iw7 iw9 iw10 iw11 ih15 iw44; replace hv1 := hv1.symm; replace hv2 := hv2.symm; replace hv3 := hv3.symm; replace hw4 := hw4.symm; replace hv5 := hv5.symm; replace hv6 := hv6.symm; replace hw7 := hw7.symm; replace hw9 := hw9.symm; replace hw10 := hw10.symm; replace hw11 := hw11.symm; replace hv18 := hv18.symm; replace hv30 := hv30.symm; replace hv42 := hv42.symm; replace hv43 := hv43.symm; replace hw44 := hw44.symm; subst hw44 hv43 hv42 hv30 hv18 hw11 hw10 hw9 hw7 hv6 hv5 hw4 hv3 hv2 hv1; exact hIVj.elim fun o k => ⟨_, _, sp1_IV (by decide) k c19 c31⟩)) rfl ⟨kd_lt rfl, ob_21 rfl⟩ rfl miX8_takeNumber tw_1025 (by decide) (by decide) rfl (Nat.le_of_ble_eq_true rfl) (by rw [hX]; exact Nat.zero_le _) (by rw [hX]; exact Nat.zero_le _) dX8_takeOrder_113 (fun w45 hw45 iw45 => ?_)
        refine g_goto (tgt := 86) h dX8_takeOrder_116 (by decide) ?_
        have e46 : w45 = m_tlI (m_tn (m_ts (m_tn (m_to0 ω)) 58)) (j12 + 1) := by clear iw4 iw7 iw9 iw10 iw11 ih15 iw44 iw45; replace hv1 := hv1.symm; replace hv2 := hv2.symm; replace hv3 := hv3.symm; replace hw4 := hw4.symm; replace hv5 := hv5.symm; replace hv6 := hv6.symm; replace hw7 := hw7.symm; replace hw9 := hw9.symm; replace hw10 := hw10.symm; replace hw11 := hw11.symm; replace hv18 := hv18.symm; replace hv30 := hv30.symm; replace hv42 := hv42.symm; replace hv43 := hv43.symm; replace hw44 := hw44.symm; replace hw45 := hw45.symm; subst hw45 hw44 hv43 hv42 hv30 hv18 hw11 hw10 hw9 hw7 hv6 hv5 hw4 hv3 hv2 hv1; rfl
        exact g_lt e46 rfl rfl (ih15 (by clear iw4 iw7 iw9 iw10 iw11 ih15 iw44 iw45; replace hv1 := hv1.symm; replace hv2 := hv2.symm; replace hv3 := hv3.symm; replace hw4 := hw4.symm; replace hv5 := hv5.symm; replace hv6 := hv6.symm; replace hw7 := hw7.symm; replace hw9 := hw9.symm; replace hw10 := hw10.symm; replace hw11 := hw11.symm; replace hv18 := hv18.symm; replace hv30 := hv30.symm; replace hv42 := hv42.symm; replace hv43 := hv43.symm; replace hw44 := hw44.symm; replace hw45 := hw45.symm; subst hw45 hw44 hv43 hv42 hv30 hv18 hw11 hw10 hw9 hw7 hv6 hv5 hw4 hv3 hv2 hv1; exact hIVj.elim fun o k => Nat.lt_succ_of_le (k.al c19)) ⟨(e46 ▸ iw45), (by clear iw4 iw7 iw9 iw10 iw11 ih15 iw44 iw45; replace hv1 := hv1.symm; replace hv2 := hv2.symm; replace hv3 := hv3.symm; replace hw4 := hw4.symm; replace hv5 := hv5.symm; replace hv6 := hv6.symm; replace hw7 := hw7.symm; replace hw9 := hw9.symm; replace hw10 := hw10.symm; replace hw11 := hw11.symm; replace hv18 := hv18.symm; replace hv30 := hv30.symm; replace hv42 := hv42.symm; replace hv43 := hv43.symm; replace hw44 := hw44.symm; replace hw45 := hw45.symm; subst hw45 hw44 hv43 hv42 hv30 hv18 hw11 hw10 hw9 hw7 hv6 hv5 hw4 hv3 hv2 hv1; exact tl_c hP1 (hIVj.elim fun o k => Nat.lt_succ_of_le (k.al c19)) c19 c31), (by clear iw4 iw7 iw9 iw10 iw11 ih15 iw44 iw45; replace hv1 := hv1.symm; replace hv2 := hv2.symm; replace hv3 := hv3.symm; replace hw4 := hw4.symm; replace hv5 := hv5.symm; replace hv6 := hv6.symm; replace hw7 := hw7.symm; replace hw9 := hw9.symm; replace hw10 := hw10.symm; replace hw11 := hw11.symm; replace hv18 := hv18.symm; replace hv30 := hv30.symm; replace hv42 := hv42.symm; replace hv43 := hv43.symm; replace hw44 := hw44.symm; replace hw45 := hw45.symm; subst hw45 hw44 hv43 hv42 hv30 hv18 hw11 hw10 hw9 hw7 hv6 hv5 hw4 hv3 hv2 hv1; exact hIVj.elim fun o k => ⟨_, (tlS_IV k c19 c31).le (Nat.le_succ _)⟩)⟩)
  by_cases c47 : v1 = 106
  · refine g_lookup (off := 90) (tgt := 119) h dX8_takeOrder_29 (by decide) (by rw [c47]; rfl) (by decide) ?_
    refine g_aload_n h 1 dX8_takeOrder_119 rfl ?_
    refine k_V_v (st := []) h hX (tX8_takeNumber (xl X) G F w7 iw7 (by clear iw4 iw7; replace hv1 := hv1.symm; replace hv2 := hv2.symm; replace hv3 := hv3.symm; replace hw4 := hw4.symm; replace hv5 := hv5.symm; replace hv6 := hv6.symm; replace hw7 := hw7.symm; subst hw7 hv6 hv5 hw4 hv3 hv2 hv1; exact hV.elim fun o q => q.elim fun a k => ⟨_, _, to0_IV k.1 h0 c47 (by decide)⟩)) rfl ⟨kd_lt rfl, ob_21 rfl⟩ rfl miX8_takeNumber tw_1025 (by decide) (by decide) rfl (Nat.le_of_ble_eq_true rfl) (by rw [hX]; exact Nat.zero_le _) (by rw [hX]; exact Nat.zero_le _) dX8_takeOrder_120 (fun w48 hw48 iw48 => ?_)
    refine g_aload_n h 1 dX8_takeOrder_123 rfl ?_
    refine g_bipush (v := 61) h dX8_takeOrder_124 (by decide) ?_
    refine k_V_v (st := []) h hX (tX8_takeSign (xl X) G F w48 iw48 61 (by clear iw4 iw7 iw48; replace hv1 := hv1.symm; replace hv2 := hv2.symm; replace hv3 := hv3.symm; replace hw4 := hw4.symm; replace hv5 := hv5.symm; replace hv6 := hv6.symm; replace hw7 := hw7.symm; replace hw48 := hw48.symm; subst hw48 hw7 hv6 hv5 hw4 hv3 hv2 hv1; exact hV.elim fun o q => q.elim fun a k => ⟨_, _, tn_IV (to0_IV k.1 h0 c47 (by decide))⟩)) rfl ⟨kd_lt rfl, ob_21 rfl⟩ rfl miX8_takeSign tw_1029 (by decide) (by decide) rfl (Nat.le_of_ble_eq_true rfl) (by rw [hX]; exact Nat.zero_le _) (by rw [hX]; exact Nat.zero_le _) dX8_takeOrder_126 (fun w49 hw49 iw49 => ?_)
    refine g_aload_n h 1 dX8_takeOrder_129 rfl ?_
    refine k_V_v (st := []) h hX (tX8_takeMode (xl X) G F w49 iw49 (by clear iw4 iw7 iw48 iw49; replace hv1 := hv1.symm; replace hv2 := hv2.symm; replace hv3 := hv3.symm; replace hw4 := hw4.symm; replace hv5 := hv5.symm; replace hv6 := hv6.symm; replace hw7 := hw7.symm; replace hw48 := hw48.symm; replace hw49 := hw49.symm; subst hw49 hw48 hw7 hv6 hv5 hw4 hv3 hv2 hv1; exact hV.elim fun o q => q.elim fun a k => ⟨_, _, ts_IV (c := 61) (by decide) (tn_IV (to0_IV k.1 h0 c47 (by decide)))⟩)) rfl ⟨kd_lt rfl, ob_21 rfl⟩ rfl miX8_takeMode tw_1033 (by decide) (by decide) rfl (Nat.le_of_ble_eq_true rfl) (by rw [hX]; exact Nat.zero_le _) (by rw [hX]; exact Nat.zero_le _) dX8_takeOrder_130 (fun w50 hw50 iw50 => ?_)
    refine g_goto (tgt := 185) h dX8_takeOrder_133 (by decide) ?_
    refine g_aload_n h 1 dX8_takeOrder_185 rfl ?_
    refine q_8_isWrong h rfl tw_718 dX8_takeOrder_186 (fun v51 hv51 => ?_)
    refine g_if_ne (tgt := 225) h dX8_takeOrder_189 (by decide) (fun c52 => ?_) (fun c52 => ?_)
    · exact e_vret h iw50 dX8_takeOrder_225 (by clear iw4 iw7 iw48 iw49 iw50; replace hv1 := hv1.symm; replace hv2 := hv2.symm; replace hv3 := hv3.symm; replace hw4 := hw4.symm; replace hv5 := hv5.symm; replace hv6 := hv6.symm; replace hw7 := hw7.symm; replace hw48 := hw48.symm; replace hw49 := hw49.symm; replace hw50 := hw50.symm; replace hv51 := hv51.symm; subst hv51 hw50 hw49 hw48 hw7 hv6 hv5 hw4 hv3 hv2 hv1; exact to_wr (toB_j c8 c47) c52)
    · refine g_aload_n h 1 dX8_takeOrder_192 rfl ?_
      refine q_8_sort h rfl tw_721 dX8_takeOrder_193 ?_
      refine g_aload_n h 1 dX8_takeOrder_196 rfl ?_
      refine q_8_orders h rfl tw_719 dX8_takeOrder_197 (fun v53 hv53 => ?_)
      refine g_iload_n h 0 dX8_takeOrder_200 rfl ?_
      refine g_is (q := 28) h iw50 rfl rfl (by decide) (by clear iw4 iw7 iw48 iw49 iw50; replace hv1 := hv1.symm; replace hv2 := hv2.symm; replace hv3 := hv3.symm; replace hw4 := hw4.symm; replace hv5 := hv5.symm; replace hv6 := hv6.symm; replace hw7 := hw7.symm; replace hw48 := hw48.symm; replace hw49 := hw49.symm; replace hw50 := hw50.symm; replace hv51 := hv51.symm; replace hv53 := hv53.symm; subst hv53 hv51 hw50 hw49 hw48 hw7 hv6 hv5 hw4 hv3 hv2 hv1; exact od3 (hV.elim fun o q => q.elim fun a k => ⟨_, _, tm_IV (ts_IV (c := 61) (by decide) (tn_IV (to0_IV k.1 h0 c47 (by decide))))⟩)) dX8_takeOrder_201 (fun w54 hw54 iw54 => ?_)
      refine g_aload_n h 1 dX8_takeOrder_202 rfl ?_
      refine g_dup h dX8_takeOrder_203 rfl ?_
      refine q_8_orders h rfl tw_719 dX8_takeOrder_204 (fun v55 hv55 => ?_)
      refine g_iconst (v := 1) h dX8_takeOrder_207 (by decide) ?_
      refine g_iadd h dX8_takeOrder_208 (g_name fun v56 hv56 => ?_)
      refine p_8_orders h iw54 rfl tw_719 dX8_takeOrder_209 (fun w57 hw57 iw57 => ?_)
      refine g_aload_n h 1 dX8_takeOrder_212 rfl ?_
      refine q_8_begins h rfl tw_722 dX8_takeOrder_213 ?_
      refine g_aload_n h 1 dX8_takeOrder_216 rfl ?_
      refine q_8_orders h rfl tw_719 dX8_takeOrder_217 (fun v58 hv58 => ?_)
      refine g_aload_n h 1 dX8_takeOrder_220 rfl ?_
      refine q_8_read h rfl tw_720 dX8_takeOrder_221 (fun v59 hv59 => ?_)
      refine g_is (q := 29) h iw57 rfl rfl (by decide) (by clear iw4 iw7 iw48 iw49 iw50 iw54 iw57; replace hv1 := hv1.symm; replace hv2 := hv2.symm; replace hv3 := hv3.symm; replace hw4 := hw4.symm; replace hv5 := hv5.symm; replace hv6 := hv6.symm; replace hw7 := hw7.symm; replace hw48 := hw48.symm; replace hw49 := hw49.symm; replace hw50 := hw50.symm; replace hv51 := hv51.symm; replace hv53 := hv53.symm; replace hw54 := hw54.symm; replace hv55 := hv55.symm; replace hv56 := hv56.symm; replace hw57 := hw57.symm; replace hv58 := hv58.symm; replace hv59 := hv59.symm; subst hv59 hv58 hw57 hv56 hv55 hw54 hv53 hv51 hw50 hw49 hw48 hw7 hv6 hv5 hw4 hv3 hv2 hv1; exact od2 (k := 0) (u := 0) (hV.elim fun o q => q.elim fun a k => ⟨_, _, tm_IV (ts_IV (c := 61) (by decide) (tn_IV (to0_IV k.1 h0 c47 (by decide))))⟩)) dX8_takeOrder_224 (fun w60 hw60 iw60 => ?_)
      exact e_vret h iw60 dX8_takeOrder_225 (by clear iw4 iw7 iw48 iw49 iw50 iw54 iw57 iw60; replace hv1 := hv1.symm; replace hv2 := hv2.symm; replace hv3 := hv3.symm; replace hw4 := hw4.symm; replace hv5 := hv5.symm; replace hv6 := hv6.symm; replace hw7 := hw7.symm; replace hw48 := hw48.symm; replace hw49 := hw49.symm; replace hw50 := hw50.symm; replace hv51 := hv51.symm; replace hv53 := hv53.symm; replace hw54 := hw54.symm; replace hv55 := hv55.symm; replace hv56 := hv56.symm; replace hw57 := hw57.symm; replace hv58 := hv58.symm; replace hv59 := hv59.symm; replace hw60 := hw60.symm; subst hw60 hv59 hv58 hw57 hv56 hv55 hw54 hv53 hv51 hw50 hw49 hw48 hw7 hv6 hv5 hw4 hv3 hv2 hv1; exact to_ok (toB_j c8 c47) c52)
  by_cases c61 : v1 = 108
  · refine g_lookup (off := 107) (tgt := 136) h dX8_takeOrder_29 (by decide) (by rw [c61]; rfl) (by decide) ?_
    refine g_aload_n h 1 dX8_takeOrder_136 rfl ?_
    refine k_V_v (st := []) h hX (tX8_takeNumber (xl X) G F w7 iw7 (by clear iw4 iw7; replace hv1 := hv1.symm; replace hv2 := hv2.symm; replace hv3 := hv3.symm; replace hw4 := hw4.symm; replace hv5 := hv5.symm; replace hv6 := hv6.symm; replace hw7 := hw7.symm; subst hw7 hv6 hv5 hw4 hv3 hv2 hv1; exact hV.elim fun o q => q.elim fun a k => ⟨_, _, to0_IV k.1 h0 c61 (by decide)⟩)) rfl ⟨kd_lt rfl, ob_21 rfl⟩ rfl miX8_takeNumber tw_1025 (by decide) (by decide) rfl (Nat.le_of_ble_eq_true rfl) (by rw [hX]; exact Nat.zero_le _) (by rw [hX]; exact Nat.zero_le _) dX8_takeOrder_137 (fun w62 hw62 iw62 => ?_)
    refine g_aload_n h 1 dX8_takeOrder_140 rfl ?_
    refine g_bipush (v := 58) h dX8_takeOrder_141 (by decide) ?_
    refine k_V_v (st := []) h hX (tX8_takeSign (xl X) G F w62 iw62 58 (by clear iw4 iw7 iw62; replace hv1 := hv1.symm; replace hv2 := hv2.symm; replace hv3 := hv3.symm; replace hw4 := hw4.symm; replace hv5 := hv5.symm; replace hv6 := hv6.symm; replace hw7 := hw7.symm; replace hw62 := hw62.symm; subst hw62 hw7 hv6 hv5 hw4 hv3 hv2 hv1; exact hV.elim fun o q => q.elim fun a k => ⟨_, _, tn_IV (to0_IV k.1 h0 c61 (by decide))⟩)) rfl ⟨kd_lt rfl, ob_21 rfl⟩ rfl miX8_takeSign tw_1029 (by decide) (by decide) rfl (Nat.le_of_ble_eq_true rfl) (by rw [hX]; exact Nat.zero_le _) (by rw [hX]; exact Nat.zero_le _) dX8_takeOrder_143 (fun w63 hw63 iw63 => ?_)
    refine g_aload_n h 1 dX8_takeOrder_146 rfl ?_
    refine k_V_v (st := []) h hX (tX8_takeNumber (xl X) G F w63 iw63 (by clear iw4 iw7 iw62 iw63; replace hv1 := hv1.symm; replace hv2 := hv2.symm; replace hv3 := hv3.symm; replace hw4 := hw4.symm; replace hv5 := hv5.symm; replace hv6 := hv6.symm; replace hw7 := hw7.symm; replace hw62 := hw62.symm; replace hw63 := hw63.symm; subst hw63 hw62 hw7 hv6 hv5 hw4 hv3 hv2 hv1; exact hV.elim fun o q => q.elim fun a k => ⟨_, _, ts_IV (c := 58) (by decide) (tn_IV (to0_IV k.1 h0 c61 (by decide)))⟩)) rfl ⟨kd_lt rfl, ob_21 rfl⟩ rfl miX8_takeNumber tw_1025 (by decide) (by decide) rfl (Nat.le_of_ble_eq_true rfl) (by rw [hX]; exact Nat.zero_le _) (by rw [hX]; exact Nat.zero_le _) dX8_takeOrder_147 (fun w64 hw64 iw64 => ?_)
    refine g_aload_n h 1 dX8_takeOrder_150 rfl ?_
    refine g_bipush (v := 61) h dX8_takeOrder_151 (by decide) ?_
    refine k_V_v (st := []) h hX (tX8_takeSign (xl X) G F w64 iw64 61 (by clear iw4 iw7 iw62 iw63 iw64; replace hv1 := hv1.symm; replace hv2 := hv2.symm; replace hv3 := hv3.symm; replace hw4 := hw4.symm; replace hv5 := hv5.symm; replace hv6 := hv6.symm; replace hw7 := hw7.symm; replace hw62 := hw62.symm; replace hw63 := hw63.symm; replace hw64 := hw64.symm; subst hw64 hw63 hw62 hw7 hv6 hv5 hw4 hv3 hv2 hv1; exact hV.elim fun o q => q.elim fun a k => ⟨_, _, tn_IV (ts_IV (c := 58) (by decide) (tn_IV (to0_IV k.1 h0 c61 (by decide))))⟩)) rfl ⟨kd_lt rfl, ob_21 rfl⟩ rfl miX8_takeSign tw_1029 (by decide) (by decide) rfl (Nat.le_of_ble_eq_true rfl) (by rw [hX]; exact Nat.zero_le _) (by rw [hX]; exact Nat.zero_le _) dX8_takeOrder_153 (fun w65 hw65 iw65 => ?_)
    refine g_aload_n h 1 dX8_takeOrder_156 rfl ?_
    refine k_V_v (st := []) h hX (tX8_takeNumber (xl X) G F w65 iw65 (by clear iw4 iw7 iw62 iw63 iw64 iw65; replace hv1 := hv1.symm; replace hv2 := hv2.symm; replace hv3 := hv3.symm; replace hw4 := hw4.symm; replace hv5 := hv5.symm; replace hv6 := hv6.symm; replace hw7 := hw7.symm; replace hw62 := hw62.symm; replace hw63 := hw63.symm; replace hw64 := hw64.symm; replace hw65 := hw65.symm; subst hw65 hw64 hw63 hw62 hw7 hv6 hv5 hw4 hv3 hv2 hv1; exact hV.elim fun o q => q.elim fun a k => ⟨_, _, ts_IV (c := 61) (by decide) (tn_IV (ts_IV (c := 58) (by decide) (tn_IV (to0_IV k.1 h0 c61 (by decide)))))⟩)) rfl ⟨kd_lt rfl, ob_21 rfl⟩ rfl miX8_takeNumber tw_1025 (by decide) (by decide) rfl (Nat.le_of_ble_eq_true rfl) (by rw [hX]; exact Nat.zero_le _) (by rw [hX]; exact Nat.zero_le _) dX8_takeOrder_157 (fun w66 hw66 iw66 => ?_)
    refine g_goto (tgt := 185) h dX8_takeOrder_160 (by decide) ?_
    refine g_aload_n h 1 dX8_takeOrder_185 rfl ?_
    refine q_8_isWrong h rfl tw_718 dX8_takeOrder_186 (fun v67 hv67 => ?_)
    refine g_if_ne (tgt := 225) h dX8_takeOrder_189 (by decide) (fun c68 => ?_) (fun c68 => ?_)
    · exact e_vret h iw66 dX8_takeOrder_225 (by clear iw4 iw7 iw62 iw63 iw64 iw65 iw66; replace hv1 := hv1.symm; replace hv2 := hv2.symm; replace hv3 := hv3.symm; replace hw4 := hw4.symm; replace hv5 := hv5.symm; replace hv6 := hv6.symm; replace hw7 := hw7.symm; replace hw62 := hw62.symm; replace hw63 := hw63.symm; replace hw64 := hw64.symm; replace hw65 := hw65.symm; replace hw66 := hw66.symm; replace hv67 := hv67.symm; subst hv67 hw66 hw65 hw64 hw63 hw62 hw7 hv6 hv5 hw4 hv3 hv2 hv1; exact to_wr (toB_l c8 c47 c61) c68)
    · refine g_aload_n h 1 dX8_takeOrder_192 rfl ?_
      refine q_8_sort h rfl tw_721 dX8_takeOrder_193 ?_
      refine g_aload_n h 1 dX8_takeOrder_196 rfl ?_
      refine q_8_orders h rfl tw_719 dX8_takeOrder_197 (fun v69 hv69 => ?_)
      refine g_iload_n h 0 dX8_takeOrder_200 rfl ?_
      refine g_is (q := 28) h iw66 rfl rfl (by decide) (by clear iw4 iw7 iw62 iw63 iw64 iw65 iw66; replace hv1 := hv1.symm; replace hv2 := hv2.symm; replace hv3 := hv3.symm; replace hw4 := hw4.symm; replace hv5 := hv5.symm; replace hv6 := hv6.symm; replace hw7 := hw7.symm; replace hw62 := hw62.symm; replace hw63 := hw63.symm; replace hw64 := hw64.symm; replace hw65 := hw65.symm; replace hw66 := hw66.symm; replace hv67 := hv67.symm; replace hv69 := hv69.symm; subst hv69 hv67 hw66 hw65 hw64 hw63 hw62 hw7 hv6 hv5 hw4 hv3 hv2 hv1; exact od3 (hV.elim fun o q => q.elim fun a k => ⟨_, _, tn_IV (ts_IV (c := 61) (by decide) (tn_IV (ts_IV (c := 58) (by decide) (tn_IV (to0_IV k.1 h0 c61 (by decide))))))⟩)) dX8_takeOrder_201 (fun w70 hw70 iw70 => ?_)
      refine g_aload_n h 1 dX8_takeOrder_202 rfl ?_
      refine g_dup h dX8_takeOrder_203 rfl ?_
      refine q_8_orders h rfl tw_719 dX8_takeOrder_204 (fun v71 hv71 => ?_)
      refine g_iconst (v := 1) h dX8_takeOrder_207 (by decide) ?_
      refine g_iadd h dX8_takeOrder_208 (g_name fun v72 hv72 => ?_)
      refine p_8_orders h iw70 rfl tw_719 dX8_takeOrder_209 (fun w73 hw73 iw73 => ?_)
      refine g_aload_n h 1 dX8_takeOrder_212 rfl ?_
      refine q_8_begins h rfl tw_722 dX8_takeOrder_213 ?_
      refine g_aload_n h 1 dX8_takeOrder_216 rfl ?_
      refine q_8_orders h rfl tw_719 dX8_takeOrder_217 (fun v74 hv74 => ?_)
      refine g_aload_n h 1 dX8_takeOrder_220 rfl ?_
      refine q_8_read h rfl tw_720 dX8_takeOrder_221 (fun v75 hv75 => ?_)
      refine g_is (q := 29) h iw73 rfl rfl (by decide) (by clear iw4 iw7 iw62 iw63 iw64 iw65 iw66 iw70 iw73; replace hv1 := hv1.symm; replace hv2 := hv2.symm; replace hv3 := hv3.symm; replace hw4 := hw4.symm; replace hv5 := hv5.symm; replace hv6 := hv6.symm; replace hw7 := hw7.symm; replace hw62 := hw62.symm; replace hw63 := hw63.symm; replace hw64 := hw64.symm; replace hw65 := hw65.symm; replace hw66 := hw66.symm; replace hv67 := hv67.symm; replace hv69 := hv69.symm; replace hw70 := hw70.symm; replace hv71 := hv71.symm; replace hv72 := hv72.symm; replace hw73 := hw73.symm; replace hv74 := hv74.symm; replace hv75 := hv75.symm; subst hv75 hv74 hw73 hv72 hv71 hw70 hv69 hv67 hw66 hw65 hw64 hw63 hw62 hw7 hv6 hv5 hw4 hv3 hv2 hv1; exact od2 (k := 0) (u := 0) (hV.elim fun o q => q.elim fun a k => ⟨_, _, tn_IV (ts_IV (c := 61) (by decide) (tn_IV (ts_IV (c := 58) (by decide) (tn_IV (to0_IV k.1 h0 c61 (by decide))))))⟩)) dX8_takeOrder_224 (fun w76 hw76 iw76 => ?_)
      exact e_vret h iw76 dX8_takeOrder_225 (by clear iw4 iw7 iw62 iw63 iw64 iw65 iw66 iw70 iw73 iw76; replace hv1 := hv1.symm; replace hv2 := hv2.symm; replace hv3 := hv3.symm; replace hw4 := hw4.symm; replace hv5 := hv5.symm; replace hv6 := hv6.symm; replace hw7 := hw7.symm; replace hw62 := hw62.symm; replace hw63 := hw63.symm; replace hw64 := hw64.symm; replace hw65 := hw65.symm; replace hw66 := hw66.symm; replace hv67 := hv67.symm; replace hv69 := hv69.symm; replace hw70 := hw70.symm; replace hv71 := hv71.symm; replace hv72 := hv72.symm; replace hw73 := hw73.symm; replace hv74 := hv74.symm; replace hv75 := hv75.symm; replace hw76 := hw76.symm; subst hw76 hv75 hv74 hw73 hv72 hv71 hw70 hv69 hv67 hw66 hw65 hw64 hw63 hw62 hw7 hv6 hv5 hw4 hv3 hv2 hv1; exact to_ok (toB_l c8 c47 c61) c68)
  by_cases c77 : v1 = 116
  · refine g_lookup (off := 134) (tgt := 163) h dX8_takeOrder_29 (by decide) (by rw [c77]; rfl) (by decide) ?_
    refine g_aload_n h 1 dX8_takeOrder_163 rfl ?_
    refine k_V_v (st := []) h hX (tX8_takeNumber (xl X) G F w7 iw7 (by clear iw4 iw7; replace hv1 := hv1.symm; replace hv2 := hv2.symm; replace hv3 := hv3.symm; replace hw4 := hw4.symm; replace hv5 := hv5.symm; replace hv6 := hv6.symm; replace hw7 := hw7.symm; subst hw7 hv6 hv5 hw4 hv3 hv2 hv1; exact hV.elim fun o q => q.elim fun a k => ⟨_, _, to0_IV k.1 h0 c77 (by decide)⟩)) rfl ⟨kd_lt rfl, ob_21 rfl⟩ rfl miX8_takeNumber tw_1025 (by decide) (by decide) rfl (Nat.le_of_ble_eq_true rfl) (by rw [hX]; exact Nat.zero_le _) (by rw [hX]; exact Nat.zero_le _) dX8_takeOrder_164 (fun w78 hw78 iw78 => ?_)
    refine g_goto (tgt := 185) h dX8_takeOrder_167 (by decide) ?_
    refine g_aload_n h 1 dX8_takeOrder_185 rfl ?_
    refine q_8_isWrong h rfl tw_718 dX8_takeOrder_186 (fun v79 hv79 => ?_)
    refine g_if_ne (tgt := 225) h dX8_takeOrder_189 (by decide) (fun c80 => ?_) (fun c80 => ?_)
    · exact e_vret h iw78 dX8_takeOrder_225 (by clear iw4 iw7 iw78; replace hv1 := hv1.symm; replace hv2 := hv2.symm; replace hv3 := hv3.symm; replace hw4 := hw4.symm; replace hv5 := hv5.symm; replace hv6 := hv6.symm; replace hw7 := hw7.symm; replace hw78 := hw78.symm; replace hv79 := hv79.symm; subst hv79 hw78 hw7 hv6 hv5 hw4 hv3 hv2 hv1; exact to_wr (toB_t c8 c47 c61 c77) c80)
    · refine g_aload_n h 1 dX8_takeOrder_192 rfl ?_
      refine q_8_sort h rfl tw_721 dX8_takeOrder_193 ?_
      refine g_aload_n h 1 dX8_takeOrder_196 rfl ?_
      refine q_8_orders h rfl tw_719 dX8_takeOrder_197 (fun v81 hv81 => ?_)
      refine g_iload_n h 0 dX8_takeOrder_200 rfl ?_
      refine g_is (q := 28) h iw78 rfl rfl (by decide) (by clear iw4 iw7 iw78; replace hv1 := hv1.symm; replace hv2 := hv2.symm; replace hv3 := hv3.symm; replace hw4 := hw4.symm; replace hv5 := hv5.symm; replace hv6 := hv6.symm; replace hw7 := hw7.symm; replace hw78 := hw78.symm; replace hv79 := hv79.symm; replace hv81 := hv81.symm; subst hv81 hv79 hw78 hw7 hv6 hv5 hw4 hv3 hv2 hv1; exact od3 (hV.elim fun o q => q.elim fun a k => ⟨_, _, tn_IV (to0_IV k.1 h0 c77 (by decide))⟩)) dX8_takeOrder_201 (fun w82 hw82 iw82 => ?_)
      refine g_aload_n h 1 dX8_takeOrder_202 rfl ?_
      refine g_dup h dX8_takeOrder_203 rfl ?_
      refine q_8_orders h rfl tw_719 dX8_takeOrder_204 (fun v83 hv83 => ?_)
      refine g_iconst (v := 1) h dX8_takeOrder_207 (by decide) ?_
      refine g_iadd h dX8_takeOrder_208 (g_name fun v84 hv84 => ?_)
      refine p_8_orders h iw82 rfl tw_719 dX8_takeOrder_209 (fun w85 hw85 iw85 => ?_)
      refine g_aload_n h 1 dX8_takeOrder_212 rfl ?_
      refine q_8_begins h rfl tw_722 dX8_takeOrder_213 ?_
      refine g_aload_n h 1 dX8_takeOrder_216 rfl ?_
      refine q_8_orders h rfl tw_719 dX8_takeOrder_217 (fun v86 hv86 => ?_)
      refine g_aload_n h 1 dX8_takeOrder_220 rfl ?_
      refine q_8_read h rfl tw_720 dX8_takeOrder_221 (fun v87 hv87 => ?_)
      refine g_is (q := 29) h iw85 rfl rfl (by decide) (by clear iw4 iw7 iw78 iw82 iw85; replace hv1 := hv1.symm; replace hv2 := hv2.symm; replace hv3 := hv3.symm; replace hw4 := hw4.symm; replace hv5 := hv5.symm; replace hv6 := hv6.symm; replace hw7 := hw7.symm; replace hw78 := hw78.symm; replace hv79 := hv79.symm; replace hv81 := hv81.symm; replace hw82 := hw82.symm; replace hv83 := hv83.symm; replace hv84 := hv84.symm; replace hw85 := hw85.symm; replace hv86 := hv86.symm; replace hv87 := hv87.symm; subst hv87 hv86 hw85 hv84 hv83 hw82 hv81 hv79 hw78 hw7 hv6 hv5 hw4 hv3 hv2 hv1; exact od2 (k := 0) (u := 0) (hV.elim fun o q => q.elim fun a k => ⟨_, _, tn_IV (to0_IV k.1 h0 c77 (by decide))⟩)) dX8_takeOrder_224 (fun w88 hw88 iw88 => ?_)
      exact e_vret h iw88 dX8_takeOrder_225 (by clear iw4 iw7 iw78 iw82 iw85 iw88; replace hv1 := hv1.symm; replace hv2 := hv2.symm; replace hv3 := hv3.symm; replace hw4 := hw4.symm; replace hv5 := hv5.symm; replace hv6 := hv6.symm; replace hw7 := hw7.symm; replace hw78 := hw78.symm; replace hv79 := hv79.symm; replace hv81 := hv81.symm; replace hw82 := hw82.symm; replace hv83 := hv83.symm; replace hv84 := hv84.symm; replace hw85 := hw85.symm; replace hv86 := hv86.symm; replace hv87 := hv87.symm; replace hw88 := hw88.symm; subst hw88 hv87 hv86 hw85 hv84 hv83 hw82 hv81 hv79 hw78 hw7 hv6 hv5 hw4 hv3 hv2 hv1; exact to_ok (toB_t c8 c47 c61 c77) c80)
  refine g_lookup (off := 141) (tgt := 170) h dX8_takeOrder_29 (by decide) (lko_4 c8 c47 c61 c77) (by decide) ?_
  refine g_aload_n h 1 dX8_takeOrder_170 rfl ?_
  refine g_dup h dX8_takeOrder_171 rfl ?_
  refine q_8_spot h rfl tw_717 dX8_takeOrder_172 (fun v89 hv89 => ?_)
  refine g_iconst (v := 1) h dX8_takeOrder_175 (by decide) ?_
  refine g_isub h dX8_takeOrder_176 (g_name fun v90 hv90 => ?_)
  refine p_8_spot h iw7 rfl tw_717 dX8_takeOrder_177 (fun w91 hw91 iw91 => ?_)
  refine g_aload_n h 1 dX8_takeOrder_180 rfl ?_
  refine g_iconst (v := 1) h dX8_takeOrder_181 (by decide) ?_
  refine p_8_isWrong h iw91 rfl rfl rfl tw_718 dX8_takeOrder_182 (fun w92 hw92 iw92 => ?_)
  refine g_aload_n h 1 dX8_takeOrder_185 rfl ?_
  refine q_8_isWrong h rfl tw_718 dX8_takeOrder_186 (fun v93 hv93 => ?_)
  refine g_if_ne (tgt := 225) h dX8_takeOrder_189 (by decide) (fun c94 => ?_) (fun c94 => ?_)
  · exact e_vret h iw92 dX8_takeOrder_225 (by clear iw4 iw7 iw91 iw92; replace hv1 := hv1.symm; replace hv2 := hv2.symm; replace hv3 := hv3.symm; replace hw4 := hw4.symm; replace hv5 := hv5.symm; replace hv6 := hv6.symm; replace hw7 := hw7.symm; replace hv89 := hv89.symm; replace hv90 := hv90.symm; replace hw91 := hw91.symm; replace hw92 := hw92.symm; replace hv93 := hv93.symm; subst hv93 hw92 hw91 hv90 hv89 hw7 hv6 hv5 hw4 hv3 hv2 hv1; exact to_wr (toB_x c8 c47 c61 c77) c94)
  · refine g_aload_n h 1 dX8_takeOrder_192 rfl ?_
    refine q_8_sort h rfl tw_721 dX8_takeOrder_193 ?_
    refine g_aload_n h 1 dX8_takeOrder_196 rfl ?_
    refine q_8_orders h rfl tw_719 dX8_takeOrder_197 (fun v95 hv95 => ?_)
    refine g_iload_n h 0 dX8_takeOrder_200 rfl ?_
    refine g_is (q := 28) h iw92 rfl rfl (by decide) (by clear iw4 iw7 iw91 iw92; replace hv1 := hv1.symm; replace hv2 := hv2.symm; replace hv3 := hv3.symm; replace hw4 := hw4.symm; replace hv5 := hv5.symm; replace hv6 := hv6.symm; replace hw7 := hw7.symm; replace hv89 := hv89.symm; replace hv90 := hv90.symm; replace hw91 := hw91.symm; replace hw92 := hw92.symm; replace hv93 := hv93.symm; replace hv95 := hv95.symm; subst hv95 hv93 hw92 hw91 hv90 hv89 hw7 hv6 hv5 hw4 hv3 hv2 hv1; exact od3 (toX_IV' hV)) dX8_takeOrder_201 (fun w96 hw96 iw96 => ?_)
    refine g_aload_n h 1 dX8_takeOrder_202 rfl ?_
    refine g_dup h dX8_takeOrder_203 rfl ?_
    refine q_8_orders h rfl tw_719 dX8_takeOrder_204 (fun v97 hv97 => ?_)
    refine g_iconst (v := 1) h dX8_takeOrder_207 (by decide) ?_
    refine g_iadd h dX8_takeOrder_208 (g_name fun v98 hv98 => ?_)
    refine p_8_orders h iw96 rfl tw_719 dX8_takeOrder_209 (fun w99 hw99 iw99 => ?_)
    refine g_aload_n h 1 dX8_takeOrder_212 rfl ?_
    refine q_8_begins h rfl tw_722 dX8_takeOrder_213 ?_
    refine g_aload_n h 1 dX8_takeOrder_216 rfl ?_
    refine q_8_orders h rfl tw_719 dX8_takeOrder_217 (fun v100 hv100 => ?_)
    refine g_aload_n h 1 dX8_takeOrder_220 rfl ?_
    refine q_8_read h rfl tw_720 dX8_takeOrder_221 (fun v101 hv101 => ?_)
    refine g_is (q := 29) h iw99 rfl rfl (by decide) (by clear iw4 iw7 iw91 iw92 iw96 iw99; replace hv1 := hv1.symm; replace hv2 := hv2.symm; replace hv3 := hv3.symm; replace hw4 := hw4.symm; replace hv5 := hv5.symm; replace hv6 := hv6.symm; replace hw7 := hw7.symm; replace hv89 := hv89.symm; replace hv90 := hv90.symm; replace hw91 := hw91.symm; replace hw92 := hw92.symm; replace hv93 := hv93.symm; replace hv95 := hv95.symm; replace hw96 := hw96.symm; replace hv97 := hv97.symm; replace hv98 := hv98.symm; replace hw99 := hw99.symm; replace hv100 := hv100.symm; replace hv101 := hv101.symm; subst hv101 hv100 hw99 hv98 hv97 hw96 hv95 hv93 hw92 hw91 hv90 hv89 hw7 hv6 hv5 hw4 hv3 hv2 hv1; exact od2 (k := 0) (u := 0) (toX_IV' hV)) dX8_takeOrder_224 (fun w102 hw102 iw102 => ?_)
    exact e_vret h iw102 dX8_takeOrder_225 (by clear iw4 iw7 iw91 iw92 iw96 iw99 iw102; replace hv1 := hv1.symm; replace hv2 := hv2.symm; replace hv3 := hv3.symm; replace hw4 := hw4.symm; replace hv5 := hv5.symm; replace hv6 := hv6.symm; replace hw7 := hw7.symm; replace hv89 := hv89.symm; replace hv90 := hv90.symm; replace hw91 := hw91.symm; replace hw92 := hw92.symm; replace hv93 := hv93.symm; replace hv95 := hv95.symm; replace hw96 := hw96.symm; replace hv97 := hv97.symm; replace hv98 := hv98.symm; replace hw99 := hw99.symm; replace hv100 := hv100.symm; replace hv101 := hv101.symm; replace hw102 := hw102.symm; subst hw102 hv101 hv100 hw99 hv98 hv97 hw96 hv95 hv93 hw92 hw91 hv90 hv89 hw7 hv6 hv5 hw4 hv3 hv2 hv1; exact to_ok (toB_x c8 c47 c61 c77) c94)
set_option maxHeartbeats 4000000 in
set_option maxRecDepth 100000 in
theorem tX8_fault (l0 : Launch) (G : fG) (F : Nat) (ω : fOm) (hI : Inv ω) (hp : 0 ≤ ω 647 8 ∧ ω 647 8 ≤ 80) : CT l0 G F yX8_fault cX8_fault 1 (some .int) 3 [.ref (F + 647)] ω (some (.int (m_ftR ω))) (m_ft ω) := by
  refine ct_met (own := RX8) (by decide +kernel) rfl (Nat.le_of_ble_eq_true rfl) (fun X hXl hX h => ?_)
  subst hXl
  refine g_aload_n h 0 dX8_fault_0 rfl ?_
  refine g_iconst (v := 0) h dX8_fault_1 (by decide) ?_
  refine p_8_spot h hI rfl tw_717 dX8_fault_2 (fun w1 hw1 iw1 => ?_)
  refine g_aload_n h 0 dX8_fault_5 rfl ?_
  refine g_iconst (v := 0) h dX8_fault_6 (by decide) ?_
  refine p_8_isWrong h iw1 rfl rfl rfl tw_718 dX8_fault_7 (fun w2 hw2 iw2 => ?_)
  refine g_aload_n h 0 dX8_fault_10 rfl ?_
  refine g_iconst (v := 0) h dX8_fault_11 (by decide) ?_
  refine p_8_orders h iw2 rfl tw_719 dX8_fault_12 (fun w3 hw3 iw3 => ?_)
  refine g_aload_n h 0 dX8_fault_15 rfl ?_
  refine g_iconst (v := 0) h dX8_fault_16 (by decide) ?_
  refine p_8_read h iw3 rfl tw_720 dX8_fault_17 (fun w4 hw4 iw4 => ?_)
  refine g_aload_n h 0 dX8_fault_20 rfl ?_
  refine k_V_v (st := []) h hX (tX8_takeOrder (xl X) G F w4 iw4 (by clear iw1 iw2 iw3 iw4; replace hw1 := hw1.symm; replace hw2 := hw2.symm; replace hw3 := hw3.symm; replace hw4 := hw4.symm; subst hw4 hw3 hw2 hw1; exact ⟨0, 0, ft0_IV hp, by decide⟩) (by clear iw1 iw2 iw3 iw4; replace hw1 := hw1.symm; replace hw2 := hw2.symm; replace hw3 := hw3.symm; replace hw4 := hw4.symm; subst hw4 hw3 hw2 hw1; exact ft0_10)) rfl ⟨kd_lt rfl, ob_21 rfl⟩ rfl miX8_takeOrder tw_1017 (by decide) (by decide) rfl (Nat.le_of_ble_eq_true rfl) (by rw [hX]; exact Nat.zero_le _) (by rw [hX]; exact Nat.zero_le _) dX8_fault_21 (fun w5 hw5 iw5 => ?_)
  have e7 : w5 = m_ftI (m_ft1 ω) 0 := by clear iw1 iw2 iw3 iw4 iw5; replace hw1 := hw1.symm; replace hw2 := hw2.symm; replace hw3 := hw3.symm; replace hw4 := hw4.symm; replace hw5 := hw5.symm; subst hw5 hw4 hw3 hw2 hw1; rfl
  refine g_lt (ω2 := m_ftI (m_ft1 ω) 0) (loc2 := [(0, .ref (F + 647))]) e7 rfl rfl ?_
  refine g_loop3 (hd := 24) (81) (fun j6 => Inv (m_ftI (m_ft1 ω) j6) ∧ m_ft ω = m_ftF (81 - j6) (m_ftI (m_ft1 ω) j6) ∧ FV (m_ftI (m_ft1 ω) j6) j6) (fun j6 => [(0, .ref (F + 647))]) (fun j6 => cel F G (m_ftI (m_ft1 ω) j6)) ⟨(e7 ▸ iw5), rfl, (ft1_FV hp)⟩ (fun j6 hj10 hP8 ih9 => ?_)
  (try dsimp only)
  obtain ⟨iv11, hP1, hFV⟩ := hP8
  refine g_aload_n h 0 dX8_fault_24 rfl ?_
  refine q_8_isWrong h rfl tw_718 dX8_fault_25 (fun v12 hv12 => ?_)
  refine g_if_ne (tgt := 62) h dX8_fault_28 (by decide) (fun c13 => ?_) (fun c13 => ?_)
  · refine g_aload_n h 0 dX8_fault_62 rfl ?_
    refine q_8_isWrong h rfl tw_718 dX8_fault_63 (fun v14 hv14 => ?_)
    refine g_if_eq (tgt := 76) h dX8_fault_66 (by decide) (fun c15 => ?_) (fun c15 => ?_)
    · refine g_bipush (v := (-6)) h dX8_fault_76 (by decide) ?_
      exact e_iret h iv11 dX8_fault_78 (by clear iw1 iw2 iw3 iw4 iw5 ih9; replace hw1 := hw1.symm; replace hw2 := hw2.symm; replace hw3 := hw3.symm; replace hw4 := hw4.symm; replace hw5 := hw5.symm; replace hv12 := hv12.symm; replace hv14 := hv14.symm; subst hv14 hv12 hw5 hw4 hw3 hw2 hw1; exact absurd c15 c13) (by clear iw1 iw2 iw3 iw4 iw5 ih9; replace hw1 := hw1.symm; replace hw2 := hw2.symm; replace hw3 := hw3.symm; replace hw4 := hw4.symm; replace hw5 := hw5.symm; replace hv12 := hv12.symm; replace hv14 := hv14.symm; subst hv14 hv12 hw5 hw4 hw3 hw2 hw1; exact (ft_a hP1 hj10 c13).symm)
    · refine g_aload_n h 0 dX8_fault_69 rfl ?_
      refine q_8_spot h rfl tw_717 dX8_fault_70 (fun v16 hv16 => ?_)
      refine g_goto (tgt := 78) h dX8_fault_73 (by decide) ?_
      exact e_iret h iv11 dX8_fault_78 (by clear iw1 iw2 iw3 iw4 iw5 ih9; replace hw1 := hw1.symm; replace hw2 := hw2.symm; replace hw3 := hw3.symm; replace hw4 := hw4.symm; replace hw5 := hw5.symm; replace hv12 := hv12.symm; replace hv14 := hv14.symm; replace hv16 := hv16.symm; subst hv16 hv14 hv12 hw5 hw4 hw3 hw2 hw1; (unfold m_ftR; rw [ft_a hP1 hj10 c13]; first | (simp only [if_neg c13, if_neg c15]; done) | (simp only [if_neg c13, if_neg c15]; rfl))) (by clear iw1 iw2 iw3 iw4 iw5 ih9; replace hw1 := hw1.symm; replace hw2 := hw2.symm; replace hw3 := hw3.symm; replace hw4 := hw4.symm; replace hw5 := hw5.symm; replace hv12 := hv12.symm; replace hv14 := hv14.symm; replace hv16 := hv16.symm; subst hv16 hv14 hv12 hw5 hw4 hw3 hw2 hw1; exact (ft_a hP1 hj10 c13).symm)
  · refine g_aload_n h 0 dX8_fault_31 rfl ?_
    refine q_8_spot h rfl tw_717 dX8_fault_32 (fun v17 hv17 => ?_)
    refine g_aload_n h 0 dX8_fault_35 rfl ?_
    refine q_8_padMany h rfl tw_716 dX8_fault_36 (fun v18 hv18 => ?_)
    refine g_icmp_ge (tgt := 62) h dX8_fault_39 (by decide) (fun c19 => ?_) (fun c19 => ?_)
    · refine g_aload_n h 0 dX8_fault_62 rfl ?_
      refine q_8_isWrong h rfl tw_718 dX8_fault_63 (fun v20 hv20 => ?_)
      refine g_if_eq (tgt := 76) h dX8_fault_66 (by decide) (fun c21 => ?_) (fun c21 => ?_)
      · refine g_bipush (v := (-6)) h dX8_fault_76 (by decide) ?_
        exact e_iret h iv11 dX8_fault_78 (by clear iw1 iw2 iw3 iw4 iw5 ih9; replace hw1 := hw1.symm; replace hw2 := hw2.symm; replace hw3 := hw3.symm; replace hw4 := hw4.symm; replace hw5 := hw5.symm; replace hv12 := hv12.symm; replace hv17 := hv17.symm; replace hv18 := hv18.symm; replace hv20 := hv20.symm; subst hv20 hv18 hv17 hv12 hw5 hw4 hw3 hw2 hw1; (unfold m_ftR; rw [ft_b hP1 hj10 c13 c19]; first | (simp only [if_pos c13, if_pos c19, if_pos c21]; done) | (simp only [if_pos c13, if_pos c19, if_pos c21]; rfl))) (by clear iw1 iw2 iw3 iw4 iw5 ih9; replace hw1 := hw1.symm; replace hw2 := hw2.symm; replace hw3 := hw3.symm; replace hw4 := hw4.symm; replace hw5 := hw5.symm; replace hv12 := hv12.symm; replace hv17 := hv17.symm; replace hv18 := hv18.symm; replace hv20 := hv20.symm; subst hv20 hv18 hv17 hv12 hw5 hw4 hw3 hw2 hw1; exact (ft_b hP1 hj10 c13 c19).symm)
      · refine g_aload_n h 0 dX8_fault_69 rfl ?_
        refine q_8_spot h rfl tw_717 dX8_fault_70 (fun v22 hv22 => ?_)
        refine g_goto (tgt := 78) h dX8_fault_73 (by decide) ?_
        exact e_iret h iv11 dX8_fault_78 (by clear iw1 iw2 iw3 iw4 iw5 ih9; replace hw1 := hw1.symm; replace hw2 := hw2.symm; replace hw3 := hw3.symm; replace hw4 := hw4.symm; replace hw5 := hw5.symm; replace hv12 := hv12.symm; replace hv17 := hv17.symm; replace hv18 := hv18.symm; replace hv20 := hv20.symm; replace hv22 := hv22.symm; subst hv22 hv20 hv18 hv17 hv12 hw5 hw4 hw3 hw2 hw1; exact absurd c13 c21) (by clear iw1 iw2 iw3 iw4 iw5 ih9; replace hw1 := hw1.symm; replace hw2 := hw2.symm; replace hw3 := hw3.symm; replace hw4 := hw4.symm; replace hw5 := hw5.symm; replace hv12 := hv12.symm; replace hv17 := hv17.symm; replace hv18 := hv18.symm; replace hv20 := hv20.symm; replace hv22 := hv22.symm; subst hv22 hv20 hv18 hv17 hv12 hw5 hw4 hw3 hw2 hw1; exact (ft_b hP1 hj10 c13 c19).symm)
    · refine g_aload_n h 0 dX8_fault_42 rfl ?_
      refine g_bipush (v := 59) h dX8_fault_43 (by decide) ?_
      refine k_V_v (st := []) h hX (tX8_takeSign (xl X) G F (m_ftI (m_ft1 ω) j6) iv11 59 (hFV.1)) rfl ⟨kd_lt rfl, ob_21 rfl⟩ rfl miX8_takeSign tw_1029 (by decide) (by decide) rfl (Nat.le_of_ble_eq_true rfl) (by rw [hX]; exact Nat.zero_le _) (by rw [hX]; exact Nat.zero_le _) dX8_fault_45 (fun w23 hw23 iw23 => ?_)
      refine g_aload_n h 0 dX8_fault_48 rfl ?_
      refine q_8_isWrong h rfl tw_718 dX8_fault_49 (fun v24 hv24 => ?_)
      refine g_if_ne (tgt := 24) h dX8_fault_52 (by decide) (fun c25 => ?_) (fun c25 => ?_)
      · have e26 : w23 = m_ftI (m_ft1 ω) (j6 + 1) := by clear iw1 iw2 iw3 iw4 iw5 ih9 iw23; replace hw1 := hw1.symm; replace hw2 := hw2.symm; replace hw3 := hw3.symm; replace hw4 := hw4.symm; replace hw5 := hw5.symm; replace hv12 := hv12.symm; replace hv17 := hv17.symm; replace hv18 := hv18.symm; replace hw23 := hw23.symm; replace hv24 := hv24.symm; subst hv24 hw23 hv18 hv17 hv12 hw5 hw4 hw3 hw2 hw1; exact (if_neg c25).symm
        exact g_lt e26 rfl rfl (ih9 (by clear iw1 iw2 iw3 iw4 iw5 ih9 iw23; replace hw1 := hw1.symm; replace hw2 := hw2.symm; replace hw3 := hw3.symm; replace hw4 := hw4.symm; replace hw5 := hw5.symm; replace hv12 := hv12.symm; replace hv17 := hv17.symm; replace hv18 := hv18.symm; replace hw23 := hw23.symm; replace hv24 := hv24.symm; subst hv24 hw23 hv18 hv17 hv12 hw5 hw4 hw3 hw2 hw1; have := hFV.j c13; omega) ⟨(e26 ▸ iw23), (by clear iw1 iw2 iw3 iw4 iw5 ih9 iw23; replace hw1 := hw1.symm; replace hw2 := hw2.symm; replace hw3 := hw3.symm; replace hw4 := hw4.symm; replace hw5 := hw5.symm; replace hv12 := hv12.symm; replace hv17 := hv17.symm; replace hv18 := hv18.symm; replace hw23 := hw23.symm; replace hv24 := hv24.symm; subst hv24 hw23 hv18 hv17 hv12 hw5 hw4 hw3 hw2 hw1; exact ft_c hP1 (by have := hFV.j c13; omega) c13 c19), (by clear iw1 iw2 iw3 iw4 iw5 ih9 iw23; replace hw1 := hw1.symm; replace hw2 := hw2.symm; replace hw3 := hw3.symm; replace hw4 := hw4.symm; replace hw5 := hw5.symm; replace hv12 := hv12.symm; replace hv17 := hv17.symm; replace hv18 := hv18.symm; replace hw23 := hw23.symm; replace hv24 := hv24.symm; subst hv24 hw23 hv18 hv17 hv12 hw5 hw4 hw3 hw2 hw1; exact ftS_FV hFV c13)⟩)
      · refine g_aload_n h 0 dX8_fault_55 rfl ?_
        refine k_V_v (st := []) h hX (tX8_takeOrder (xl X) G F w23 iw23 (by clear iw1 iw2 iw3 iw4 iw5 ih9 iw23; replace hw1 := hw1.symm; replace hw2 := hw2.symm; replace hw3 := hw3.symm; replace hw4 := hw4.symm; replace hw5 := hw5.symm; replace hv12 := hv12.symm; replace hv17 := hv17.symm; replace hv18 := hv18.symm; replace hw23 := hw23.symm; replace hv24 := hv24.symm; subst hv24 hw23 hv18 hv17 hv12 hw5 hw4 hw3 hw2 hw1; exact ⟨_, _, ts_IV (by decide) (hFV.2 c13), (by have := hFV.j c13; omega)⟩) (by clear iw1 iw2 iw3 iw4 iw5 ih9 iw23; replace hw1 := hw1.symm; replace hw2 := hw2.symm; replace hw3 := hw3.symm; replace hw4 := hw4.symm; replace hw5 := hw5.symm; replace hv12 := hv12.symm; replace hv17 := hv17.symm; replace hv18 := hv18.symm; replace hw23 := hw23.symm; replace hv24 := hv24.symm; subst hv24 hw23 hv18 hv17 hv12 hw5 hw4 hw3 hw2 hw1; exact c25)) rfl ⟨kd_lt rfl, ob_21 rfl⟩ rfl miX8_takeOrder tw_1017 (by decide) (by decide) rfl (Nat.le_of_ble_eq_true rfl) (by rw [hX]; exact Nat.zero_le _) (by rw [hX]; exact Nat.zero_le _) dX8_fault_56 (fun w27 hw27 iw27 => ?_)
        refine g_goto (tgt := 24) h dX8_fault_59 (by decide) ?_
        have e28 : w27 = m_ftI (m_ft1 ω) (j6 + 1) := by clear iw1 iw2 iw3 iw4 iw5 ih9 iw23 iw27; replace hw1 := hw1.symm; replace hw2 := hw2.symm; replace hw3 := hw3.symm; replace hw4 := hw4.symm; replace hw5 := hw5.symm; replace hv12 := hv12.symm; replace hv17 := hv17.symm; replace hv18 := hv18.symm; replace hw23 := hw23.symm; replace hv24 := hv24.symm; replace hw27 := hw27.symm; subst hw27 hv24 hw23 hv18 hv17 hv12 hw5 hw4 hw3 hw2 hw1; exact (if_pos c25).symm
        exact g_lt e28 rfl rfl (ih9 (by clear iw1 iw2 iw3 iw4 iw5 ih9 iw23 iw27; replace hw1 := hw1.symm; replace hw2 := hw2.symm; replace hw3 := hw3.symm; replace hw4 := hw4.symm; replace hw5 := hw5.symm; replace hv12 := hv12.symm; replace hv17 := hv17.symm; replace hv18 := hv18.symm; replace hw23 := hw23.symm; replace hv24 := hv24.symm; replace hw27 := hw27.symm; subst hw27 hv24 hw23 hv18 hv17 hv12 hw5 hw4 hw3 hw2 hw1; have := hFV.j c13; omega) ⟨(e28 ▸ iw27), (by clear iw1 iw2 iw3 iw4 iw5 ih9 iw23 iw27; replace hw1 := hw1.symm; replace hw2 := hw2.symm; replace hw3 := hw3.symm; replace hw4 := hw4.symm; replace hw5 := hw5.symm; replace hv12 := hv12.symm; replace hv17 := hv17.symm; replace hv18 := hv18.symm; replace hw23 := hw23.symm; replace hv24 := hv24.symm; replace hw27 := hw27.symm; subst hw27 hv24 hw23 hv18 hv17 hv12 hw5 hw4 hw3 hw2 hw1; exact ft_c hP1 (by have := hFV.j c13; omega) c13 c19), (by clear iw1 iw2 iw3 iw4 iw5 ih9 iw23 iw27; replace hw1 := hw1.symm; replace hw2 := hw2.symm; replace hw3 := hw3.symm; replace hw4 := hw4.symm; replace hw5 := hw5.symm; replace hv12 := hv12.symm; replace hv17 := hv17.symm; replace hv18 := hv18.symm; replace hw23 := hw23.symm; replace hv24 := hv24.symm; replace hw27 := hw27.symm; subst hw27 hv24 hw23 hv18 hv17 hv12 hw5 hw4 hw3 hw2 hw1; exact ftS_FV hFV c13)⟩)
set_option maxHeartbeats 4000000 in
set_option maxRecDepth 100000 in
theorem tX8_feedAll (l0 : Launch) (G : fG) (F : Nat) (ω : fOm) (hI : Inv ω) (k : Nat) (hW : MW (ω 648)) (hK : MK ω) (hB : BG ω k) (hk : k ≤ 28) : CT l0 G F yX8_feedAll cX8_feedAll 4 (some .int) 3 [.ref (F + 647), .int (nI k)] ω (some (.int ((m_fa ω k).1))) ((m_fa ω k).2) := by
  refine ct_met (own := RX8) (by decide +kernel) rfl (Nat.le_of_ble_eq_true rfl) (fun X hXl hX h => ?_)
  subst hXl
  refine g_iconst (v := 0) h dX8_feedAll_0 (by decide) ?_
  refine g_istore_n (loc2 := [(2, .int 0), (0, .ref (F + 647)), (1, .int (nI k))]) h dX8_feedAll_1 (by decide) rfl ?_
  refine g_aload_n h 1 dX8_feedAll_2 rfl ?_
  refine q_8_begins h rfl tw_722 dX8_feedAll_3 ?_
  refine g_iload_n h 2 dX8_feedAll_6 rfl ?_
  refine g_ia (q := 29) h rfl rfl (by decide) (vp_n (Nat.lt_of_le_of_lt hk (by decide)) (by decide)) dX8_feedAll_7 (fun v1 hv1 => ?_)
  replace hv1 : v1 = ω 655 k := by replace hv1 := hv1.symm; subst hv1; rw [nI_clamp (by omega)]
  refine g_iconst (v := 1) h dX8_feedAll_8 (by decide) ?_
  refine g_iadd h dX8_feedAll_9 (g_name fun v2 hv2 => ?_)
  refine g_istore_n (loc2 := [(3, .int v2), (2, .int 0), (0, .ref (F + 647)), (1, .int (nI k))]) h dX8_feedAll_10 (by decide) rfl ?_
  have e4 : v2 = ω 655 k + 1 + nI 0 := by replace hv1 := hv1.symm; replace hv2 := hv2.symm; subst hv2 hv1; exact add_0 _
  have e5 : 0 = m_faV k ω 0 := by replace hv1 := hv1.symm; replace hv2 := hv2.symm; subst hv2 hv1; rfl
  have e6 : ω = m_faW k ω 0 := rfl
  refine g_lt (ω2 := m_faW k ω 0) (loc2 := [(3, .int (ω 655 k + 1 + nI 0)), (2, .int (m_faV k ω 0)), (0, .ref (F + 647)), (1, .int (nI k))]) e6 (lc_i e4 (lc_i e5 rfl)) rfl ?_
  refine g_loop3 (hd := 11) (m_fN ω k) (fun j3 => Inv (m_faW k ω j3) ∧ m_faN ω k = m_faF k ω (m_fN ω k - j3) j3) (fun j3 => [(3, .int (ω 655 k + 1 + nI j3)), (2, .int (m_faV k ω j3)), (0, .ref (F + 647)), (1, .int (nI k))]) (fun j3 => cel F G (m_faW k ω j3)) ⟨(e6 ▸ hI), mfa_0⟩ (fun j3 hj9 hP7 ih8 => ?_)
  (try dsimp only)
  obtain ⟨iv10, hP1⟩ := hP7
  refine g_iload_n h 0 dX8_feedAll_11 rfl ?_
  refine g_aload_n h 2 dX8_feedAll_12 rfl ?_
  refine q_8_begins h rfl tw_722 dX8_feedAll_13 ?_
  refine g_iload_n h 3 dX8_feedAll_16 rfl ?_
  refine g_iconst (v := 1) h dX8_feedAll_17 (by decide) ?_
  refine g_iadd h dX8_feedAll_18 (g_name fun v11 hv11 => ?_)
  refine g_ia (q := 29) h rfl rfl (by decide) (by clear ih8; replace hv1 := hv1.symm; replace hv2 := hv2.symm; replace hv11 := hv11.symm; subst hv11 hv2 hv1; rw [nI_1]; exact vp_n (Nat.lt_of_le_of_lt (Nat.succ_le_succ hk) (by decide)) (by decide)) dX8_feedAll_19 (fun v12 hv12 => ?_)
  replace hv12 : v12 = (m_faW k ω j3) 655 (k + 1) := by clear ih8; replace hv1 := hv1.symm; replace hv2 := hv2.symm; replace hv11 := hv11.symm; replace hv12 := hv12.symm; subst hv12 hv11 hv2 hv1; rw [nI_1, nI_clamp (by omega)]
  refine g_icmp_ge (tgt := 56) h dX8_feedAll_20 (by decide) (fun c13 => ?_) (fun c13 => ?_)
  · have hN14 : j3 = (m_fN ω k) := by clear ih8; replace hv1 := hv1.symm; replace hv2 := hv2.symm; replace hv11 := hv11.symm; replace hv12 := hv12.symm; subst hv12 hv11 hv2 hv1; exact fN_ge hB (faW_M j3 655 (by decide)) c13 hj9
    refine g_iload_n h 1 dX8_feedAll_56 rfl ?_
    exact e_iret h iv10 dX8_feedAll_57 (by clear ih8; replace hv1 := hv1.symm; replace hv2 := hv2.symm; replace hv11 := hv11.symm; replace hv12 := hv12.symm; subst hv12 hv11 hv2 hv1; unfold m_fa; rw [mfa_a hP1 hN14]) (by clear ih8; replace hv1 := hv1.symm; replace hv2 := hv2.symm; replace hv11 := hv11.symm; replace hv12 := hv12.symm; subst hv12 hv11 hv2 hv1; unfold m_fa; rw [mfa_a hP1 hN14])
  · have hlt15 : j3 < (m_fN ω k) := by clear ih8; replace hv1 := hv1.symm; replace hv2 := hv2.symm; replace hv11 := hv11.symm; replace hv12 := hv12.symm; subst hv12 hv11 hv2 hv1; exact fN_lt hB (faW_M j3 655 (by decide)) c13 hj9
    refine g_iload_n h 1 dX8_feedAll_23 rfl ?_
    refine g_if_lt (tgt := 56) h dX8_feedAll_24 (by decide) (fun c16 => ?_) (fun c16 => ?_)
    · refine g_iload_n h 1 dX8_feedAll_56 rfl ?_
      exact e_iret h iv10 dX8_feedAll_57 (by clear ih8; replace hv1 := hv1.symm; replace hv2 := hv2.symm; replace hv11 := hv11.symm; replace hv12 := hv12.symm; subst hv12 hv11 hv2 hv1; unfold m_fa; rw [mfa_b hP1 hlt15 c16]) (by clear ih8; replace hv1 := hv1.symm; replace hv2 := hv2.symm; replace hv11 := hv11.symm; replace hv12 := hv12.symm; subst hv12 hv11 hv2 hv1; unfold m_fa; rw [mfa_b hP1 hlt15 c16])
    · refine g_aload_n h 2 dX8_feedAll_27 rfl ?_
      refine g_aload_n h 2 dX8_feedAll_28 rfl ?_
      refine q_8_numbers h rfl tw_723 dX8_feedAll_29 ?_
      refine g_aload_n h 2 dX8_feedAll_32 rfl ?_
      refine q_8_begins h rfl tw_722 dX8_feedAll_33 ?_
      refine g_iload_n h 3 dX8_feedAll_36 rfl ?_
      refine g_ia (q := 29) h rfl rfl (by decide) (vp_n (Nat.lt_of_le_of_lt hk (by decide)) (by decide)) dX8_feedAll_37 (fun v17 hv17 => ?_)
      replace hv17 : v17 = (m_faW k ω j3) 655 k := by clear ih8; replace hv1 := hv1.symm; replace hv2 := hv2.symm; replace hv11 := hv11.symm; replace hv12 := hv12.symm; replace hv17 := hv17.symm; subst hv17 hv12 hv11 hv2 hv1; rw [nI_clamp (by omega)]
      refine g_ia (q := 30) h rfl rfl (by decide) (by clear ih8; replace hv1 := hv1.symm; replace hv2 := hv2.symm; replace hv11 := hv11.symm; replace hv12 := hv12.symm; replace hv17 := hv17.symm; subst hv17 hv12 hv11 hv2 hv1; rw [faW_M j3 655 (by decide)]; exact (fN_ix hB hlt15).1) dX8_feedAll_38 (fun v18 hv18 => ?_)
      refine g_aload_n h 2 dX8_feedAll_39 rfl ?_
      refine q_8_numbers h rfl tw_723 dX8_feedAll_40 ?_
      refine g_iload_n h 0 dX8_feedAll_43 rfl ?_
      refine g_ia (q := 30) h rfl rfl (by decide) (by clear ih8; replace hv1 := hv1.symm; replace hv2 := hv2.symm; replace hv11 := hv11.symm; replace hv12 := hv12.symm; replace hv17 := hv17.symm; replace hv18 := hv18.symm; subst hv18 hv17 hv12 hv11 hv2 hv1; exact (fN_ix hB hlt15).2) dX8_feedAll_44 (fun v19 hv19 => ?_)
      refine g_iconst (v := 0) h dX8_feedAll_45 (by decide) ?_
      refine k_V_j (st := []) h hX (tX8_tryFeed (xl X) G F (m_faW k ω j3) iv10 v18 v19 0 (by clear ih8; replace hv1 := hv1.symm; replace hv2 := hv2.symm; replace hv11 := hv11.symm; replace hv12 := hv12.symm; replace hv17 := hv17.symm; replace hv18 := hv18.symm; replace hv19 := hv19.symm; subst hv19 hv18 hv17 hv12 hv11 hv2 hv1; exact faW_W hW _) (by clear ih8; replace hv1 := hv1.symm; replace hv2 := hv2.symm; replace hv11 := hv11.symm; replace hv12 := hv12.symm; replace hv17 := hv17.symm; replace hv18 := hv18.symm; replace hv19 := hv19.symm; subst hv19 hv18 hv17 hv12 hv11 hv2 hv1; exact hK.mod (faW_M _))) rfl ⟨kd_lt rfl, ob_21 rfl⟩ rfl miX8_tryFeed tw_829 (by decide) (by decide) rfl (Nat.le_of_ble_eq_true rfl) (by rw [hX]; exact Nat.zero_le _) (by rw [hX]; exact Nat.zero_le _) dX8_feedAll_46 (fun v20 w21 hv20 hw21 iw21 => ?_)
      refine g_istore_n (loc2 := [(2, .int v20), (3, .int (ω 655 k + 1 + nI j3)), (0, .ref (F + 647)), (1, .int (nI k))]) h dX8_feedAll_49 (by decide) rfl ?_
      obtain ⟨v22, hv22⟩ : ∃ z : Int32, z = (ω 655 k + 1 + nI j3) + 1 := ⟨_, rfl⟩
      refine g_iinc (v := v22) (loc2 := [(3, .int v22), (2, .int v20), (0, .ref (F + 647)), (1, .int (nI k))]) h 1 dX8_feedAll_50 rfl (by rw [hv22]; rfl) (by decide) rfl ?_
      refine g_goto (tgt := 11) h dX8_feedAll_53 (by decide) ?_
      have e23 : v22 = ω 655 k + 1 + nI (j3 + 1) := by clear ih8 iw21; replace hv1 := hv1.symm; replace hv2 := hv2.symm; replace hv11 := hv11.symm; replace hv12 := hv12.symm; replace hv17 := hv17.symm; replace hv18 := hv18.symm; replace hv19 := hv19.symm; replace hv20 := hv20.symm; replace hw21 := hw21.symm; replace hv22 := hv22.symm; subst hv22 hw21 hv20 hv19 hv18 hv17 hv12 hv11 hv2 hv1; exact add_n _ _
      have e24 : v20 = m_faV k ω (j3 + 1) := by clear ih8 iw21; replace hv1 := hv1.symm; replace hv2 := hv2.symm; replace hv11 := hv11.symm; replace hv12 := hv12.symm; replace hv17 := hv17.symm; replace hv18 := hv18.symm; replace hv19 := hv19.symm; replace hv20 := hv20.symm; replace hw21 := hw21.symm; replace hv22 := hv22.symm; subst hv22 hw21 hv20 hv19 hv18 hv17 hv12 hv11 hv2 hv1; rfl
      have e25 : w21 = m_faW k ω (j3 + 1) := by clear ih8 iw21; replace hv1 := hv1.symm; replace hv2 := hv2.symm; replace hv11 := hv11.symm; replace hv12 := hv12.symm; replace hv17 := hv17.symm; replace hv18 := hv18.symm; replace hv19 := hv19.symm; replace hv20 := hv20.symm; replace hw21 := hw21.symm; replace hv22 := hv22.symm; subst hv22 hw21 hv20 hv19 hv18 hv17 hv12 hv11 hv2 hv1; rfl
      exact g_lt e25 (lc_i e23 (lc_i e24 rfl)) rfl (ih8 hlt15 ⟨(e25 ▸ iw21), (by clear ih8 iw21; replace hv1 := hv1.symm; replace hv2 := hv2.symm; replace hv11 := hv11.symm; replace hv12 := hv12.symm; replace hv17 := hv17.symm; replace hv18 := hv18.symm; replace hv19 := hv19.symm; replace hv20 := hv20.symm; replace hw21 := hw21.symm; replace hv22 := hv22.symm; subst hv22 hw21 hv20 hv19 hv18 hv17 hv12 hv11 hv2 hv1; exact mfa_c hP1 hlt15 c16)⟩)
set_option maxHeartbeats 4000000 in
set_option maxRecDepth 100000 in
theorem tX8_carry (l0 : Launch) (G : fG) (F : Nat) (ω : fOm) (hI : Inv ω) (k : Nat) (hW : MW (ω 648)) (hK : MK ω) (hB : BG ω k) (hk : k ≤ 28) : CT l0 G F yX8_carry cX8_carry 3 (some .int) 7 [.ref (F + 647), .int (nI k)] ω (some (.int ((m_car ω k).1))) ((m_car ω k).2) := by
  refine ct_met (own := RX8) (by decide +kernel) rfl (Nat.le_of_ble_eq_true rfl) (fun X hXl hX h => ?_)
  subst hXl
  refine g_aload_n h 0 dX8_carry_0 rfl ?_
  refine q_8_begins h rfl tw_722 dX8_carry_1 ?_
  refine g_iload_n h 1 dX8_carry_4 rfl ?_
  refine g_ia (q := 29) h rfl rfl (by decide) (vp_n (Nat.lt_of_le_of_lt hk (by decide)) (by decide)) dX8_carry_5 (fun v1 hv1 => ?_)
  replace hv1 : v1 = ω 655 k := by replace hv1 := hv1.symm; subst hv1; rw [nI_clamp (by omega)]
  refine g_istore_n (loc2 := [(2, .int v1), (0, .ref (F + 647)), (1, .int (nI k))]) h dX8_carry_6 (by decide) rfl ?_
  refine g_aload_n h 1 dX8_carry_7 rfl ?_
  refine q_8_sort h rfl tw_721 dX8_carry_8 ?_
  refine g_iload_n h 2 dX8_carry_11 rfl ?_
  refine g_ia (q := 28) h rfl rfl (by decide) (vp_n (Nat.lt_of_le_of_lt hk (by decide)) (by decide)) dX8_carry_12 (fun v2 hv2 => ?_)
  replace hv2 : v2 = ω 654 k := by replace hv1 := hv1.symm; replace hv2 := hv2.symm; subst hv2 hv1; rw [nI_clamp (by omega)]
  by_cases c3 : v2 = 102
  · refine g_lookup (off := 35) (tgt := 48) h dX8_carry_13 (by decide) (by rw [c3]; rfl) (by decide) ?_
    refine g_aload_n h 1 dX8_carry_48 rfl ?_
    refine g_iload_n h 2 dX8_carry_49 rfl ?_
    refine k_V_j (st := []) h hX (tX8_feedAll (xl X) G F ω hI k (hW) (hK) (hB) (hk)) rfl ⟨kd_lt rfl, ob_21 rfl⟩ rfl miX8_feedAll tw_1046 (by decide) (by decide) rfl (Nat.le_of_ble_eq_true rfl) (by rw [hX]; exact Nat.zero_le _) (by rw [hX]; exact Nat.zero_le _) dX8_carry_50 (fun v4 w5 hv4 hw5 iw5 => ?_)
    exact e_iret h iw5 dX8_carry_53 (by clear iw5; replace hv1 := hv1.symm; replace hv2 := hv2.symm; replace hv4 := hv4.symm; replace hw5 := hw5.symm; subst hw5 hv4 hv2 hv1; unfold m_car; first | (simp only [if_pos c3]; done) | (simp only [if_pos c3]; rfl)) (by clear iw5; replace hv1 := hv1.symm; replace hv2 := hv2.symm; replace hv4 := hv4.symm; replace hw5 := hw5.symm; subst hw5 hv4 hv2 hv1; unfold m_car; first | (simp only [if_pos c3]; done) | (simp only [if_pos c3]; rfl))
  by_cases c6 : v2 = 106
  · refine g_lookup (off := 41) (tgt := 54) h dX8_carry_13 (by decide) (by rw [c6]; rfl) (by decide) ?_
    refine g_aload_n h 1 dX8_carry_54 rfl ?_
    refine g_aload_n h 1 dX8_carry_55 rfl ?_
    refine q_8_numbers h rfl tw_723 dX8_carry_56 ?_
    refine g_iload_n h 0 dX8_carry_59 rfl ?_
    refine g_ia (q := 30) h rfl rfl (by decide) (by replace hv1 := hv1.symm; replace hv2 := hv2.symm; subst hv2 hv1; exact hB.ix.1) dX8_carry_60 (fun v7 hv7 => ?_)
    refine g_aload_n h 1 dX8_carry_61 rfl ?_
    refine q_8_numbers h rfl tw_723 dX8_carry_62 ?_
    refine g_iload_n h 0 dX8_carry_65 rfl ?_
    refine g_iconst (v := 1) h dX8_carry_66 (by decide) ?_
    refine g_iadd h dX8_carry_67 (g_name fun v8 hv8 => ?_)
    refine g_ia (q := 30) h rfl rfl (by decide) (by replace hv1 := hv1.symm; replace hv2 := hv2.symm; replace hv7 := hv7.symm; replace hv8 := hv8.symm; subst hv8 hv7 hv2 hv1; exact hB.ix.2.1) dX8_carry_68 (fun v9 hv9 => ?_)
    refine g_iconst (v := 0) h dX8_carry_69 (by decide) ?_
    refine k_V_j (st := []) h hX (tX8_tryTurn (xl X) G F ω hI v7 v9 0 (hW) (hK)) rfl ⟨kd_lt rfl, ob_21 rfl⟩ rfl miX8_tryTurn tw_813 (by decide) (by decide) rfl (Nat.le_of_ble_eq_true rfl) (by rw [hX]; exact Nat.zero_le _) (by rw [hX]; exact Nat.zero_le _) dX8_carry_70 (fun v10 w11 hv10 hw11 iw11 => ?_)
    exact e_iret h iw11 dX8_carry_73 (by clear iw11; replace hv1 := hv1.symm; replace hv2 := hv2.symm; replace hv7 := hv7.symm; replace hv8 := hv8.symm; replace hv9 := hv9.symm; replace hv10 := hv10.symm; replace hw11 := hw11.symm; subst hw11 hv10 hv9 hv8 hv7 hv2 hv1; unfold m_car; first | (simp only [if_neg c3, if_pos c6]; done) | (simp only [if_neg c3, if_pos c6]; rfl)) (by clear iw11; replace hv1 := hv1.symm; replace hv2 := hv2.symm; replace hv7 := hv7.symm; replace hv8 := hv8.symm; replace hv9 := hv9.symm; replace hv10 := hv10.symm; replace hw11 := hw11.symm; subst hw11 hv10 hv9 hv8 hv7 hv2 hv1; unfold m_car; first | (simp only [if_neg c3, if_pos c6]; done) | (simp only [if_neg c3, if_pos c6]; rfl))
  by_cases c12 : v2 = 108
  · refine g_lookup (off := 61) (tgt := 74) h dX8_carry_13 (by decide) (by rw [c12]; rfl) (by decide) ?_
    refine g_aload_n h 1 dX8_carry_74 rfl ?_
    refine g_aload_n h 1 dX8_carry_75 rfl ?_
    refine q_8_numbers h rfl tw_723 dX8_carry_76 ?_
    refine g_iload_n h 0 dX8_carry_79 rfl ?_
    refine g_ia (q := 30) h rfl rfl (by decide) (by replace hv1 := hv1.symm; replace hv2 := hv2.symm; subst hv2 hv1; exact hB.ix.1) dX8_carry_80 (fun v13 hv13 => ?_)
    refine g_aload_n h 1 dX8_carry_81 rfl ?_
    refine q_8_numbers h rfl tw_723 dX8_carry_82 ?_
    refine g_iload_n h 0 dX8_carry_85 rfl ?_
    refine g_iconst (v := 1) h dX8_carry_86 (by decide) ?_
    refine g_iadd h dX8_carry_87 (g_name fun v14 hv14 => ?_)
    refine g_ia (q := 30) h rfl rfl (by decide) (by replace hv1 := hv1.symm; replace hv2 := hv2.symm; replace hv13 := hv13.symm; replace hv14 := hv14.symm; subst hv14 hv13 hv2 hv1; exact hB.ix.2.1) dX8_carry_88 (fun v15 hv15 => ?_)
    refine g_aload_n h 1 dX8_carry_89 rfl ?_
    refine q_8_numbers h rfl tw_723 dX8_carry_90 ?_
    refine g_iload_n h 0 dX8_carry_93 rfl ?_
    refine g_iconst (v := 2) h dX8_carry_94 (by decide) ?_
    refine g_iadd h dX8_carry_95 (g_name fun v16 hv16 => ?_)
    refine g_ia (q := 30) h rfl rfl (by decide) (by replace hv1 := hv1.symm; replace hv2 := hv2.symm; replace hv13 := hv13.symm; replace hv14 := hv14.symm; replace hv15 := hv15.symm; replace hv16 := hv16.symm; subst hv16 hv15 hv14 hv13 hv2 hv1; exact hB.ix.2.2) dX8_carry_96 (fun v17 hv17 => ?_)
    refine g_iconst (v := 0) h dX8_carry_97 (by decide) ?_
    refine k_V_j (st := []) h hX (tX8_tryLight (xl X) G F ω hI v13 v15 v17 0 (hW) (hK)) rfl ⟨kd_lt rfl, ob_21 rfl⟩ rfl miX8_tryLight tw_845 (by decide) (by decide) rfl (Nat.le_of_ble_eq_true rfl) (by rw [hX]; exact Nat.zero_le _) (by rw [hX]; exact Nat.zero_le _) dX8_carry_98 (fun v18 w19 hv18 hw19 iw19 => ?_)
    exact e_iret h iw19 dX8_carry_101 (by clear iw19; replace hv1 := hv1.symm; replace hv2 := hv2.symm; replace hv13 := hv13.symm; replace hv14 := hv14.symm; replace hv15 := hv15.symm; replace hv16 := hv16.symm; replace hv17 := hv17.symm; replace hv18 := hv18.symm; replace hw19 := hw19.symm; subst hw19 hv18 hv17 hv16 hv15 hv14 hv13 hv2 hv1; unfold m_car; first | (simp only [if_neg c3, if_neg c6, if_pos c12]; done) | (simp only [if_neg c3, if_neg c6, if_pos c12]; rfl)) (by clear iw19; replace hv1 := hv1.symm; replace hv2 := hv2.symm; replace hv13 := hv13.symm; replace hv14 := hv14.symm; replace hv15 := hv15.symm; replace hv16 := hv16.symm; replace hv17 := hv17.symm; replace hv18 := hv18.symm; replace hw19 := hw19.symm; subst hw19 hv18 hv17 hv16 hv15 hv14 hv13 hv2 hv1; unfold m_car; first | (simp only [if_neg c3, if_neg c6, if_pos c12]; done) | (simp only [if_neg c3, if_neg c6, if_pos c12]; rfl))
  refine g_lookup (off := 89) (tgt := 102) h dX8_carry_13 (by decide) (lko_3 c3 c6 c12) (by decide) ?_
  refine g_aload_n h 1 dX8_carry_102 rfl ?_
  refine g_aload_n h 1 dX8_carry_103 rfl ?_
  refine q_8_numbers h rfl tw_723 dX8_carry_104 ?_
  refine g_iload_n h 0 dX8_carry_107 rfl ?_
  refine g_ia (q := 30) h rfl rfl (by decide) (by replace hv1 := hv1.symm; replace hv2 := hv2.symm; subst hv2 hv1; exact hB.ix.1) dX8_carry_108 (fun v20 hv20 => ?_)
  refine g_iconst (v := 0) h dX8_carry_109 (by decide) ?_
  refine k_V_j (st := []) h hX (tX8_tryTicks (xl X) G F ω hI v20 0 (hW) (hK)) rfl ⟨kd_lt rfl, ob_21 rfl⟩ rfl miX8_tryTicks tw_868 (by decide) (by decide) rfl (Nat.le_of_ble_eq_true rfl) (by rw [hX]; exact Nat.zero_le _) (by rw [hX]; exact Nat.zero_le _) dX8_carry_110 (fun v21 w22 hv21 hw22 iw22 => ?_)
  exact e_iret h iw22 dX8_carry_113 (by clear iw22; replace hv1 := hv1.symm; replace hv2 := hv2.symm; replace hv20 := hv20.symm; replace hv21 := hv21.symm; replace hw22 := hw22.symm; subst hw22 hv21 hv20 hv2 hv1; unfold m_car; first | (simp only [if_neg c3, if_neg c6, if_neg c12]; done) | (simp only [if_neg c3, if_neg c6, if_neg c12]; rfl)) (by clear iw22; replace hv1 := hv1.symm; replace hv2 := hv2.symm; replace hv20 := hv20.symm; replace hv21 := hv21.symm; replace hw22 := hw22.symm; subst hw22 hv21 hv20 hv2 hv1; unfold m_car; first | (simp only [if_neg c3, if_neg c6, if_neg c12]; done) | (simp only [if_neg c3, if_neg c6, if_neg c12]; rfl))
set_option maxHeartbeats 4000000 in
set_option maxRecDepth 100000 in
theorem tX8_carryOut (l0 : Launch) (G : fG) (F : Nat) (ω : fOm) (hI : Inv ω) (hW : MW (ω 648)) (hK : MK ω) (hp : 0 ≤ ω 647 8 ∧ ω 647 8 ≤ 80) : CT l0 G F yX8_carryOut cX8_carryOut 2 (some .int) 8 [.ref (F + 647)] ω (some (.int (m_carryR ω))) (m_carryW ω) := by
  refine ct_met (own := RX8) (by decide +kernel) rfl (Nat.le_of_ble_eq_true rfl) (fun X hXl hX h => ?_)
  subst hXl
  refine g_aload_n h 0 dX8_carryOut_0 rfl ?_
  refine k_V_j (st := []) h hX (tX8_fault (xl X) G F ω hI (hp)) rfl ⟨kd_lt rfl, ob_21 rfl⟩ rfl miX8_fault tw_1041 (by decide) (by decide) rfl (Nat.le_of_ble_eq_true rfl) (by rw [hX]; exact Nat.zero_le _) (by rw [hX]; exact Nat.zero_le _) dX8_carryOut_1 (fun v1 w2 hv1 hw2 iw2 => ?_)
  refine g_if_lt (tgt := 10) h dX8_carryOut_4 (by decide) (fun c3 => ?_) (fun c3 => ?_)
  · refine g_aload_n h 0 dX8_carryOut_10 rfl ?_
    refine k_V_v (st := []) h hX (tX8_keep (xl X) G F w2 iw2 (by clear iw2; replace hv1 := hv1.symm; replace hw2 := hw2.symm; subst hw2 hv1; exact ft_MK hK)) rfl ⟨kd_lt rfl, ob_21 rfl⟩ rfl miX8_keep tw_767 (by decide) (by decide) rfl (Nat.le_of_ble_eq_true rfl) (by rw [hX]; exact Nat.zero_le _) (by rw [hX]; exact Nat.zero_le _) dX8_carryOut_11 (fun w4 hw4 iw4 => ?_)
    refine g_iconst (v := 0) h dX8_carryOut_14 (by decide) ?_
    refine g_istore_n (loc2 := [(1, .int 0), (0, .ref (F + 647))]) h dX8_carryOut_15 (by decide) rfl ?_
    have e6 : 0 = nI 0 := by clear iw2 iw4; replace hv1 := hv1.symm; replace hw2 := hw2.symm; replace hw4 := hw4.symm; subst hw4 hw2 hv1; first | rfl | exact nI_0.symm | exact nI_0 | decide
    have e7 : w4 = m_coI (m_co0 ω) 0 := by clear iw2 iw4; replace hv1 := hv1.symm; replace hw2 := hw2.symm; replace hw4 := hw4.symm; subst hw4 hw2 hv1; rfl
    refine g_lt (ω2 := m_coI (m_co0 ω) 0) (loc2 := [(1, .int (nI 0)), (0, .ref (F + 647))]) e7 (lc_i e6 rfl) rfl ?_
    refine g_loop3 (hd := 16) (m_coO (m_co0 ω)) (fun j5 => Inv (m_coI (m_co0 ω) j5) ∧ m_coN (m_co0 ω) = m_coF (m_co0 ω) (m_coO (m_co0 ω) - j5) j5) (fun j5 => [(1, .int (nI j5)), (0, .ref (F + 647))]) (fun j5 => cel F G (m_coI (m_co0 ω) j5)) ⟨(e7 ▸ iw4), mco_0⟩ (fun j5 hj10 hP8 ih9 => ?_)
    (try dsimp only)
    obtain ⟨iv11, hP1⟩ := hP8
    refine g_iload_n h 0 dX8_carryOut_16 rfl ?_
    refine g_aload_n h 1 dX8_carryOut_17 rfl ?_
    refine q_8_orders h rfl tw_719 dX8_carryOut_18 (fun v12 hv12 => ?_)
    refine g_icmp_ge (tgt := 38) h dX8_carryOut_21 (by decide) (fun c13 => ?_) (fun c13 => ?_)
    · have hN14 : j5 = (m_coO (m_co0 ω)) := by clear iw2 iw4 ih9; replace hv1 := hv1.symm; replace hw2 := hw2.symm; replace hw4 := hw4.symm; replace hv12 := hv12.symm; subst hv12 hw4 hw2 hv1; exact co_ge hp c3 c13 hj10
      refine g_aload_n h 1 dX8_carryOut_38 rfl ?_
      refine g_iconst (v := 0) h dX8_carryOut_39 (by decide) ?_
      refine p_8_padMany h iv11 rfl tw_716 dX8_carryOut_40 (fun w15 hw15 iw15 => ?_)
      refine g_iload_n h 0 dX8_carryOut_43 rfl ?_
      exact e_iret h iw15 dX8_carryOut_44 (by clear iw2 iw4 ih9 iw15; replace hv1 := hv1.symm; replace hw2 := hw2.symm; replace hw4 := hw4.symm; replace hv12 := hv12.symm; replace hw15 := hw15.symm; subst hw15 hv12 hw4 hw2 hv1; unfold m_carryR; rw [if_pos c3, mco_a hP1 hN14]) (by clear iw2 iw4 ih9 iw15; replace hv1 := hv1.symm; replace hw2 := hw2.symm; replace hw4 := hw4.symm; replace hv12 := hv12.symm; replace hw15 := hw15.symm; subst hw15 hv12 hw4 hw2 hv1; unfold m_carryW m_coE; rw [if_pos c3, mco_a hP1 hN14, if_neg (by omega)])
    · have hlt16 : j5 < (m_coO (m_co0 ω)) := by clear iw2 iw4 ih9; replace hv1 := hv1.symm; replace hw2 := hw2.symm; replace hw4 := hw4.symm; replace hv12 := hv12.symm; subst hv12 hw4 hw2 hv1; exact co_lt hp c3 c13 hj10
      refine g_aload_n h 1 dX8_carryOut_24 rfl ?_
      refine g_iload_n h 0 dX8_carryOut_25 rfl ?_
      refine k_V_j (st := []) h hX (tX8_carry (xl X) G F (m_coI (m_co0 ω) j5) iv11 j5 (by clear iw2 iw4 ih9; replace hv1 := hv1.symm; replace hw2 := hw2.symm; replace hw4 := hw4.symm; replace hv12 := hv12.symm; subst hv12 hw4 hw2 hv1; exact coI_W (by rw [co0_648]; exact hW) _) (by clear iw2 iw4 ih9; replace hv1 := hv1.symm; replace hw2 := hw2.symm; replace hw4 := hw4.symm; replace hv12 := hv12.symm; subst hv12 hw4 hw2 hv1; exact (keep_MK (ft_MK hK)).mod (coI_M _)) (by clear iw2 iw4 ih9; replace hv1 := hv1.symm; replace hw2 := hw2.symm; replace hw4 := hw4.symm; replace hv12 := hv12.symm; subst hv12 hw4 hw2 hv1; exact (co_B hp c3 hlt16).1) (by clear iw2 iw4 ih9; replace hv1 := hv1.symm; replace hw2 := hw2.symm; replace hw4 := hw4.symm; replace hv12 := hv12.symm; subst hv12 hw4 hw2 hv1; exact (co_B hp c3 hlt16).2)) rfl ⟨kd_lt rfl, ob_21 rfl⟩ rfl miX8_carry tw_1042 (by decide) (by decide) rfl (Nat.le_of_ble_eq_true rfl) (by rw [hX]; exact Nat.zero_le _) (by rw [hX]; exact Nat.zero_le _) dX8_carryOut_26 (fun v17 w18 hv17 hw18 iw18 => ?_)
      refine g_if_lt (tgt := 38) h dX8_carryOut_29 (by decide) (fun c19 => ?_) (fun c19 => ?_)
      · refine g_aload_n h 1 dX8_carryOut_38 rfl ?_
        refine g_iconst (v := 0) h dX8_carryOut_39 (by decide) ?_
        refine p_8_padMany h iw18 rfl tw_716 dX8_carryOut_40 (fun w20 hw20 iw20 => ?_)
        refine g_iload_n h 0 dX8_carryOut_43 rfl ?_
        exact e_iret h iw20 dX8_carryOut_44 (by clear iw2 iw4 ih9 iw18 iw20; replace hv1 := hv1.symm; replace hw2 := hw2.symm; replace hw4 := hw4.symm; replace hv12 := hv12.symm; replace hv17 := hv17.symm; replace hw18 := hw18.symm; replace hw20 := hw20.symm; subst hw20 hw18 hv17 hv12 hw4 hw2 hv1; unfold m_carryR; rw [if_pos c3, mco_b hP1 hlt16 c19]) (by clear iw2 iw4 ih9 iw18 iw20; replace hv1 := hv1.symm; replace hw2 := hw2.symm; replace hw4 := hw4.symm; replace hv12 := hv12.symm; replace hv17 := hv17.symm; replace hw18 := hw18.symm; replace hw20 := hw20.symm; subst hw20 hw18 hv17 hv12 hw4 hw2 hv1; unfold m_carryW m_coE; rw [if_pos c3, mco_b hP1 hlt16 c19, if_pos hlt16]; rfl)
      · obtain ⟨v21, hv21⟩ : ∃ z : Int32, z = (nI j5) + 1 := ⟨_, rfl⟩
        refine g_iinc (v := v21) (loc2 := [(1, .int v21), (0, .ref (F + 647))]) h 0 dX8_carryOut_32 rfl (by rw [hv21]; rfl) (by decide) rfl ?_
        refine g_goto (tgt := 16) h dX8_carryOut_35 (by decide) ?_
        have e22 : v21 = nI (j5 + 1) := by clear iw2 iw4 ih9 iw18; replace hv1 := hv1.symm; replace hw2 := hw2.symm; replace hw4 := hw4.symm; replace hv12 := hv12.symm; replace hv17 := hv17.symm; replace hw18 := hw18.symm; replace hv21 := hv21.symm; subst hv21 hw18 hv17 hv12 hw4 hw2 hv1; first | rfl | exact nI_1 _ | (rw [nI_succ])
        have e23 : w18 = m_coI (m_co0 ω) (j5 + 1) := by clear iw2 iw4 ih9 iw18; replace hv1 := hv1.symm; replace hw2 := hw2.symm; replace hw4 := hw4.symm; replace hv12 := hv12.symm; replace hv17 := hv17.symm; replace hw18 := hw18.symm; replace hv21 := hv21.symm; subst hv21 hw18 hv17 hv12 hw4 hw2 hv1; rfl
        exact g_lt e23 (lc_i e22 rfl) rfl (ih9 hlt16 ⟨(e23 ▸ iw18), (by clear iw2 iw4 ih9 iw18; replace hv1 := hv1.symm; replace hw2 := hw2.symm; replace hw4 := hw4.symm; replace hv12 := hv12.symm; replace hv17 := hv17.symm; replace hw18 := hw18.symm; replace hv21 := hv21.symm; subst hv21 hw18 hv17 hv12 hw4 hw2 hv1; exact mco_c hP1 hlt16 c19)⟩)
  · refine g_bipush (v := (-3)) h dX8_carryOut_7 (by decide) ?_
    exact e_iret h iw2 dX8_carryOut_9 (by clear iw2; replace hv1 := hv1.symm; replace hw2 := hw2.symm; subst hw2 hv1; unfold m_carryR; first | (simp only [if_neg c3]; done) | (simp only [if_neg c3]; rfl)) (by clear iw2; replace hv1 := hv1.symm; replace hw2 := hw2.symm; subst hw2 hv1; unfold m_carryW; first | (simp only [if_neg c3]; done) | (simp only [if_neg c3]; rfl))
