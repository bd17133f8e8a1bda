/-! ===== the history, the pad, the reader of orders ===== -/
theorem vp_le {x M : Int32} {n : Nat} (h : 0 ≤ x ∧ x ≤ M) (hM : M.toInt + 1 = n) : vp_in x n := by
  rw [vp_in_iff]
  have a : 0 ≤ x.toInt := by simpa using Int32.le_iff_toInt_le.mp h.1
  have b := Int32.le_iff_toInt_le.mp h.2
  omega
theorem dec_le {x M : Int32} (h : 0 ≤ x ∧ x ≤ M) (h2 : ¬ x = 0) : 0 ≤ x - 1 ∧ x - 1 ≤ M := by
  obtain ⟨n, hn, rfl⟩ := nI_of (Int32.not_lt.mpr h.1)
  cases n with
  | zero => exact absurd rfl h2
  | succ n =>
    rw [nI_pred]
    exact ⟨nI_pos' (by omega), Int32.le_trans (nI_le (Nat.le_succ n) hn) h.2⟩
def f_hold (ω : fOm) (b : Nat) : fOm := f_scopy ω (ω 118 (ω 117 1).toNatClampNeg).toNatClampNeg b
def f_dro (ω : fOm) : Nat → fOm
  | 0 => ω
  | j + 1 => wu (f_dro ω j) 118 j (nI (f_dro ω j 118 (j + 1)).toNatClampNeg)
def f_dropO (ω : fOm) : fOm := wu (f_dro ω 6) 118 6 (nI (ω 118 0).toNatClampNeg)
def f_keepD (ω : fOm) (a : Int32) : fOm := if 0 ≤ a then (if 6 ≤ ω 117 1 then f_dropO ω else wu ω 117 1 (ω 117 1 + 1)) else ω
def f_takeW (ω : fOm) : fOm := if ω 117 1 = 0 then ω else wu ω 117 1 (ω 117 1 - 1)
def f_takeL (ω : fOm) : Option Nat := if ω 117 1 = 0 then none else some (f_takeW ω 118 (f_takeW ω 117 1).toNatClampNeg).toNatClampNeg
theorem takeL_kd {ω : fOm} {k : Nat} (hI : Inv ω) (e : f_takeL ω = some k) : kd k = 1 := by
  unfold f_takeL at e
  split at e
  · cases e
  · rename_i h1
    have h2 := dec_le (Inv_13_1 (k := 117) hI rfl) h1
    unfold f_takeW at e
    rw [if_neg h1, wu_ne (by decide)] at e
    have e1 : wu ω 117 1 (ω 117 1 - 1) 117 1 = ω 117 1 - 1 := by simp [wu, upd]
    rw [e1] at e
    have h3 := tn_le (n := 6) h2 rfl
    have h4 := Inv_14 hI (j := (ω 117 1 - 1).toNatClampNeg) (by omega)
    rw [← Option.some.inj e]
    exact h4
def f_append (ω : fOm) (c : Int32) : fOm := if 80 ≤ ω 527 1 then ω else
  let w1 := wu ω 528 (ω 527 1).toNatClampNeg (vp_nar .char c)
  wu w1 527 1 (w1 527 1 + 1)
def f_signAt (ω : fOm) (i : Int32) : Int32 := if i < 0 then 0 else if ω 527 1 ≤ i then 0 else ω 528 i.toNatClampNeg
theorem ch_of {v : Int32} (h : 0 ≤ v ∧ v ≤ 65535) : narrow .char (.int v) = .int v ∧ fits .char (.int v) = true := by
  obtain ⟨q, hq, rfl⟩ := nI_of2 (M := 65535) (n := 65535) rfl (Int32.not_lt.mpr h.1) h.2
  exact pk_charN (by omega)
theorem signAt_rg {ω : fOm} {i : Int32} (hI : Inv ω) : 0 ≤ f_signAt ω i ∧ f_signAt ω i ≤ 65535 := by
  unfold f_signAt
  split
  · decide
  · split
    · decide
    · exact Inv_18 hI rfl
def f_number (ω : fOm) (i : Int32) : Int32 := if i < 0 then 0 else if ω 529 4 ≤ i then 0 else ω 530 i.toNatClampNeg
abbrev fB2 : Type := Int32 × fOm
def f_take (ω : fOm) (c : Int32) : fB2 := if f_signAt ω (ω 529 1) = c then (1, wu ω 529 1 (ω 529 1 + 1)) else (0, ω)
def f_digit (ω : fOm) : Int32 := if f_btw (f_signAt ω (ω 529 1)) 48 57 = 0 then (-6) else f_signAt ω (ω 529 1) - 48
def f_keep (ω : fOm) (n : Int32) : fB2 := if ω 529 4 < 80 then
    let w1 := wu ω 530 (ω 529 4).toNatClampNeg n
    (1, wu w1 529 4 (w1 529 4 + 1))
  else (0, ω)
def f_nx (ω : fOm) : fOm := wu ω 529 1 (ω 529 1 + 1)
def f_rnI (n0 : Int32) (w0 : fOm) : Nat → fB2
  | 0 => (n0, w0)
  | j + 1 => ((f_rnI n0 w0 j).1 * 10 + f_digit (f_rnI n0 w0 j).2, f_nx (f_rnI n0 w0 j).2)
def f_rnL : Nat → Int32 → fOm → fB2
  | 0, n, w => (n, w)
  | f + 1, n, w => if n ≤ 0 then (n, w) else if f_digit w < 0 then (n, w) else f_rnL f (n * 10 + f_digit w) (f_nx w)
def f_rn (ω : fOm) : fB2 := if 0 ≤ f_digit ω then f_keep (f_rnL 2 (f_digit ω) (f_nx ω)).2 (f_rnL 2 (f_digit ω) (f_nx ω)).1 else (0, ω)
def f_rm (ω : fOm) : fB2 := if f_btw (f_digit ω) 0 2 = 0 then (0, ω) else f_keep (f_nx ω) (f_digit ω)
def f_rvI (w0 : fOm) : Nat → fOm
  | 0 => w0
  | j + 1 => (f_take (f_rn (f_rvI w0 j)).2 44).2
def f_rvF : Nat → fOm → fB2
  | 0, w => (0, w)
  | n + 1, w => if (f_rn w).1 = 0 then (0, (f_rn w).2) else if (f_take (f_rn w).2 44).1 = 0 then (1, (f_take (f_rn w).2 44).2) else f_rvF n (f_take (f_rn w).2 44).2
def f_rv (ω : fOm) : fB2 := f_rvF 80 ω
def bn (p : fB2) (k : fOm → fB2) : fB2 := if p.1 = 0 then (0, p.2) else k p.2
def bo (p : fB2) (k : fOm → fB2) (e : fOm → fB2) : fB2 := if p.1 = 0 then e p.2 else k p.2
def f_r0 (ω : fOm) : fOm := wu (wu ω 529 2 (f_signAt ω (ω 529 1))) 529 4 0
def f_roF (w : fOm) : fB2 := bn (f_rn w) fun w => bn (f_take w 58) fun w => bn (f_rv w) fun w => (1, w)
def f_roJ (w : fOm) : fB2 := bn (f_rn w) fun w => bn (f_take w 61) fun w => bn (f_rm w) fun w => (1, w)
def f_roL (w : fOm) : fB2 := bn (f_rn w) fun w => bn (f_take w 58) fun w => bn (f_rn w) fun w => bn (f_take w 61) fun w => bn (f_rn w) fun w => (1, w)
def f_roT (w : fOm) : fB2 := bn (f_take w 116) fun w => bn (f_rn w) fun w => (1, w)
def f_ro (ω : fOm) : fB2 := bo (f_take (f_r0 ω) 102) f_roF fun w => bo (f_take w 106) f_roJ fun w => bo (f_take w 108) f_roL f_roT
def f_rx (ω : fOm) : fB2 := f_ro (f_take ω 59).2
def f_ffI (w0 : fOm) : Nat → fOm
  | 0 => w0
  | j + 1 => (f_take (f_ro (f_ffI w0 j)).2 59).2
def f_ffF : Nat → fOm → fB2
  | 0, w => (w 529 1, w)
  | n + 1, w => if (f_ro w).1 = 0 then ((f_ro w).2 529 1, (f_ro w).2) else if (f_ro w).2 529 1 = (f_ro w).2 527 1 then (-6, (f_ro w).2) else
      if (f_take (f_ro w).2 59).1 = 0 then ((f_take (f_ro w).2 59).2 529 1, (f_take (f_ro w).2 59).2) else f_ffF n (f_take (f_ro w).2 59).2
def f_ff (ω : fOm) : fB2 := f_ffF 80 (wu ω 529 1 0)
def b01 (e : Int32) : Prop := e = 0 ∨ e = 1
theorem take_01 (ω : fOm) (c : Int32) : (f_take ω c).1 = 0 ∨ (f_take ω c).1 = 1 := by
  unfold f_take; split
  · exact o01
  · exact z01
theorem keep_01 (ω : fOm) (c : Int32) : (f_keep ω c).1 = 0 ∨ (f_keep ω c).1 = 1 := by
  unfold f_keep; split
  · exact o01
  · exact z01
theorem rn_01 (ω : fOm) : (f_rn ω).1 = 0 ∨ (f_rn ω).1 = 1 := by
  unfold f_rn; split
  · exact keep_01 _ _
  · exact z01
theorem rm_01 (ω : fOm) : (f_rm ω).1 = 0 ∨ (f_rm ω).1 = 1 := by
  unfold f_rm; split
  · exact z01
  · exact keep_01 _ _
theorem rvF_01 (n : Nat) : ∀ ω : fOm, (f_rvF n ω).1 = 0 ∨ (f_rvF n ω).1 = 1 := by
  induction n with
  | zero => intro ω; exact z01
  | succ n ih =>
    intro ω
    unfold f_rvF
    split
    · exact z01
    · split
      · exact o01
      · exact ih _
theorem rv_01 (ω : fOm) : (f_rv ω).1 = 0 ∨ (f_rv ω).1 = 1 := rvF_01 80 ω
theorem bn_01 {p : fB2} {k : fOm → fB2} (h : ∀ w, (k w).1 = 0 ∨ (k w).1 = 1) : (bn p k).1 = 0 ∨ (bn p k).1 = 1 := by
  unfold bn; split
  · exact z01
  · exact h _
theorem bo_01 {p : fB2} {k e : fOm → fB2} (h : ∀ w, (k w).1 = 0 ∨ (k w).1 = 1) (h2 : ∀ w, (e w).1 = 0 ∨ (e w).1 = 1) : (bo p k e).1 = 0 ∨ (bo p k e).1 = 1 := by
  unfold bo; split
  · exact h2 _
  · exact h _
theorem p01 (w : fOm) : ((1, w) : fB2).1 = 0 ∨ ((1, w) : fB2).1 = 1 := Or.inr rfl
theorem roF_01 (w : fOm) : (f_roF w).1 = 0 ∨ (f_roF w).1 = 1 := by
  unfold f_roF
  exact bn_01 fun _ => bn_01 fun _ => bn_01 fun w => p01 w
theorem roJ_01 (w : fOm) : (f_roJ w).1 = 0 ∨ (f_roJ w).1 = 1 := by
  unfold f_roJ
  exact bn_01 fun _ => bn_01 fun _ => bn_01 fun w => p01 w
theorem roL_01 (w : fOm) : (f_roL w).1 = 0 ∨ (f_roL w).1 = 1 := by
  unfold f_roL
  exact bn_01 fun _ => bn_01 fun _ => bn_01 fun _ => bn_01 fun _ => bn_01 fun w => p01 w
theorem roT_01 (w : fOm) : (f_roT w).1 = 0 ∨ (f_roT w).1 = 1 := by
  unfold f_roT
  exact bn_01 fun _ => bn_01 fun w => p01 w
theorem ro_01 (ω : fOm) : (f_ro ω).1 = 0 ∨ (f_ro ω).1 = 1 := by
  unfold f_ro
  exact bo_01 roF_01 fun _ => bo_01 roJ_01 fun _ => bo_01 roL_01 roT_01
theorem rnL_s {f : Nat} {n : Int32} {w : fOm} : f_rnL (f + 1) n w = if n ≤ 0 then (n, w) else if f_digit w < 0 then (n, w) else f_rnL f (n * 10 + f_digit w) (f_nx w) := rfl
theorem rvF_s {n : Nat} {w : fOm} : f_rvF (n + 1) w = if (f_rn w).1 = 0 then (0, (f_rn w).2) else if (f_take (f_rn w).2 44).1 = 0 then (1, (f_take (f_rn w).2 44).2) else f_rvF n (f_take (f_rn w).2 44).2 := rfl
theorem ffF_s {n : Nat} {w : fOm} : f_ffF (n + 1) w = if (f_ro w).1 = 0 then ((f_ro w).2 529 1, (f_ro w).2) else if (f_ro w).2 529 1 = (f_ro w).2 527 1 then (-6, (f_ro w).2) else
      if (f_take (f_ro w).2 59).1 = 0 then ((f_take (f_ro w).2 59).2 529 1, (f_take (f_ro w).2 59).2) else f_ffF n (f_take (f_ro w).2 59).2 := rfl
theorem sub_s {N j : Nat} (h : j < N) : N - j = N - (j + 1) + 1 := by omega
theorem rn_out {n0 : Int32} {w0 : fOm} {N j : Nat} (hj : j ≤ N) (hP : f_rnL N n0 w0 = f_rnL (N - j) (f_rnI n0 w0 j).1 (f_rnI n0 w0 j).2) (h : j = N ∨ (f_rnI n0 w0 j).1 ≤ 0 ∨ f_digit (f_rnI n0 w0 j).2 < 0) : f_rnL N n0 w0 = f_rnI n0 w0 j := by
  rw [hP]
  rcases Nat.lt_or_ge j N with a | a
  · rw [sub_s a, rnL_s]
    by_cases h1 : (f_rnI n0 w0 j).1 ≤ 0
    · rw [if_pos h1]
    · rw [if_neg h1]
      by_cases h2 : f_digit (f_rnI n0 w0 j).2 < 0
      · rw [if_pos h2]
      · rcases h with h | h | h
        · omega
        · exact absurd h h1
        · exact absurd h h2
  · rw [show N - j = 0 by omega]
    rfl
theorem rn_in {n0 : Int32} {w0 : fOm} {N j : Nat} (hj : j < N) (hP : f_rnL N n0 w0 = f_rnL (N - j) (f_rnI n0 w0 j).1 (f_rnI n0 w0 j).2) (h1 : ¬ (f_rnI n0 w0 j).1 ≤ 0) (h2 : ¬ f_digit (f_rnI n0 w0 j).2 < 0) : f_rnL N n0 w0 = f_rnL (N - (j + 1)) (f_rnI n0 w0 (j + 1)).1 (f_rnI n0 w0 (j + 1)).2 := by
  rw [hP, sub_s hj, rnL_s, if_neg h1, if_neg h2]
  rfl
theorem pr_eq {a : Int32} {w : fOm} {p : fB2} (h : p = (a, w)) : a = p.1 ∧ w = p.2 := by
  subst h
  exact ⟨rfl, rfl⟩
theorem rv_a {ω : fOm} {j : Nat} (hP : f_rv ω = f_rvF (80 - j) (f_rvI ω j)) (h : j = 80) : 0 = (f_rv ω).1 ∧ f_rvI ω j = (f_rv ω).2 := pr_eq (by rw [hP, show 80 - j = 0 by omega]; rfl)
theorem rv_b {ω : fOm} {j : Nat} (hP : f_rv ω = f_rvF (80 - j) (f_rvI ω j)) (h : j < 80) (c : (f_rn (f_rvI ω j)).1 = 0) : 0 = (f_rv ω).1 ∧ (f_rn (f_rvI ω j)).2 = (f_rv ω).2 := pr_eq (by rw [hP, sub_s h, rvF_s, if_pos c])
theorem rv_c {ω : fOm} {j : Nat} (hP : f_rv ω = f_rvF (80 - j) (f_rvI ω j)) (h : j < 80) (c : ¬ (f_rn (f_rvI ω j)).1 = 0) (c2 : (f_take (f_rn (f_rvI ω j)).2 44).1 = 0) : 1 = (f_rv ω).1 ∧ (f_take (f_rn (f_rvI ω j)).2 44).2 = (f_rv ω).2 := pr_eq (by rw [hP, sub_s h, rvF_s, if_neg c, if_pos c2])
theorem rv_d {ω : fOm} {j : Nat} (hP : f_rv ω = f_rvF (80 - j) (f_rvI ω j)) (h : j < 80) (c : ¬ (f_rn (f_rvI ω j)).1 = 0) (c2 : ¬ (f_take (f_rn (f_rvI ω j)).2 44).1 = 0) : f_rv ω = f_rvF (80 - (j + 1)) (f_rvI ω (j + 1)) := by
  rw [hP, sub_s h, rvF_s, if_neg c, if_neg c2]
  rfl
theorem rv_0 {ω : fOm} : f_rv ω = f_rvF (80 - 0) (f_rvI ω 0) := rfl
def f_f0 (ω : fOm) : fOm := wu ω 529 1 0
theorem ff_0 {ω : fOm} : f_ff ω = f_ffF (80 - 0) (f_ffI (f_f0 ω) 0) := rfl
theorem ff_a {ω : fOm} {j : Nat} (hP : f_ff ω = f_ffF (80 - j) (f_ffI (f_f0 ω) j)) (h : j = 80) : f_ffI (f_f0 ω) j 529 1 = (f_ff ω).1 ∧ f_ffI (f_f0 ω) j = (f_ff ω).2 := pr_eq (by rw [hP, show 80 - j = 0 by omega]; rfl)
theorem ff_b {ω : fOm} {j : Nat} (hP : f_ff ω = f_ffF (80 - j) (f_ffI (f_f0 ω) j)) (h : j < 80) (c : (f_ro (f_ffI (f_f0 ω) j)).1 = 0) : (f_ro (f_ffI (f_f0 ω) j)).2 529 1 = (f_ff ω).1 ∧ (f_ro (f_ffI (f_f0 ω) j)).2 = (f_ff ω).2 := pr_eq (by rw [hP, sub_s h, ffF_s, if_pos c])
theorem ff_c {ω : fOm} {j : Nat} (hP : f_ff ω = f_ffF (80 - j) (f_ffI (f_f0 ω) j)) (h : j < 80) (c : ¬ (f_ro (f_ffI (f_f0 ω) j)).1 = 0) (c2 : (f_ro (f_ffI (f_f0 ω) j)).2 529 1 = (f_ro (f_ffI (f_f0 ω) j)).2 527 1) : (-6) = (f_ff ω).1 ∧ (f_ro (f_ffI (f_f0 ω) j)).2 = (f_ff ω).2 := pr_eq (by rw [hP, sub_s h, ffF_s, if_neg c, if_pos c2])
theorem ff_d {ω : fOm} {j : Nat} (hP : f_ff ω = f_ffF (80 - j) (f_ffI (f_f0 ω) j)) (h : j < 80) (c : ¬ (f_ro (f_ffI (f_f0 ω) j)).1 = 0) (c2 : ¬ (f_ro (f_ffI (f_f0 ω) j)).2 529 1 = (f_ro (f_ffI (f_f0 ω) j)).2 527 1) (c3 : (f_take (f_ro (f_ffI (f_f0 ω) j)).2 59).1 = 0) : (f_take (f_ro (f_ffI (f_f0 ω) j)).2 59).2 529 1 = (f_ff ω).1 ∧ (f_take (f_ro (f_ffI (f_f0 ω) j)).2 59).2 = (f_ff ω).2 := pr_eq (by rw [hP, sub_s h, ffF_s, if_neg c, if_neg c2, if_pos c3])
theorem ff_e {ω : fOm} {j : Nat} (hP : f_ff ω = f_ffF (80 - j) (f_ffI (f_f0 ω) j)) (h : j < 80) (c : ¬ (f_ro (f_ffI (f_f0 ω) j)).1 = 0) (c2 : ¬ (f_ro (f_ffI (f_f0 ω) j)).2 529 1 = (f_ro (f_ffI (f_f0 ω) j)).2 527 1) (c3 : ¬ (f_take (f_ro (f_ffI (f_f0 ω) j)).2 59).1 = 0) : f_ff ω = f_ffF (80 - (j + 1)) (f_ffI (f_f0 ω) (j + 1)) := by
  rw [hP, sub_s h, ffF_s, if_neg c, if_neg c2, if_neg c3]
  rfl
theorem rn_pos {ω : fOm} (c : 0 ≤ f_digit ω) : f_rn ω = f_keep (f_rnL 2 (f_digit ω) (f_nx ω)).2 (f_rnL 2 (f_digit ω) (f_nx ω)).1 := if_pos c
theorem fst_eq {a b : fB2} {x : Int32} (h : a = b) (hx : x = b.1) : x = a.1 := by rw [h]; exact hx
theorem snd_eq {a b : fB2} {x : fOm} (h : a = b) (hx : x = b.2) : x = a.2 := by rw [h]; exact hx
theorem rn_fin {ω : fOm} {p : fB2} (c : 0 ≤ f_digit ω) (h : f_rnL 2 (f_digit ω) (f_nx ω) = p) : f_rn ω = f_keep p.2 p.1 := by rw [rn_pos c, h]
theorem bo_p {p : fB2} {k e : fOm → fB2} (h : ¬ p.1 = 0) : bo p k e = k p.2 := if_neg h
theorem bo_n {p : fB2} {k e : fOm → fB2} (h : p.1 = 0) : bo p k e = e p.2 := if_pos h
theorem bn_p {p : fB2} {k : fOm → fB2} (h : ¬ p.1 = 0) : bn p k = k p.2 := if_neg h
theorem bn_n {p : fB2} {k : fOm → fB2} (h : p.1 = 0) : bn p k = (0, p.2) := if_pos h
theorem ro_e {ω : fOm} : f_ro ω = bo (f_take (wu (wu ω 529 2 (f_signAt ω (ω 529 1))) 529 4 0) 102) f_roF fun w => bo (f_take w 106) f_roJ fun w => bo (f_take w 108) f_roL f_roT := rfl
theorem roF_e {w : fOm} : f_roF w = bn (f_rn w) fun w => bn (f_take w 58) fun w => bn (f_rv w) fun w => (1, w) := rfl
theorem roJ_e {w : fOm} : f_roJ w = bn (f_rn w) fun w => bn (f_take w 61) fun w => bn (f_rm w) fun w => (1, w) := rfl
theorem roL_e {w : fOm} : f_roL w = bn (f_rn w) fun w => bn (f_take w 58) fun w => bn (f_rn w) fun w => bn (f_take w 61) fun w => bn (f_rn w) fun w => (1, w) := rfl
theorem roT_e {w : fOm} : f_roT w = bn (f_take w 116) fun w => bn (f_rn w) fun w => (1, w) := rfl
theorem rx_e {ω : fOm} : f_rx ω = f_ro (f_take ω 59).2 := rfl
set_option maxHeartbeats 4000000 in
set_option maxRecDepth 100000 in
theorem tX1_holdBack (l0 : Launch) (G : fG) (F : Nat) (ω : fOm) (hI : Inv ω) (b : Nat) (hb : kd b = 1) : CT l0 G F yX1_holdBack cX1_holdBack 2 none 4 [.ref (F + 117), .ref (F + b)] ω none (f_hold ω b) := by
  refine ct_met (own := RX1) (by decide +kernel) rfl (Nat.le_of_ble_eq_true rfl) (fun X hXl hX h => ?_)
  subst hXl
  refine g_aload_n h 0 dX1_holdBack_0 rfl ?_
  refine q_1_states h rfl tw_182 dX1_holdBack_1 ?_
  refine g_aload_n h 0 dX1_holdBack_4 rfl ?_
  refine q_1_size h rfl tw_183 dX1_holdBack_5 (fun v1 hv1 => ?_)
  refine g_ha h hI (by replace hv1 := hv1.symm; subst hv1; exact vp_le (Inv_13_1 hI rfl) rfl) dX1_holdBack_8 (fun k2 ek2 hk2 => ?_)
  refine g_aload_n h 1 dX1_holdBack_9 rfl ?_
  refine k_VN_v (st := []) h hX (tX6_copyFrom (xl X) G F ω hI k2 hk2 b hb) rfl ⟨kd_lt hk2, ob_1 hk2⟩ rfl miX6_copyFrom tw_261 (by decide) (by decide) rfl (Nat.le_of_ble_eq_true rfl) (by rw [hX]; exact Nat.zero_le _) (by rw [hX]; exact Nat.zero_le _) dX1_holdBack_10 (fun w3 hw3 iw3 => ?_)
  exact e_vret h iw3 dX1_holdBack_13 (by clear iw3; replace hv1 := hv1.symm; replace ek2 := ek2.symm; replace hw3 := hw3.symm; subst hw3 ek2 hv1; first | rfl | contradiction)
set_option maxHeartbeats 4000000 in
set_option maxRecDepth 100000 in
theorem tX1_dropOldest (l0 : Launch) (G : fG) (F : Nat) (ω : fOm) (hI : Inv ω) : CT l0 G F yX1_dropOldest cX1_dropOldest 3 none 0 [.ref (F + 117)] ω none (f_dropO ω) := by
  refine ct_met (own := RX1) (by decide +kernel) rfl (Nat.le_of_ble_eq_true rfl) (fun X hXl hX h => ?_)
  subst hXl
  refine g_aload_n h 0 dX1_dropOldest_0 rfl ?_
  refine q_1_states h rfl tw_182 dX1_dropOldest_1 ?_
  refine g_iconst (v := 0) h dX1_dropOldest_4 (by decide) ?_
  refine g_ha h hI (vp_n (j := 0) (Nat.le_of_ble_eq_true rfl) (Nat.le_of_ble_eq_true rfl)) dX1_dropOldest_5 (fun k1 ek1 hk1 => ?_)
  refine g_astore_n (loc2 := [(1, .ref (F + k1)), (0, .ref (F + 117))]) h dX1_dropOldest_6 (by decide) rfl ?_
  refine g_iconst (v := 0) h dX1_dropOldest_7 (by decide) ?_
  refine g_istore_n (loc2 := [(2, .int 0), (1, .ref (F + k1)), (0, .ref (F + 117))]) h dX1_dropOldest_8 (by decide) rfl ?_
  have e3 : 0 = nI 0 := by replace ek1 := ek1.symm; subst ek1; first | rfl | exact nI_0.symm | exact nI_0 | decide
  have e4 : ω = f_dro ω 0 := rfl
  refine g_lt (ω2 := f_dro ω 0) (loc2 := [(2, .int (nI 0)), (1, .ref (F + k1)), (0, .ref (F + 117))]) e4 (lc_i e3 rfl) rfl ?_
  refine g_loop3 (hd := 9) (6) (fun j2 => Inv (f_dro ω j2)) (fun j2 => [(2, .int (nI j2)), (1, .ref (F + k1)), (0, .ref (F + 117))]) (fun j2 => cel F G (f_dro ω j2)) (e4 ▸ hI) (fun j2 hj7 hP5 ih6 => ?_)
  (try dsimp only)
  have iv8 := hP5
  refine g_iload_n h 0 dX1_dropOldest_9 rfl ?_
  refine g_bipush (v := 6) h dX1_dropOldest_10 (by decide) ?_
  refine g_icmp_ge (tgt := 35) h dX1_dropOldest_12 (by decide) (fun c9 => ?_) (fun c9 => ?_)
  · have hN10 : j2 = 6 := lpc_ge (x := 6) (M := 6) rfl (by decide) c9 hj7
    refine g_aload_n h 2 dX1_dropOldest_35 rfl ?_
    refine q_1_states h rfl tw_182 dX1_dropOldest_36 ?_
    refine g_bipush (v := 6) h dX1_dropOldest_39 (by decide) ?_
    refine g_aload_n h 1 dX1_dropOldest_41 rfl ?_
    refine g_hs h iv8 hk1 (vp_n (j := 6) (Nat.le_of_ble_eq_true rfl) (Nat.le_of_ble_eq_true rfl)) dX1_dropOldest_42 (fun w11 hw11 iw11 => ?_)
    exact e_vret h iw11 dX1_dropOldest_43 (by clear ih6 iw11; replace ek1 := ek1.symm; replace hw11 := hw11.symm; subst hw11 ek1; rw [hN10]; rfl)
  · have hlt12 : j2 < 6 := lpc_lt (x := 6) (M := 6) rfl (by decide) c9 hj7
    refine g_aload_n h 2 dX1_dropOldest_15 rfl ?_
    refine q_1_states h rfl tw_182 dX1_dropOldest_16 ?_
    refine g_iload_n h 0 dX1_dropOldest_19 rfl ?_
    refine g_aload_n h 2 dX1_dropOldest_20 rfl ?_
    refine q_1_states h rfl tw_182 dX1_dropOldest_21 ?_
    refine g_iload_n h 0 dX1_dropOldest_24 rfl ?_
    refine g_iconst (v := 1) h dX1_dropOldest_25 (by decide) ?_
    refine g_iadd h dX1_dropOldest_26 (g_name fun v13 hv13 => ?_)
    refine g_ha h iv8 (by clear ih6; replace ek1 := ek1.symm; replace hv13 := hv13.symm; subst hv13 ek1; rw [nI_1]; exact vp_n (by omega) (by decide)) dX1_dropOldest_27 (fun k14 ek14 hk14 => ?_)
    refine g_hs h iv8 hk14 (vp_n (Nat.lt_trans hlt12 (by decide)) (by decide)) dX1_dropOldest_28 (fun w15 hw15 iw15 => ?_)
    obtain ⟨v16, hv16⟩ : ∃ z : Int32, z = (nI j2) + 1 := ⟨_, rfl⟩
    refine g_iinc (v := v16) (loc2 := [(2, .int v16), (1, .ref (F + k1)), (0, .ref (F + 117))]) h 0 dX1_dropOldest_29 rfl (by rw [hv16]; rfl) (by decide) rfl ?_
    refine g_goto (tgt := 9) h dX1_dropOldest_32 (by decide) ?_
    have e17 : v16 = nI (j2 + 1) := by clear ih6 iw15; replace ek1 := ek1.symm; replace hv13 := hv13.symm; replace ek14 := ek14.symm; replace hw15 := hw15.symm; replace hv16 := hv16.symm; subst hv16 hw15 ek14 hv13 ek1; first | rfl | exact nI_1 _ | (rw [nI_succ])
    have e18 : w15 = f_dro ω (j2 + 1) := by clear ih6 iw15; replace ek1 := ek1.symm; replace hv13 := hv13.symm; replace ek14 := ek14.symm; replace hw15 := hw15.symm; replace hv16 := hv16.symm; subst hv16 hw15 ek14 hv13 ek1; rw [nI_1, nI_clamp (by omega), nI_clamp (by omega)]; rfl
    exact g_lt e18 (lc_i e17 rfl) rfl (ih6 hlt12 (e18 ▸ iw15))
set_option maxHeartbeats 4000000 in
set_option maxRecDepth 100000 in
theorem tX1_keepIfDone (l0 : Launch) (G : fG) (F : Nat) (ω : fOm) (hI : Inv ω) (a : Int32) : CT l0 G F yX1_keepIfDone cX1_keepIfDone 2 (some .int) 1 [.ref (F + 117), .int a] ω (some (.int (a))) (f_keepD ω a) := by
  refine ct_met (own := RX1) (by decide +kernel) rfl (Nat.le_of_ble_eq_true rfl) (fun X hXl hX h => ?_)
  subst hXl
  refine g_iload_n h 1 dX1_keepIfDone_0 rfl ?_
  refine g_if_ge (tgt := 6) h dX1_keepIfDone_1 (by decide) (fun c1 => ?_) (fun c1 => ?_)
  · refine g_aload_n h 0 dX1_keepIfDone_6 rfl ?_
    refine q_1_size h rfl tw_183 dX1_keepIfDone_7 (fun v2 hv2 => ?_)
    refine g_bipush (v := 6) h dX1_keepIfDone_10 (by decide) ?_
    refine g_icmp_ge (tgt := 28) h dX1_keepIfDone_12 (by decide) (fun c3 => ?_) (fun c3 => ?_)
    · refine g_aload_n h 0 dX1_keepIfDone_28 rfl ?_
      refine k_V_v (st := []) h hX (tX1_dropOldest (xl X) G F ω hI) rfl ⟨kd_lt rfl, ob_13 rfl⟩ rfl miX1_dropOldest tw_294 (by decide) (by decide) rfl (Nat.le_of_ble_eq_true rfl) (by rw [hX]; exact Nat.zero_le _) (by rw [hX]; exact Nat.zero_le _) dX1_keepIfDone_29 (fun w4 hw4 iw4 => ?_)
      refine g_iload_n h 1 dX1_keepIfDone_32 rfl ?_
      exact e_iret h iw4 dX1_keepIfDone_33 rfl (by clear iw4; replace hv2 := hv2.symm; replace hw4 := hw4.symm; subst hw4 hv2; unfold f_keepD; simp only [c1, c3, ↓reduceIte])
    · refine g_aload_n h 0 dX1_keepIfDone_15 rfl ?_
      refine g_dup h dX1_keepIfDone_16 rfl ?_
      refine q_1_size h rfl tw_183 dX1_keepIfDone_17 (fun v5 hv5 => ?_)
      refine g_iconst (v := 1) h dX1_keepIfDone_20 (by decide) ?_
      refine g_iadd h dX1_keepIfDone_21 (g_name fun v6 hv6 => ?_)
      refine p_1_size h hI rfl (by have hb9 := inc_le (Inv_13_1 (k := 117) hI rfl).1 (M := 6) (by replace hv2 := hv2.symm; replace hv5 := hv5.symm; replace hv6 := hv6.symm; subst hv6 hv5 hv2; exact Int32.not_le.mp c3); replace hv2 := hv2.symm; replace hv5 := hv5.symm; replace hv6 := hv6.symm; subst hv6 hv5 hv2; exact okv_13_1 hb9.1 hb9.2) tw_183 dX1_keepIfDone_22 (fun w7 hw7 iw7 => ?_)
      refine g_goto (tgt := 32) h dX1_keepIfDone_25 (by decide) ?_
      refine g_iload_n h 1 dX1_keepIfDone_32 rfl ?_
      exact e_iret h iw7 dX1_keepIfDone_33 rfl (by clear iw7; replace hv2 := hv2.symm; replace hv5 := hv5.symm; replace hv6 := hv6.symm; replace hw7 := hw7.symm; subst hw7 hv6 hv5 hv2; unfold f_keepD; simp only [c1, c3, ↓reduceIte])
  · refine g_iload_n h 1 dX1_keepIfDone_4 rfl ?_
    exact e_iret h hI dX1_keepIfDone_5 rfl (by skip; unfold f_keepD; simp only [c1, ↓reduceIte])
set_option maxHeartbeats 4000000 in
set_option maxRecDepth 100000 in
theorem tX1_takeLatest (l0 : Launch) (G : fG) (F : Nat) (ω : fOm) (hI : Inv ω) : CT l0 G F yX1_takeLatest cX1_takeLatest 1 (some (.object "FibreLoops$State")) 0 [.ref (F + 117)] ω (some (vref F (f_takeL ω))) (f_takeW ω) := by
  refine ct_met (own := RX1) (by decide +kernel) rfl (Nat.le_of_ble_eq_true rfl) (fun X hXl hX h => ?_)
  subst hXl
  refine g_aload_n h 0 dX1_takeLatest_0 rfl ?_
  refine q_1_size h rfl tw_183 dX1_takeLatest_1 (fun v1 hv1 => ?_)
  refine g_if_ne (tgt := 9) h dX1_takeLatest_4 (by decide) (fun c2 => ?_) (fun c2 => ?_)
  · refine g_aload_n h 0 dX1_takeLatest_9 rfl ?_
    refine g_dup h dX1_takeLatest_10 rfl ?_
    refine q_1_size h rfl tw_183 dX1_takeLatest_11 (fun v3 hv3 => ?_)
    refine g_iconst (v := 1) h dX1_takeLatest_14 (by decide) ?_
    refine g_isub h dX1_takeLatest_15 (g_name fun v4 hv4 => ?_)
    refine p_1_size h hI rfl (by have hb9 := dec_le (Inv_13_1 (k := 117) hI rfl) (by replace hv1 := hv1.symm; replace hv3 := hv3.symm; replace hv4 := hv4.symm; subst hv4 hv3 hv1; exact c2); replace hv1 := hv1.symm; replace hv3 := hv3.symm; replace hv4 := hv4.symm; subst hv4 hv3 hv1; exact okv_13_1 hb9.1 hb9.2) tw_183 dX1_takeLatest_16 (fun w5 hw5 iw5 => ?_)
    refine g_aload_n h 0 dX1_takeLatest_19 rfl ?_
    refine q_1_states h rfl tw_182 dX1_takeLatest_20 ?_
    refine g_aload_n h 0 dX1_takeLatest_23 rfl ?_
    refine q_1_size h rfl tw_183 dX1_takeLatest_24 (fun v6 hv6 => ?_)
    refine g_ha h iw5 (by replace hv1 := hv1.symm; replace hv3 := hv3.symm; replace hv4 := hv4.symm; replace hw5 := hw5.symm; replace hv6 := hv6.symm; subst hv6 hw5 hv4 hv3 hv1; exact vp_le (Inv_13_1 iw5 rfl) rfl) dX1_takeLatest_27 (fun k7 ek7 hk7 => ?_)
    exact e_aret (o := (some k7)) h iw5 dX1_takeLatest_28 (by clear iw5; replace hv1 := hv1.symm; replace hv3 := hv3.symm; replace hv4 := hv4.symm; replace hw5 := hw5.symm; replace hv6 := hv6.symm; replace ek7 := ek7.symm; subst ek7 hv6 hw5 hv4 hv3 hv1; unfold f_takeL f_takeW; simp only [c2, ↓reduceIte]) (by clear iw5; replace hv1 := hv1.symm; replace hv3 := hv3.symm; replace hv4 := hv4.symm; replace hw5 := hw5.symm; replace hv6 := hv6.symm; replace ek7 := ek7.symm; subst ek7 hv6 hw5 hv4 hv3 hv1; unfold f_takeW; simp only [c2, ↓reduceIte])
  · refine g_null h dX1_takeLatest_7 ?_
    exact e_aret (o := none) h hI dX1_takeLatest_8 (by replace hv1 := hv1.symm; subst hv1; unfold f_takeL f_takeW; simp only [c2, ↓reduceIte]) (by replace hv1 := hv1.symm; subst hv1; unfold f_takeW; simp only [c2, ↓reduceIte])
set_option maxHeartbeats 4000000 in
set_option maxRecDepth 100000 in
theorem tX4_append (l0 : Launch) (G : fG) (F : Nat) (ω : fOm) (hI : Inv ω) (c : Int32) (hc : 0 ≤ vp_nar .char c ∧ vp_nar .char c ≤ 65535) : CT l0 G F yX4_append cX4_append 2 none 0 [.ref (F + 527), .int c] ω none (f_append ω c) := by
  refine ct_met (own := RX4) (by decide +kernel) rfl (Nat.le_of_ble_eq_true rfl) (fun X hXl hX h => ?_)
  subst hXl
  refine g_aload_n h 0 dX4_append_0 rfl ?_
  refine q_4_length h rfl tw_197 dX4_append_1 (fun v1 hv1 => ?_)
  refine g_bipush (v := 80) h dX4_append_4 (by decide) ?_
  refine g_icmp_ge (tgt := 29) h dX4_append_6 (by decide) (fun c2 => ?_) (fun c2 => ?_)
  · exact e_vret h hI dX4_append_29 (by replace hv1 := hv1.symm; subst hv1; first | contradiction | (unfold f_append; simp only [c2, ↓reduceIte]; done) | (unfold f_append; simp only [c2, ↓reduceIte] <;> rfl) | rfl | (unfold f_append; simp [c2]; done))
  · refine g_aload_n h 0 dX4_append_9 rfl ?_
    refine q_4_signs h rfl tw_196 dX4_append_10 ?_
    refine g_aload_n h 0 dX4_append_13 rfl ?_
    refine q_4_length h rfl tw_197 dX4_append_14 (fun v3 hv3 => ?_)
    refine g_iload_n h 1 dX4_append_17 rfl ?_
    refine g_cs h hI rfl (by replace hv1 := hv1.symm; replace hv3 := hv3.symm; subst hv3 hv1; exact vp_lt (Int32.not_lt.mpr (Inv_17_1 hI rfl).1) (Int32.not_le.mp c2) (M := 80) (by decide) rfl) hc dX4_append_18 (fun w4 hw4 iw4 => ?_)
    refine g_aload_n h 0 dX4_append_19 rfl ?_
    refine g_dup h dX4_append_20 rfl ?_
    refine q_4_length h rfl tw_197 dX4_append_21 (fun v5 hv5 => ?_)
    refine g_iconst (v := 1) h dX4_append_24 (by decide) ?_
    refine g_iadd h dX4_append_25 (g_name fun v6 hv6 => ?_)
    refine p_4_length h iw4 rfl (by have hb9 := inc_le (Inv_17_1 (k := 527) hI rfl).1 (M := 80) (by clear iw4; replace hv1 := hv1.symm; replace hv3 := hv3.symm; replace hw4 := hw4.symm; replace hv5 := hv5.symm; replace hv6 := hv6.symm; subst hv6 hv5 hw4 hv3 hv1; exact Int32.not_le.mp c2); clear iw4; replace hv1 := hv1.symm; replace hv3 := hv3.symm; replace hw4 := hw4.symm; replace hv5 := hv5.symm; replace hv6 := hv6.symm; subst hv6 hv5 hw4 hv3 hv1; rw [wu_ne (by decide)]; exact okv_17_1 hb9.1 hb9.2) tw_197 dX4_append_26 (fun w7 hw7 iw7 => ?_)
    exact e_vret h iw7 dX4_append_29 (by clear iw4 iw7; replace hv1 := hv1.symm; replace hv3 := hv3.symm; replace hw4 := hw4.symm; replace hv5 := hv5.symm; replace hv6 := hv6.symm; replace hw7 := hw7.symm; subst hw7 hv6 hv5 hw4 hv3 hv1; first | contradiction | (unfold f_append; simp only [c2, ↓reduceIte]; done) | (unfold f_append; simp only [c2, ↓reduceIte] <;> rfl) | rfl | (unfold f_append; simp [c2]; done))
set_option maxHeartbeats 4000000 in
set_option maxRecDepth 100000 in
theorem tX4_clear (l0 : Launch) (G : fG) (F : Nat) (ω : fOm) (hI : Inv ω) : CT l0 G F yX4_clear cX4_clear 1 none 0 [.ref (F + 527)] ω none (wu ω 527 1 0) := by
  refine ct_met (own := RX4) (by decide +kernel) rfl (Nat.le_of_ble_eq_true rfl) (fun X hXl hX h => ?_)
  subst hXl
  refine g_aload_n h 0 dX4_clear_0 rfl ?_
  refine g_iconst (v := 0) h dX4_clear_1 (by decide) ?_
  refine p_4_length h hI rfl (okv_17_1 (by decide) (by decide)) tw_197 dX4_clear_2 (fun w1 hw1 iw1 => ?_)
  exact e_vret h iw1 dX4_clear_5 (by clear iw1; replace hw1 := hw1.symm; subst hw1; first | rfl | contradiction)
set_option maxHeartbeats 4000000 in
set_option maxRecDepth 100000 in
theorem tX4_signAt (l0 : Launch) (G : fG) (F : Nat) (ω : fOm) (hI : Inv ω) (i : Int32) : CT l0 G F yX4_signAt cX4_signAt 2 (some .char) 0 [.ref (F + 527), .int i] ω (some (.int (f_signAt ω i))) ω := by
  refine ct_met (own := RX4) (by decide +kernel) rfl (Nat.le_of_ble_eq_true rfl) (fun X hXl hX h => ?_)
  subst hXl
  refine g_iload_n h 1 dX4_signAt_0 rfl ?_
  refine g_if_lt (tgt := 21) h dX4_signAt_1 (by decide) (fun c1 => ?_) (fun c1 => ?_)
  · refine g_iconst (v := 0) h dX4_signAt_21 (by decide) ?_
    exact e_zret h hI dX4_signAt_22 (ch_of (signAt_rg hI)).1 (by skip; first | contradiction | (unfold f_signAt; simp only [c1, ↓reduceIte]; done) | (unfold f_signAt; simp only [c1, ↓reduceIte] <;> rfl) | rfl | (unfold f_signAt; simp [c1]; done)) rfl
  · refine g_iload_n h 1 dX4_signAt_4 rfl ?_
    refine g_aload_n h 0 dX4_signAt_5 rfl ?_
    refine q_4_length h rfl tw_197 dX4_signAt_6 (fun v2 hv2 => ?_)
    refine g_icmp_ge (tgt := 21) h dX4_signAt_9 (by decide) (fun c3 => ?_) (fun c3 => ?_)
    · refine g_iconst (v := 0) h dX4_signAt_21 (by decide) ?_
      exact e_zret h hI dX4_signAt_22 (ch_of (signAt_rg hI)).1 (by replace hv2 := hv2.symm; subst hv2; first | contradiction | (unfold f_signAt; simp only [c1, c3, ↓reduceIte]; done) | (unfold f_signAt; simp only [c1, c3, ↓reduceIte] <;> rfl) | rfl | (unfold f_signAt; simp [c1, c3]; done)) rfl
    · refine g_aload_n h 0 dX4_signAt_12 rfl ?_
      refine q_4_signs h rfl tw_196 dX4_signAt_13 ?_
      refine g_iload_n h 1 dX4_signAt_16 rfl ?_
      refine g_ca h rfl (by replace hv2 := hv2.symm; subst hv2; exact vp_lt c1 (Int32.not_le.mp c3) (Inv_17_1 (k := 527) hI rfl).2 rfl) dX4_signAt_17 (fun v4 hv4 => ?_)
      refine g_goto (tgt := 22) h dX4_signAt_18 (by decide) ?_
      exact e_zret h hI dX4_signAt_22 (ch_of (signAt_rg hI)).1 (by replace hv2 := hv2.symm; replace hv4 := hv4.symm; subst hv4 hv2; first | contradiction | (unfold f_signAt; simp only [c1, c3, ↓reduceIte]; done) | (unfold f_signAt; simp only [c1, c3, ↓reduceIte] <;> rfl) | rfl | (unfold f_signAt; simp [c1, c3]; done)) rfl
set_option maxHeartbeats 4000000 in
set_option maxRecDepth 100000 in
theorem tX3_goToStart (l0 : Launch) (G : fG) (F : Nat) (ω : fOm) (hI : Inv ω) : CT l0 G F yX3_goToStart cX3_goToStart 1 none 0 [.ref (F + 529)] ω none (wu ω 529 1 0) := by
  refine ct_met (own := RX3) (by decide +kernel) rfl (Nat.le_of_ble_eq_true rfl) (fun X hXl hX h => ?_)
  subst hXl
  refine g_aload_n h 0 dX3_goToStart_0 rfl ?_
  refine g_iconst (v := 0) h dX3_goToStart_1 (by decide) ?_
  refine p_3_next h hI rfl tw_214 dX3_goToStart_2 (fun w1 hw1 iw1 => ?_)
  exact e_vret h iw1 dX3_goToStart_5 (by clear iw1; replace hw1 := hw1.symm; subst hw1; first | rfl | contradiction)
set_option maxHeartbeats 4000000 in
set_option maxRecDepth 100000 in
theorem tX3_number (l0 : Launch) (G : fG) (F : Nat) (ω : fOm) (hI : Inv ω) (i : Int32) : CT l0 G F yX3_number cX3_number 2 (some .int) 0 [.ref (F + 529), .int i] ω (some (.int (f_number ω i))) ω := by
  refine ct_met (own := RX3) (by decide +kernel) rfl (Nat.le_of_ble_eq_true rfl) (fun X hXl hX h => ?_)
  subst hXl
  refine g_iload_n h 1 dX3_number_0 rfl ?_
  refine g_if_lt (tgt := 21) h dX3_number_1 (by decide) (fun c1 => ?_) (fun c1 => ?_)
  · refine g_iconst (v := 0) h dX3_number_21 (by decide) ?_
    exact e_iret h hI dX3_number_22 (by skip; first | contradiction | (unfold f_number; simp only [c1, ↓reduceIte]; done) | (unfold f_number; simp only [c1, ↓reduceIte] <;> rfl) | rfl | (unfold f_number; simp [c1]; done)) rfl
  · refine g_iload_n h 1 dX3_number_4 rfl ?_
    refine g_aload_n h 0 dX3_number_5 rfl ?_
    refine q_3_numberCount h rfl tw_218 dX3_number_6 (fun v2 hv2 => ?_)
    refine g_icmp_ge (tgt := 21) h dX3_number_9 (by decide) (fun c3 => ?_) (fun c3 => ?_)
    · refine g_iconst (v := 0) h dX3_number_21 (by decide) ?_
      exact e_iret h hI dX3_number_22 (by replace hv2 := hv2.symm; subst hv2; first | contradiction | (unfold f_number; simp only [c1, c3, ↓reduceIte]; done) | (unfold f_number; simp only [c1, c3, ↓reduceIte] <;> rfl) | rfl | (unfold f_number; simp [c1, c3]; done)) rfl
    · refine g_aload_n h 0 dX3_number_12 rfl ?_
      refine q_3_numbers h rfl tw_217 dX3_number_13 ?_
      refine g_iload_n h 1 dX3_number_16 rfl ?_
      refine g_ia (q := 20) h rfl rfl (by decide) (by replace hv2 := hv2.symm; subst hv2; exact vp_lt c1 (Int32.not_le.mp c3) (Inv_19_4 (k := 529) hI rfl).2 rfl) dX3_number_17 (fun v4 hv4 => ?_)
      refine g_goto (tgt := 22) h dX3_number_18 (by decide) ?_
      exact e_iret h hI dX3_number_22 (by replace hv2 := hv2.symm; replace hv4 := hv4.symm; subst hv4 hv2; first | contradiction | (unfold f_number; simp only [c1, c3, ↓reduceIte]; done) | (unfold f_number; simp only [c1, c3, ↓reduceIte] <;> rfl) | rfl | (unfold f_number; simp [c1, c3]; done)) rfl
set_option maxHeartbeats 4000000 in
set_option maxRecDepth 100000 in
theorem tX3_take (l0 : Launch) (G : fG) (F : Nat) (ω : fOm) (hI : Inv ω) (c : Int32) : CT l0 G F yX3_take cX3_take 2 (some .boolean) 1 [.ref (F + 529), .int c] ω (some (.int ((f_take ω c).1))) ((f_take ω c).2) := by
  refine ct_met (own := RX3) (by decide +kernel) rfl (Nat.le_of_ble_eq_true rfl) (fun X hXl hX h => ?_)
  subst hXl
  refine g_aload_n h 0 dX3_take_0 rfl ?_
  refine q_3_pad h rfl tw_213 dX3_take_1 ?_
  refine g_aload_n h 0 dX3_take_4 rfl ?_
  refine q_3_next h rfl tw_214 dX3_take_5 (fun v1 hv1 => ?_)
  refine k_VN_i (st := []) h hX (tX4_signAt (xl X) G F ω hI v1) rfl ⟨kd_lt rfl, ob_17 rfl⟩ rfl miX4_signAt tw_632 (by decide) (by decide) rfl (Nat.le_of_ble_eq_true rfl) (by rw [hX]; exact Nat.zero_le _) (by rw [hX]; exact Nat.zero_le _) dX3_take_8 (fun v2 hv2 => ?_)
  refine g_iload_n h 1 dX3_take_11 rfl ?_
  refine g_icmp_eq (tgt := 17) h dX3_take_12 (by decide) (fun c3 => ?_) (fun c3 => ?_)
  · refine g_aload_n h 0 dX3_take_17 rfl ?_
    refine g_dup h dX3_take_18 rfl ?_
    refine q_3_next h rfl tw_214 dX3_take_19 (fun v4 hv4 => ?_)
    refine g_iconst (v := 1) h dX3_take_22 (by decide) ?_
    refine g_iadd h dX3_take_23 (g_name fun v5 hv5 => ?_)
    refine p_3_next h hI rfl tw_214 dX3_take_24 (fun w6 hw6 iw6 => ?_)
    refine g_iconst (v := 1) h dX3_take_27 (by decide) ?_
    exact e_zret h iw6 dX3_take_28 (nz (take_01 _ _)) (by clear iw6; replace hv1 := hv1.symm; replace hv2 := hv2.symm; replace hv4 := hv4.symm; replace hv5 := hv5.symm; replace hw6 := hw6.symm; subst hw6 hv5 hv4 hv2 hv1; unfold f_take; simp only [if_pos c3, ↓reduceIte]) (by clear iw6; replace hv1 := hv1.symm; replace hv2 := hv2.symm; replace hv4 := hv4.symm; replace hv5 := hv5.symm; replace hw6 := hw6.symm; subst hw6 hv5 hv4 hv2 hv1; unfold f_take; simp only [if_pos c3, ↓reduceIte])
  · refine g_iconst (v := 0) h dX3_take_15 (by decide) ?_
    exact e_zret h hI dX3_take_16 (nz (take_01 _ _)) (by replace hv1 := hv1.symm; replace hv2 := hv2.symm; subst hv2 hv1; unfold f_take; simp only [c3, ↓reduceIte]) (by replace hv1 := hv1.symm; replace hv2 := hv2.symm; subst hv2 hv1; unfold f_take; simp only [c3, ↓reduceIte])
set_option maxHeartbeats 4000000 in
set_option maxRecDepth 100000 in
theorem tX3_digit (l0 : Launch) (G : fG) (F : Nat) (ω : fOm) (hI : Inv ω) : CT l0 G F yX3_digit cX3_digit 2 (some .int) 1 [.ref (F + 529)] ω (some (.int (f_digit ω))) ω := by
  refine ct_met (own := RX3) (by decide +kernel) rfl (Nat.le_of_ble_eq_true rfl) (fun X hXl hX h => ?_)
  subst hXl
  refine g_aload_n h 0 dX3_digit_0 rfl ?_
  refine q_3_pad h rfl tw_213 dX3_digit_1 ?_
  refine g_aload_n h 0 dX3_digit_4 rfl ?_
  refine q_3_next h rfl tw_214 dX3_digit_5 (fun v1 hv1 => ?_)
  refine k_VN_i (st := []) h hX (tX4_signAt (xl X) G F ω hI v1) rfl ⟨kd_lt rfl, ob_17 rfl⟩ rfl miX4_signAt tw_632 (by decide) (by decide) rfl (Nat.le_of_ble_eq_true rfl) (by rw [hX]; exact Nat.zero_le _) (by rw [hX]; exact Nat.zero_le _) dX3_digit_8 (fun v2 hv2 => ?_)
  refine g_istore_n (loc2 := [(1, .int v2), (0, .ref (F + 529))]) h dX3_digit_11 (by decide) rfl ?_
  refine g_iload_n h 0 dX3_digit_12 rfl ?_
  refine g_bipush (v := 48) h dX3_digit_13 (by decide) ?_
  refine g_bipush (v := 57) h dX3_digit_15 (by decide) ?_
  refine k_SN_i (st := []) h hX (tX7_isBetween (xl X) G F ω hI v2 48 57) rfl miX7_isBetween tw_648 (by decide) (by decide) rfl (Nat.le_of_ble_eq_true rfl) (by rw [hX]; exact Nat.zero_le _) (by rw [hX]; exact Nat.zero_le _) dX3_digit_17 (fun v3 hv3 => ?_)
  refine g_if_eq (tgt := 30) h dX3_digit_20 (by decide) (fun c4 => ?_) (fun c4 => ?_)
  · refine g_bipush (v := (-6)) h dX3_digit_30 (by decide) ?_
    exact e_iret h hI dX3_digit_32 (by replace hv1 := hv1.symm; replace hv2 := hv2.symm; replace hv3 := hv3.symm; subst hv3 hv2 hv1; first | contradiction | (unfold f_digit; simp only [c4, ↓reduceIte]; done) | (unfold f_digit; simp only [c4, ↓reduceIte] <;> rfl) | rfl | (unfold f_digit; simp [c4]; done)) rfl
  · refine g_iload_n h 0 dX3_digit_23 rfl ?_
    refine g_bipush (v := 48) h dX3_digit_24 (by decide) ?_
    refine g_isub h dX3_digit_26 (g_name fun v5 hv5 => ?_)
    refine g_goto (tgt := 32) h dX3_digit_27 (by decide) ?_
    exact e_iret h hI dX3_digit_32 (by replace hv1 := hv1.symm; replace hv2 := hv2.symm; replace hv3 := hv3.symm; replace hv5 := hv5.symm; subst hv5 hv3 hv2 hv1; first | contradiction | (unfold f_digit; simp only [c4, ↓reduceIte]; done) | (unfold f_digit; simp only [c4, ↓reduceIte] <;> rfl) | rfl | (unfold f_digit; simp [c4]; done)) rfl
set_option maxHeartbeats 4000000 in
set_option maxRecDepth 100000 in
theorem tX3_keep (l0 : Launch) (G : fG) (F : Nat) (ω : fOm) (hI : Inv ω) (n : Int32) : CT l0 G F yX3_keep cX3_keep 2 (some .boolean) 0 [.ref (F + 529), .int n] ω (some (.int ((f_keep ω n).1))) ((f_keep ω n).2) := by
  refine ct_met (own := RX3) (by decide +kernel) rfl (Nat.le_of_ble_eq_true rfl) (fun X hXl hX h => ?_)
  subst hXl
  refine g_aload_n h 0 dX3_keep_0 rfl ?_
  refine q_3_numberCount h rfl tw_218 dX3_keep_1 (fun v1 hv1 => ?_)
  refine g_bipush (v := 80) h dX3_keep_4 (by decide) ?_
  refine g_icmp_lt (tgt := 11) h dX3_keep_6 (by decide) (fun c2 => ?_) (fun c2 => ?_)
  · refine g_aload_n h 0 dX3_keep_11 rfl ?_
    refine q_3_numbers h rfl tw_217 dX3_keep_12 ?_
    refine g_aload_n h 0 dX3_keep_15 rfl ?_
    refine q_3_numberCount h rfl tw_218 dX3_keep_16 (fun v3 hv3 => ?_)
    refine g_iload_n h 1 dX3_keep_19 rfl ?_
    refine g_is (q := 20) h hI rfl rfl (by decide) (by replace hv1 := hv1.symm; replace hv3 := hv3.symm; subst hv3 hv1; exact vp_lt (Int32.not_lt.mpr (Inv_19_4 hI rfl).1) c2 (M := 80) (by decide) rfl) dX3_keep_20 (fun w4 hw4 iw4 => ?_)
    refine g_aload_n h 0 dX3_keep_21 rfl ?_
    refine g_dup h dX3_keep_22 rfl ?_
    refine q_3_numberCount h rfl tw_218 dX3_keep_23 (fun v5 hv5 => ?_)
    refine g_iconst (v := 1) h dX3_keep_26 (by decide) ?_
    refine g_iadd h dX3_keep_27 (g_name fun v6 hv6 => ?_)
    refine p_3_numberCount h iw4 rfl (by have hb9 := inc_le (Inv_19_4 (k := 529) hI rfl).1 (M := 80) (by clear iw4; replace hv1 := hv1.symm; replace hv3 := hv3.symm; replace hw4 := hw4.symm; replace hv5 := hv5.symm; replace hv6 := hv6.symm; subst hv6 hv5 hw4 hv3 hv1; exact c2); clear iw4; replace hv1 := hv1.symm; replace hv3 := hv3.symm; replace hw4 := hw4.symm; replace hv5 := hv5.symm; replace hv6 := hv6.symm; subst hv6 hv5 hw4 hv3 hv1; rw [wu_ne (by decide)]; exact okv_19_4 hb9.1 hb9.2) tw_218 dX3_keep_28 (fun w7 hw7 iw7 => ?_)
    refine g_iconst (v := 1) h dX3_keep_31 (by decide) ?_
    exact e_zret h iw7 dX3_keep_32 (nz (keep_01 _ _)) (by clear iw4 iw7; replace hv1 := hv1.symm; replace hv3 := hv3.symm; replace hw4 := hw4.symm; replace hv5 := hv5.symm; replace hv6 := hv6.symm; replace hw7 := hw7.symm; subst hw7 hv6 hv5 hw4 hv3 hv1; unfold f_keep; simp only [c2, ↓reduceIte]) (by clear iw4 iw7; replace hv1 := hv1.symm; replace hv3 := hv3.symm; replace hw4 := hw4.symm; replace hv5 := hv5.symm; replace hv6 := hv6.symm; replace hw7 := hw7.symm; subst hw7 hv6 hv5 hw4 hv3 hv1; unfold f_keep; simp only [c2, ↓reduceIte])
  · refine g_iconst (v := 0) h dX3_keep_9 (by decide) ?_
    exact e_zret h hI dX3_keep_10 (nz (keep_01 _ _)) (by replace hv1 := hv1.symm; subst hv1; unfold f_keep; simp only [c2, ↓reduceIte]) (by replace hv1 := hv1.symm; subst hv1; unfold f_keep; simp only [c2, ↓reduceIte])
set_option maxHeartbeats 4000000 in
set_option maxRecDepth 100000 in
theorem tX3_readNumber (l0 : Launch) (G : fG) (F : Nat) (ω : fOm) (hI : Inv ω) : CT l0 G F yX3_readNumber cX3_readNumber 3 (some .boolean) 2 [.ref (F + 529)] ω (some (.int ((f_rn ω).1))) ((f_rn ω).2) := by
  refine ct_met (own := RX3) (by decide +kernel) rfl (Nat.le_of_ble_eq_true rfl) (fun X hXl hX h => ?_)
  subst hXl
  refine g_aload_n h 0 dX3_readNumber_0 rfl ?_
  refine k_V_i (st := []) h hX (tX3_digit (xl X) G F ω hI) rfl ⟨kd_lt rfl, ob_19 rfl⟩ rfl miX3_digit tw_644 (by decide) (by decide) rfl (Nat.le_of_ble_eq_true rfl) (by rw [hX]; exact Nat.zero_le _) (by rw [hX]; exact Nat.zero_le _) dX3_readNumber_1 (fun v1 hv1 => ?_)
  refine g_istore_n (loc2 := [(1, .int v1), (0, .ref (F + 529))]) h dX3_readNumber_4 (by decide) rfl ?_
  refine g_iload_n h 0 dX3_readNumber_5 rfl ?_
  refine g_if_ge (tgt := 11) h dX3_readNumber_6 (by decide) (fun c2 => ?_) (fun c2 => ?_)
  · refine g_aload_n h 1 dX3_readNumber_11 rfl ?_
    refine g_dup h dX3_readNumber_12 rfl ?_
    refine q_3_next h rfl tw_214 dX3_readNumber_13 (fun v3 hv3 => ?_)
    refine g_iconst (v := 1) h dX3_readNumber_16 (by decide) ?_
    refine g_iadd h dX3_readNumber_17 (g_name fun v4 hv4 => ?_)
    refine p_3_next h hI rfl tw_214 dX3_readNumber_18 (fun w5 hw5 iw5 => ?_)
    refine g_iconst (v := 0) h dX3_readNumber_21 (by decide) ?_
    refine g_istore_n (loc2 := [(2, .int 0), (1, .int v1), (0, .ref (F + 529))]) h dX3_readNumber_22 (by decide) rfl ?_
    have e7 : 0 = nI 0 := by clear iw5; replace hv1 := hv1.symm; replace hv3 := hv3.symm; replace hv4 := hv4.symm; replace hw5 := hw5.symm; subst hw5 hv4 hv3 hv1; first | rfl | exact nI_0.symm | exact nI_0 | decide
    have e8 : v1 = (f_rnI (f_digit ω) (f_nx ω) 0).1 := by clear iw5; replace hv1 := hv1.symm; replace hv3 := hv3.symm; replace hv4 := hv4.symm; replace hw5 := hw5.symm; subst hw5 hv4 hv3 hv1; first | rfl | exact nI_0.symm | exact nI_0 | decide
    have e9 : w5 = (f_rnI (f_digit ω) (f_nx ω) 0).2 := by clear iw5; replace hv1 := hv1.symm; replace hv3 := hv3.symm; replace hv4 := hv4.symm; replace hw5 := hw5.symm; subst hw5 hv4 hv3 hv1; rfl
    refine g_lt (ω2 := (f_rnI (f_digit ω) (f_nx ω) 0).2) (loc2 := [(2, .int (nI 0)), (1, .int ((f_rnI (f_digit ω) (f_nx ω) 0).1)), (0, .ref (F + 529))]) e9 (lc_i e7 (lc_i e8 rfl)) rfl ?_
    refine g_loop3 (hd := 23) (2) (fun j6 => Inv ((f_rnI (f_digit ω) (f_nx ω) j6).2) ∧ f_rnL 2 (f_digit ω) (f_nx ω) = f_rnL (2 - j6) (f_rnI (f_digit ω) (f_nx ω) j6).1 (f_rnI (f_digit ω) (f_nx ω) j6).2) (fun j6 => [(2, .int (nI j6)), (1, .int ((f_rnI (f_digit ω) (f_nx ω) j6).1)), (0, .ref (F + 529))]) (fun j6 => cel F G ((f_rnI (f_digit ω) (f_nx ω) j6).2)) ⟨(e9 ▸ iw5), rfl⟩ (fun j6 hj12 hP10 ih11 => ?_)
    (try dsimp only)
    obtain ⟨iv13, hP1⟩ := hP10
    refine g_iload_n h 0 dX3_readNumber_23 rfl ?_
    refine g_iconst (v := 2) h dX3_readNumber_24 (by decide) ?_
    refine g_icmp_ge (tgt := 65) h dX3_readNumber_25 (by decide) (fun c14 => ?_) (fun c14 => ?_)
    · have hN15 : j6 = 2 := lpc_ge (x := 2) (M := 2) rfl (by decide) c14 hj12
      refine g_aload_n h 2 dX3_readNumber_65 rfl ?_
      refine g_iload_n h 1 dX3_readNumber_66 rfl ?_
      refine k_V_j (st := []) h hX (tX3_keep (xl X) G F ((f_rnI (f_digit ω) (f_nx ω) j6).2) iv13 ((f_rnI (f_digit ω) (f_nx ω) j6).1)) rfl ⟨kd_lt rfl, ob_19 rfl⟩ rfl miX3_keep tw_649 (by decide) (by decide) rfl (Nat.le_of_ble_eq_true rfl) (by rw [hX]; exact Nat.zero_le _) (by rw [hX]; exact Nat.zero_le _) dX3_readNumber_67 (fun v16 w17 hv16 hw17 iw17 => ?_)
      exact e_zret h iw17 dX3_readNumber_70 (nz (rn_01 _)) (by clear iw5 ih11 iw17; replace hv1 := hv1.symm; replace hv3 := hv3.symm; replace hv4 := hv4.symm; replace hw5 := hw5.symm; replace hv16 := hv16.symm; replace hw17 := hw17.symm; subst hw17 hv16 hw5 hv4 hv3 hv1; exact fst_eq (rn_fin c2 (rn_out hj12 hP1 (Or.inl hN15))) rfl) (by clear iw5 ih11 iw17; replace hv1 := hv1.symm; replace hv3 := hv3.symm; replace hv4 := hv4.symm; replace hw5 := hw5.symm; replace hv16 := hv16.symm; replace hw17 := hw17.symm; subst hw17 hv16 hw5 hv4 hv3 hv1; exact snd_eq (rn_fin c2 (rn_out hj12 hP1 (Or.inl hN15))) rfl)
    · have hlt18 : j6 < 2 := lpc_lt (x := 2) (M := 2) rfl (by decide) c14 hj12
      refine g_iload_n h 1 dX3_readNumber_28 rfl ?_
      refine g_if_le (tgt := 65) h dX3_readNumber_29 (by decide) (fun c19 => ?_) (fun c19 => ?_)
      · refine g_aload_n h 2 dX3_readNumber_65 rfl ?_
        refine g_iload_n h 1 dX3_readNumber_66 rfl ?_
        refine k_V_j (st := []) h hX (tX3_keep (xl X) G F ((f_rnI (f_digit ω) (f_nx ω) j6).2) iv13 ((f_rnI (f_digit ω) (f_nx ω) j6).1)) rfl ⟨kd_lt rfl, ob_19 rfl⟩ rfl miX3_keep tw_649 (by decide) (by decide) rfl (Nat.le_of_ble_eq_true rfl) (by rw [hX]; exact Nat.zero_le _) (by rw [hX]; exact Nat.zero_le _) dX3_readNumber_67 (fun v20 w21 hv20 hw21 iw21 => ?_)
        exact e_zret h iw21 dX3_readNumber_70 (nz (rn_01 _)) (by clear iw5 ih11 iw21; replace hv1 := hv1.symm; replace hv3 := hv3.symm; replace hv4 := hv4.symm; replace hw5 := hw5.symm; replace hv20 := hv20.symm; replace hw21 := hw21.symm; subst hw21 hv20 hw5 hv4 hv3 hv1; exact fst_eq (rn_fin c2 (rn_out hj12 hP1 (Or.inr (Or.inl c19)))) rfl) (by clear iw5 ih11 iw21; replace hv1 := hv1.symm; replace hv3 := hv3.symm; replace hv4 := hv4.symm; replace hw5 := hw5.symm; replace hv20 := hv20.symm; replace hw21 := hw21.symm; subst hw21 hv20 hw5 hv4 hv3 hv1; exact snd_eq (rn_fin c2 (rn_out hj12 hP1 (Or.inr (Or.inl c19)))) rfl)
      · refine g_aload_n h 2 dX3_readNumber_32 rfl ?_
        refine k_V_i (st := []) h hX (tX3_digit (xl X) G F ((f_rnI (f_digit ω) (f_nx ω) j6).2) iv13) rfl ⟨kd_lt rfl, ob_19 rfl⟩ rfl miX3_digit tw_644 (by decide) (by decide) rfl (Nat.le_of_ble_eq_true rfl) (by rw [hX]; exact Nat.zero_le _) (by rw [hX]; exact Nat.zero_le _) dX3_readNumber_33 (fun v22 hv22 => ?_)
        refine g_if_lt (tgt := 65) h dX3_readNumber_36 (by decide) (fun c23 => ?_) (fun c23 => ?_)
        · refine g_aload_n h 2 dX3_readNumber_65 rfl ?_
          refine g_iload_n h 1 dX3_readNumber_66 rfl ?_
          refine k_V_j (st := []) h hX (tX3_keep (xl X) G F ((f_rnI (f_digit ω) (f_nx ω) j6).2) iv13 ((f_rnI (f_digit ω) (f_nx ω) j6).1)) rfl ⟨kd_lt rfl, ob_19 rfl⟩ rfl miX3_keep tw_649 (by decide) (by decide) rfl (Nat.le_of_ble_eq_true rfl) (by rw [hX]; exact Nat.zero_le _) (by rw [hX]; exact Nat.zero_le _) dX3_readNumber_67 (fun v24 w25 hv24 hw25 iw25 => ?_)
          exact e_zret h iw25 dX3_readNumber_70 (nz (rn_01 _)) (by clear iw5 ih11 iw25; replace hv1 := hv1.symm; replace hv3 := hv3.symm; replace hv4 := hv4.symm; replace hw5 := hw5.symm; replace hv22 := hv22.symm; replace hv24 := hv24.symm; replace hw25 := hw25.symm; subst hw25 hv24 hv22 hw5 hv4 hv3 hv1; exact fst_eq (rn_fin c2 (rn_out hj12 hP1 (Or.inr (Or.inr c23)))) rfl) (by clear iw5 ih11 iw25; replace hv1 := hv1.symm; replace hv3 := hv3.symm; replace hv4 := hv4.symm; replace hw5 := hw5.symm; replace hv22 := hv22.symm; replace hv24 := hv24.symm; replace hw25 := hw25.symm; subst hw25 hv24 hv22 hw5 hv4 hv3 hv1; exact snd_eq (rn_fin c2 (rn_out hj12 hP1 (Or.inr (Or.inr c23)))) rfl)
        · refine g_iload_n h 1 dX3_readNumber_39 rfl ?_
          refine g_bipush (v := 10) h dX3_readNumber_40 (by decide) ?_
          refine g_imul h dX3_readNumber_42 (g_name fun v26 hv26 => ?_)
          refine g_aload_n h 2 dX3_readNumber_43 rfl ?_
          refine k_V_i (st := [.int v26]) h hX (tX3_digit (xl X) G F ((f_rnI (f_digit ω) (f_nx ω) j6).2) iv13) rfl ⟨kd_lt rfl, ob_19 rfl⟩ rfl miX3_digit tw_644 (by decide) (by decide) rfl (Nat.le_of_ble_eq_true rfl) (by rw [hX]; exact Nat.zero_le _) (by rw [hX]; exact Nat.zero_le _) dX3_readNumber_44 (fun v27 hv27 => ?_)
          refine g_iadd h dX3_readNumber_47 (g_name fun v28 hv28 => ?_)
          refine g_istore_n (loc2 := [(1, .int v28), (2, .int (nI j6)), (0, .ref (F + 529))]) h dX3_readNumber_48 (by decide) rfl ?_
          refine g_aload_n h 2 dX3_readNumber_49 rfl ?_
          refine g_dup h dX3_readNumber_50 rfl ?_
          refine q_3_next h rfl tw_214 dX3_readNumber_51 (fun v29 hv29 => ?_)
          refine g_iconst (v := 1) h dX3_readNumber_54 (by decide) ?_
          refine g_iadd h dX3_readNumber_55 (g_name fun v30 hv30 => ?_)
          refine p_3_next h iv13 rfl tw_214 dX3_readNumber_56 (fun w31 hw31 iw31 => ?_)
          obtain ⟨v32, hv32⟩ : ∃ z : Int32, z = (nI j6) + 1 := ⟨_, rfl⟩
          refine g_iinc (v := v32) (loc2 := [(2, .int v32), (1, .int v28), (0, .ref (F + 529))]) h 1 dX3_readNumber_59 rfl (by rw [hv32]; rfl) (by decide) rfl ?_
          refine g_goto (tgt := 23) h dX3_readNumber_62 (by decide) ?_
          have e33 : v32 = nI (j6 + 1) := by clear iw5 ih11 iw31; replace hv1 := hv1.symm; replace hv3 := hv3.symm; replace hv4 := hv4.symm; replace hw5 := hw5.symm; replace hv22 := hv22.symm; replace hv26 := hv26.symm; replace hv27 := hv27.symm; replace hv28 := hv28.symm; replace hv29 := hv29.symm; replace hv30 := hv30.symm; replace hw31 := hw31.symm; replace hv32 := hv32.symm; subst hv32 hw31 hv30 hv29 hv28 hv27 hv26 hv22 hw5 hv4 hv3 hv1; first | rfl | exact nI_1 _ | (rw [nI_succ])
          have e34 : v28 = (f_rnI (f_digit ω) (f_nx ω) (j6 + 1)).1 := by clear iw5 ih11 iw31; replace hv1 := hv1.symm; replace hv3 := hv3.symm; replace hv4 := hv4.symm; replace hw5 := hw5.symm; replace hv22 := hv22.symm; replace hv26 := hv26.symm; replace hv27 := hv27.symm; replace hv28 := hv28.symm; replace hv29 := hv29.symm; replace hv30 := hv30.symm; replace hw31 := hw31.symm; replace hv32 := hv32.symm; subst hv32 hw31 hv30 hv29 hv28 hv27 hv26 hv22 hw5 hv4 hv3 hv1; rfl
          have e35 : w31 = (f_rnI (f_digit ω) (f_nx ω) (j6 + 1)).2 := by clear iw5 ih11 iw31; replace hv1 := hv1.symm; replace hv3 := hv3.symm; replace hv4 := hv4.symm; replace hw5 := hw5.symm; replace hv22 := hv22.symm; replace hv26 := hv26.symm; replace hv27 := hv27.symm; replace hv28 := hv28.symm; replace hv29 := hv29.symm; replace hv30 := hv30.symm; replace hw31 := hw31.symm; replace hv32 := hv32.symm; subst hv32 hw31 hv30 hv29 hv28 hv27 hv26 hv22 hw5 hv4 hv3 hv1; rfl
          exact g_lt e35 (lc_i e33 (lc_i e34 rfl)) rfl (ih11 hlt18 ⟨(e35 ▸ iw31), (by clear iw5 ih11 iw31; replace hv1 := hv1.symm; replace hv3 := hv3.symm; replace hv4 := hv4.symm; replace hw5 := hw5.symm; replace hv22 := hv22.symm; replace hv26 := hv26.symm; replace hv27 := hv27.symm; replace hv28 := hv28.symm; replace hv29 := hv29.symm; replace hv30 := hv30.symm; replace hw31 := hw31.symm; replace hv32 := hv32.symm; subst hv32 hw31 hv30 hv29 hv28 hv27 hv26 hv22 hw5 hv4 hv3 hv1; exact rn_in hlt18 hP1 c19 c23)⟩)
  · refine g_iconst (v := 0) h dX3_readNumber_9 (by decide) ?_
    exact e_zret h hI dX3_readNumber_10 (nz (rn_01 _)) (by replace hv1 := hv1.symm; subst hv1; unfold f_rn; rw [if_neg c2]) (by replace hv1 := hv1.symm; subst hv1; unfold f_rn; rw [if_neg c2])
set_option maxHeartbeats 4000000 in
set_option maxRecDepth 100000 in
theorem tX3_readMode (l0 : Launch) (G : fG) (F : Nat) (ω : fOm) (hI : Inv ω) : CT l0 G F yX3_readMode cX3_readMode 2 (some .boolean) 2 [.ref (F + 529)] ω (some (.int ((f_rm ω).1))) ((f_rm ω).2) := by
  refine ct_met (own := RX3) (by decide +kernel) rfl (Nat.le_of_ble_eq_true rfl) (fun X hXl hX h => ?_)
  subst hXl
  refine g_aload_n h 0 dX3_readMode_0 rfl ?_
  refine k_V_i (st := []) h hX (tX3_digit (xl X) G F ω hI) rfl ⟨kd_lt rfl, ob_19 rfl⟩ rfl miX3_digit tw_644 (by decide) (by decide) rfl (Nat.le_of_ble_eq_true rfl) (by rw [hX]; exact Nat.zero_le _) (by rw [hX]; exact Nat.zero_le _) dX3_readMode_1 (fun v1 hv1 => ?_)
  refine g_istore_n (loc2 := [(1, .int v1), (0, .ref (F + 529))]) h dX3_readMode_4 (by decide) rfl ?_
  refine g_iload_n h 0 dX3_readMode_5 rfl ?_
  refine g_iconst (v := 0) h dX3_readMode_6 (by decide) ?_
  refine g_iconst (v := 2) h dX3_readMode_7 (by decide) ?_
  refine k_SN_i (st := []) h hX (tX7_isBetween (xl X) G F ω hI v1 0 2) rfl miX7_isBetween tw_648 (by decide) (by decide) rfl (Nat.le_of_ble_eq_true rfl) (by rw [hX]; exact Nat.zero_le _) (by rw [hX]; exact Nat.zero_le _) dX3_readMode_8 (fun v2 hv2 => ?_)
  refine g_if_ne (tgt := 16) h dX3_readMode_11 (by decide) (fun c3 => ?_) (fun c3 => ?_)
  · refine g_aload_n h 1 dX3_readMode_16 rfl ?_
    refine g_dup h dX3_readMode_17 rfl ?_
    refine q_3_next h rfl tw_214 dX3_readMode_18 (fun v4 hv4 => ?_)
    refine g_iconst (v := 1) h dX3_readMode_21 (by decide) ?_
    refine g_iadd h dX3_readMode_22 (g_name fun v5 hv5 => ?_)
    refine p_3_next h hI rfl tw_214 dX3_readMode_23 (fun w6 hw6 iw6 => ?_)
    refine g_aload_n h 1 dX3_readMode_26 rfl ?_
    refine g_iload_n h 0 dX3_readMode_27 rfl ?_
    refine k_V_j (st := []) h hX (tX3_keep (xl X) G F w6 iw6 v1) rfl ⟨kd_lt rfl, ob_19 rfl⟩ rfl miX3_keep tw_649 (by decide) (by decide) rfl (Nat.le_of_ble_eq_true rfl) (by rw [hX]; exact Nat.zero_le _) (by rw [hX]; exact Nat.zero_le _) dX3_readMode_28 (fun v7 w8 hv7 hw8 iw8 => ?_)
    exact e_zret h iw8 dX3_readMode_31 (nz (rm_01 _)) (by clear iw6 iw8; replace hv1 := hv1.symm; replace hv2 := hv2.symm; replace hv4 := hv4.symm; replace hv5 := hv5.symm; replace hw6 := hw6.symm; replace hv7 := hv7.symm; replace hw8 := hw8.symm; subst hw8 hv7 hw6 hv5 hv4 hv2 hv1; unfold f_rm f_nx; simp only [c3, ↓reduceIte]) (by clear iw6 iw8; replace hv1 := hv1.symm; replace hv2 := hv2.symm; replace hv4 := hv4.symm; replace hv5 := hv5.symm; replace hw6 := hw6.symm; replace hv7 := hv7.symm; replace hw8 := hw8.symm; subst hw8 hv7 hw6 hv5 hv4 hv2 hv1; unfold f_rm f_nx; simp only [c3, ↓reduceIte])
  · refine g_iconst (v := 0) h dX3_readMode_14 (by decide) ?_
    exact e_zret h hI dX3_readMode_15 (nz (rm_01 _)) (by replace hv1 := hv1.symm; replace hv2 := hv2.symm; subst hv2 hv1; unfold f_rm; simp only [c3, ↓reduceIte]) (by replace hv1 := hv1.symm; replace hv2 := hv2.symm; subst hv2 hv1; unfold f_rm; simp only [c3, ↓reduceIte])
set_option maxHeartbeats 4000000 in
set_option maxRecDepth 100000 in
theorem tX3_readValues (l0 : Launch) (G : fG) (F : Nat) (ω : fOm) (hI : Inv ω) : CT l0 G F yX3_readValues cX3_readValues 2 (some .boolean) 3 [.ref (F + 529)] ω (some (.int ((f_rv ω).1))) ((f_rv ω).2) := by
  refine ct_met (own := RX3) (by decide +kernel) rfl (Nat.le_of_ble_eq_true rfl) (fun X hXl hX h => ?_)
  subst hXl
  refine g_iconst (v := 0) h dX3_readValues_0 (by decide) ?_
  refine g_istore_n (loc2 := [(1, .int 0), (0, .ref (F + 529))]) h dX3_readValues_1 (by decide) rfl ?_
  have e2 : 0 = nI 0 := by skip; first | rfl | exact nI_0.symm | exact nI_0 | decide
  have e3 : ω = f_rvI ω 0 := rfl
  refine g_lt (ω2 := f_rvI ω 0) (loc2 := [(1, .int (nI 0)), (0, .ref (F + 529))]) e3 (lc_i e2 rfl) rfl ?_
  refine g_loop3 (hd := 2) (80) (fun j1 => Inv (f_rvI ω j1) ∧ f_rv ω = f_rvF (80 - j1) (f_rvI ω j1)) (fun j1 => [(1, .int (nI j1)), (0, .ref (F + 529))]) (fun j1 => cel F G (f_rvI ω j1)) ⟨(e3 ▸ hI), rv_0⟩ (fun j1 hj6 hP4 ih5 => ?_)
  (try dsimp only)
  obtain ⟨iv7, hP1⟩ := hP4
  refine g_iload_n h 0 dX3_readValues_2 rfl ?_
  refine g_bipush (v := 80) h dX3_readValues_3 (by decide) ?_
  refine g_icmp_ge (tgt := 34) h dX3_readValues_5 (by decide) (fun c8 => ?_) (fun c8 => ?_)
  · have hN9 : j1 = 80 := lpc_ge (x := 80) (M := 80) rfl (by decide) c8 hj6
    refine g_iconst (v := 0) h dX3_readValues_34 (by decide) ?_
    exact e_zret h iv7 dX3_readValues_35 (nz (rv_01 _)) (by clear ih5; skip; exact (rv_a hP1 hN9).1) (by clear ih5; skip; exact (rv_a hP1 hN9).2)
  · have hlt10 : j1 < 80 := lpc_lt (x := 80) (M := 80) rfl (by decide) c8 hj6
    refine g_aload_n h 1 dX3_readValues_8 rfl ?_
    refine k_V_j (st := []) h hX (tX3_readNumber (xl X) G F (f_rvI ω j1) iv7) rfl ⟨kd_lt rfl, ob_19 rfl⟩ rfl miX3_readNumber tw_640 (by decide) (by decide) rfl (Nat.le_of_ble_eq_true rfl) (by rw [hX]; exact Nat.zero_le _) (by rw [hX]; exact Nat.zero_le _) dX3_readValues_9 (fun v11 w12 hv11 hw12 iw12 => ?_)
    refine g_if_ne (tgt := 17) h dX3_readValues_12 (by decide) (fun c13 => ?_) (fun c13 => ?_)
    · refine g_aload_n h 1 dX3_readValues_17 rfl ?_
      refine g_bipush (v := 44) h dX3_readValues_18 (by decide) ?_
      refine k_V_j (st := []) h hX (tX3_take (xl X) G F w12 iw12 44) rfl ⟨kd_lt rfl, ob_19 rfl⟩ rfl miX3_take tw_636 (by decide) (by decide) rfl (Nat.le_of_ble_eq_true rfl) (by rw [hX]; exact Nat.zero_le _) (by rw [hX]; exact Nat.zero_le _) dX3_readValues_20 (fun v14 w15 hv14 hw15 iw15 => ?_)
      refine g_if_ne (tgt := 28) h dX3_readValues_23 (by decide) (fun c16 => ?_) (fun c16 => ?_)
      · obtain ⟨v17, hv17⟩ : ∃ z : Int32, z = (nI j1) + 1 := ⟨_, rfl⟩
        refine g_iinc (v := v17) (loc2 := [(1, .int v17), (0, .ref (F + 529))]) h 0 dX3_readValues_28 rfl (by rw [hv17]; rfl) (by decide) rfl ?_
        refine g_goto (tgt := 2) h dX3_readValues_31 (by decide) ?_
        have e18 : v17 = nI (j1 + 1) := by clear ih5 iw12 iw15; replace hv11 := hv11.symm; replace hw12 := hw12.symm; replace hv14 := hv14.symm; replace hw15 := hw15.symm; replace hv17 := hv17.symm; subst hv17 hw15 hv14 hw12 hv11; first | rfl | exact nI_1 _ | (rw [nI_succ])
        have e19 : w15 = f_rvI ω (j1 + 1) := by clear ih5 iw12 iw15; replace hv11 := hv11.symm; replace hw12 := hw12.symm; replace hv14 := hv14.symm; replace hw15 := hw15.symm; replace hv17 := hv17.symm; subst hv17 hw15 hv14 hw12 hv11; rfl
        exact g_lt e19 (lc_i e18 rfl) rfl (ih5 hlt10 ⟨(e19 ▸ iw15), (by clear ih5 iw12 iw15; replace hv11 := hv11.symm; replace hw12 := hw12.symm; replace hv14 := hv14.symm; replace hw15 := hw15.symm; replace hv17 := hv17.symm; subst hv17 hw15 hv14 hw12 hv11; exact rv_d hP1 hlt10 c13 c16)⟩)
      · refine g_iconst (v := 1) h dX3_readValues_26 (by decide) ?_
        exact e_zret h iw15 dX3_readValues_27 (nz (rv_01 _)) (by clear ih5 iw12 iw15; replace hv11 := hv11.symm; replace hw12 := hw12.symm; replace hv14 := hv14.symm; replace hw15 := hw15.symm; subst hw15 hv14 hw12 hv11; exact (rv_c hP1 hlt10 c13 c16).1) (by clear ih5 iw12 iw15; replace hv11 := hv11.symm; replace hw12 := hw12.symm; replace hv14 := hv14.symm; replace hw15 := hw15.symm; subst hw15 hv14 hw12 hv11; exact (rv_c hP1 hlt10 c13 c16).2)
    · refine g_iconst (v := 0) h dX3_readValues_15 (by decide) ?_
      exact e_zret h iw12 dX3_readValues_16 (nz (rv_01 _)) (by clear ih5 iw12; replace hv11 := hv11.symm; replace hw12 := hw12.symm; subst hw12 hv11; exact (rv_b hP1 hlt10 c13).1) (by clear ih5 iw12; replace hv11 := hv11.symm; replace hw12 := hw12.symm; subst hw12 hv11; exact (rv_b hP1 hlt10 c13).2)
set_option maxHeartbeats 4000000 in
set_option maxRecDepth 100000 in
theorem tX3_readOrder (l0 : Launch) (G : fG) (F : Nat) (ω : fOm) (hI : Inv ω) : CT l0 G F yX3_readOrder cX3_readOrder 1 (some .boolean) 4 [.ref (F + 529)] ω (some (.int ((f_ro ω).1))) ((f_ro ω).2) := by
  refine ct_met (own := RX3) (by decide +kernel) rfl (Nat.le_of_ble_eq_true rfl) (fun X hXl hX h => ?_)
  subst hXl
  refine g_aload_n h 0 dX3_readOrder_0 rfl ?_
  refine g_aload_n h 0 dX3_readOrder_1 rfl ?_
  refine q_3_pad h rfl tw_213 dX3_readOrder_2 ?_
  refine g_aload_n h 0 dX3_readOrder_5 rfl ?_
  refine q_3_next h rfl tw_214 dX3_readOrder_6 (fun v1 hv1 => ?_)
  refine k_VN_i (st := [.ref (F + 529)]) h hX (tX4_signAt (xl X) G F ω hI v1) rfl ⟨kd_lt rfl, ob_17 rfl⟩ rfl miX4_signAt tw_632 (by decide) (by decide) rfl (Nat.le_of_ble_eq_true rfl) (by rw [hX]; exact Nat.zero_le _) (by rw [hX]; exact Nat.zero_le _) dX3_readOrder_9 (fun v2 hv2 => ?_)
  refine p_3_letter h hI rfl (by replace hv1 := hv1.symm; replace hv2 := hv2.symm; subst hv2 hv1; exact (ch_of (signAt_rg hI)).1) (by replace hv1 := hv1.symm; replace hv2 := hv2.symm; subst hv2 hv1; exact (ch_of (signAt_rg hI)).2) tw_215 dX3_readOrder_12 (fun w3 hw3 iw3 => ?_)
  refine g_aload_n h 0 dX3_readOrder_15 rfl ?_
  refine g_iconst (v := 0) h dX3_readOrder_16 (by decide) ?_
  refine p_3_numberCount h iw3 rfl (okv_19_4 (by decide) (by decide)) tw_218 dX3_readOrder_17 (fun w4 hw4 iw4 => ?_)
  refine g_aload_n h 0 dX3_readOrder_20 rfl ?_
  refine g_bipush (v := 102) h dX3_readOrder_21 (by decide) ?_
  refine k_V_j (st := []) h hX (tX3_take (xl X) G F w4 iw4 102) rfl ⟨kd_lt rfl, ob_19 rfl⟩ rfl miX3_take tw_636 (by decide) (by decide) rfl (Nat.le_of_ble_eq_true rfl) (by rw [hX]; exact Nat.zero_le _) (by rw [hX]; exact Nat.zero_le _) dX3_readOrder_23 (fun v5 w6 hv5 hw6 iw6 => ?_)
  refine g_if_eq (tgt := 58) h dX3_readOrder_26 (by decide) (fun c7 => ?_) (fun c7 => ?_)
  · refine g_aload_n h 0 dX3_readOrder_58 rfl ?_
    refine g_bipush (v := 106) h dX3_readOrder_59 (by decide) ?_
    refine k_V_j (st := []) h hX (tX3_take (xl X) G F w6 iw6 106) rfl ⟨kd_lt rfl, ob_19 rfl⟩ rfl miX3_take tw_636 (by decide) (by decide) rfl (Nat.le_of_ble_eq_true rfl) (by rw [hX]; exact Nat.zero_le _) (by rw [hX]; exact Nat.zero_le _) dX3_readOrder_61 (fun v8 w9 hv8 hw9 iw9 => ?_)
    refine g_if_eq (tgt := 96) h dX3_readOrder_64 (by decide) (fun c10 => ?_) (fun c10 => ?_)
    · refine g_aload_n h 0 dX3_readOrder_96 rfl ?_
      refine g_bipush (v := 108) h dX3_readOrder_97 (by decide) ?_
      refine k_V_j (st := []) h hX (tX3_take (xl X) G F w9 iw9 108) rfl ⟨kd_lt rfl, ob_19 rfl⟩ rfl miX3_take tw_636 (by decide) (by decide) rfl (Nat.le_of_ble_eq_true rfl) (by rw [hX]; exact Nat.zero_le _) (by rw [hX]; exact Nat.zero_le _) dX3_readOrder_99 (fun v11 w12 hv11 hw12 iw12 => ?_)
      refine g_if_eq (tgt := 150) h dX3_readOrder_102 (by decide) (fun c13 => ?_) (fun c13 => ?_)
      · refine g_aload_n h 0 dX3_readOrder_150 rfl ?_
        refine g_bipush (v := 116) h dX3_readOrder_151 (by decide) ?_
        refine k_V_j (st := []) h hX (tX3_take (xl X) G F w12 iw12 116) rfl ⟨kd_lt rfl, ob_19 rfl⟩ rfl miX3_take tw_636 (by decide) (by decide) rfl (Nat.le_of_ble_eq_true rfl) (by rw [hX]; exact Nat.zero_le _) (by rw [hX]; exact Nat.zero_le _) dX3_readOrder_153 (fun v14 w15 hv14 hw15 iw15 => ?_)
        refine g_if_eq (tgt := 170) h dX3_readOrder_156 (by decide) (fun c16 => ?_) (fun c16 => ?_)
        · refine g_iconst (v := 0) h dX3_readOrder_170 (by decide) ?_
          exact e_zret h iw15 dX3_readOrder_171 (nz (ro_01 _)) (by clear iw3 iw4 iw6 iw9 iw12 iw15; replace hv1 := hv1.symm; replace hv2 := hv2.symm; replace hw3 := hw3.symm; replace hw4 := hw4.symm; replace hv5 := hv5.symm; replace hw6 := hw6.symm; replace hv8 := hv8.symm; replace hw9 := hw9.symm; replace hv11 := hv11.symm; replace hw12 := hw12.symm; replace hv14 := hv14.symm; replace hw15 := hw15.symm; subst hw15 hv14 hw12 hv11 hw9 hv8 hw6 hv5 hw4 hw3 hv2 hv1; exact (pr_eq (p := f_ro ω) (by rw [ro_e, bo_n c7, bo_n c10, bo_n c13, roT_e, bn_n c16])).1) (by clear iw3 iw4 iw6 iw9 iw12 iw15; replace hv1 := hv1.symm; replace hv2 := hv2.symm; replace hw3 := hw3.symm; replace hw4 := hw4.symm; replace hv5 := hv5.symm; replace hw6 := hw6.symm; replace hv8 := hv8.symm; replace hw9 := hw9.symm; replace hv11 := hv11.symm; replace hw12 := hw12.symm; replace hv14 := hv14.symm; replace hw15 := hw15.symm; subst hw15 hv14 hw12 hv11 hw9 hv8 hw6 hv5 hw4 hw3 hv2 hv1; exact (pr_eq (p := f_ro ω) (by rw [ro_e, bo_n c7, bo_n c10, bo_n c13, roT_e, bn_n c16])).2)
        · refine g_aload_n h 0 dX3_readOrder_159 rfl ?_
          refine k_V_j (st := []) h hX (tX3_readNumber (xl X) G F w15 iw15) rfl ⟨kd_lt rfl, ob_19 rfl⟩ rfl miX3_readNumber tw_640 (by decide) (by decide) rfl (Nat.le_of_ble_eq_true rfl) (by rw [hX]; exact Nat.zero_le _) (by rw [hX]; exact Nat.zero_le _) dX3_readOrder_160 (fun v17 w18 hv17 hw18 iw18 => ?_)
          refine g_if_eq (tgt := 170) h dX3_readOrder_163 (by decide) (fun c19 => ?_) (fun c19 => ?_)
          · refine g_iconst (v := 0) h dX3_readOrder_170 (by decide) ?_
            exact e_zret h iw18 dX3_readOrder_171 (nz (ro_01 _)) (by clear iw3 iw4 iw6 iw9 iw12 iw15 iw18; replace hv1 := hv1.symm; replace hv2 := hv2.symm; replace hw3 := hw3.symm; replace hw4 := hw4.symm; replace hv5 := hv5.symm; replace hw6 := hw6.symm; replace hv8 := hv8.symm; replace hw9 := hw9.symm; replace hv11 := hv11.symm; replace hw12 := hw12.symm; replace hv14 := hv14.symm; replace hw15 := hw15.symm; replace hv17 := hv17.symm; replace hw18 := hw18.symm; subst hw18 hv17 hw15 hv14 hw12 hv11 hw9 hv8 hw6 hv5 hw4 hw3 hv2 hv1; exact (pr_eq (p := f_ro ω) (by rw [ro_e, bo_n c7, bo_n c10, bo_n c13, roT_e, bn_p c16, bn_n c19])).1) (by clear iw3 iw4 iw6 iw9 iw12 iw15 iw18; replace hv1 := hv1.symm; replace hv2 := hv2.symm; replace hw3 := hw3.symm; replace hw4 := hw4.symm; replace hv5 := hv5.symm; replace hw6 := hw6.symm; replace hv8 := hv8.symm; replace hw9 := hw9.symm; replace hv11 := hv11.symm; replace hw12 := hw12.symm; replace hv14 := hv14.symm; replace hw15 := hw15.symm; replace hv17 := hv17.symm; replace hw18 := hw18.symm; subst hw18 hv17 hw15 hv14 hw12 hv11 hw9 hv8 hw6 hv5 hw4 hw3 hv2 hv1; exact (pr_eq (p := f_ro ω) (by rw [ro_e, bo_n c7, bo_n c10, bo_n c13, roT_e, bn_p c16, bn_n c19])).2)
          · refine g_iconst (v := 1) h dX3_readOrder_166 (by decide) ?_
            refine g_goto (tgt := 171) h dX3_readOrder_167 (by decide) ?_
            exact e_zret h iw18 dX3_readOrder_171 (nz (ro_01 _)) (by clear iw3 iw4 iw6 iw9 iw12 iw15 iw18; replace hv1 := hv1.symm; replace hv2 := hv2.symm; replace hw3 := hw3.symm; replace hw4 := hw4.symm; replace hv5 := hv5.symm; replace hw6 := hw6.symm; replace hv8 := hv8.symm; replace hw9 := hw9.symm; replace hv11 := hv11.symm; replace hw12 := hw12.symm; replace hv14 := hv14.symm; replace hw15 := hw15.symm; replace hv17 := hv17.symm; replace hw18 := hw18.symm; subst hw18 hv17 hw15 hv14 hw12 hv11 hw9 hv8 hw6 hv5 hw4 hw3 hv2 hv1; exact (pr_eq (p := f_ro ω) (by rw [ro_e, bo_n c7, bo_n c10, bo_n c13, roT_e, bn_p c16, bn_p c19])).1) (by clear iw3 iw4 iw6 iw9 iw12 iw15 iw18; replace hv1 := hv1.symm; replace hv2 := hv2.symm; replace hw3 := hw3.symm; replace hw4 := hw4.symm; replace hv5 := hv5.symm; replace hw6 := hw6.symm; replace hv8 := hv8.symm; replace hw9 := hw9.symm; replace hv11 := hv11.symm; replace hw12 := hw12.symm; replace hv14 := hv14.symm; replace hw15 := hw15.symm; replace hv17 := hv17.symm; replace hw18 := hw18.symm; subst hw18 hv17 hw15 hv14 hw12 hv11 hw9 hv8 hw6 hv5 hw4 hw3 hv2 hv1; exact (pr_eq (p := f_ro ω) (by rw [ro_e, bo_n c7, bo_n c10, bo_n c13, roT_e, bn_p c16, bn_p c19])).2)
      · refine g_aload_n h 0 dX3_readOrder_105 rfl ?_
        refine k_V_j (st := []) h hX (tX3_readNumber (xl X) G F w12 iw12) rfl ⟨kd_lt rfl, ob_19 rfl⟩ rfl miX3_readNumber tw_640 (by decide) (by decide) rfl (Nat.le_of_ble_eq_true rfl) (by rw [hX]; exact Nat.zero_le _) (by rw [hX]; exact Nat.zero_le _) dX3_readOrder_106 (fun v20 w21 hv20 hw21 iw21 => ?_)
        refine g_if_eq (tgt := 148) h dX3_readOrder_109 (by decide) (fun c22 => ?_) (fun c22 => ?_)
        · refine g_iconst (v := 0) h dX3_readOrder_148 (by decide) ?_
          exact e_zret h iw21 dX3_readOrder_149 (nz (ro_01 _)) (by clear iw3 iw4 iw6 iw9 iw12 iw21; replace hv1 := hv1.symm; replace hv2 := hv2.symm; replace hw3 := hw3.symm; replace hw4 := hw4.symm; replace hv5 := hv5.symm; replace hw6 := hw6.symm; replace hv8 := hv8.symm; replace hw9 := hw9.symm; replace hv11 := hv11.symm; replace hw12 := hw12.symm; replace hv20 := hv20.symm; replace hw21 := hw21.symm; subst hw21 hv20 hw12 hv11 hw9 hv8 hw6 hv5 hw4 hw3 hv2 hv1; exact (pr_eq (p := f_ro ω) (by rw [ro_e, bo_n c7, bo_n c10, bo_p c13, roL_e, bn_n c22])).1) (by clear iw3 iw4 iw6 iw9 iw12 iw21; replace hv1 := hv1.symm; replace hv2 := hv2.symm; replace hw3 := hw3.symm; replace hw4 := hw4.symm; replace hv5 := hv5.symm; replace hw6 := hw6.symm; replace hv8 := hv8.symm; replace hw9 := hw9.symm; replace hv11 := hv11.symm; replace hw12 := hw12.symm; replace hv20 := hv20.symm; replace hw21 := hw21.symm; subst hw21 hv20 hw12 hv11 hw9 hv8 hw6 hv5 hw4 hw3 hv2 hv1; exact (pr_eq (p := f_ro ω) (by rw [ro_e, bo_n c7, bo_n c10, bo_p c13, roL_e, bn_n c22])).2)
        · refine g_aload_n h 0 dX3_readOrder_112 rfl ?_
          refine g_bipush (v := 58) h dX3_readOrder_113 (by decide) ?_
          refine k_V_j (st := []) h hX (tX3_take (xl X) G F w21 iw21 58) rfl ⟨kd_lt rfl, ob_19 rfl⟩ rfl miX3_take tw_636 (by decide) (by decide) rfl (Nat.le_of_ble_eq_true rfl) (by rw [hX]; exact Nat.zero_le _) (by rw [hX]; exact Nat.zero_le _) dX3_readOrder_115 (fun v23 w24 hv23 hw24 iw24 => ?_)
          refine g_if_eq (tgt := 148) h dX3_readOrder_118 (by decide) (fun c25 => ?_) (fun c25 => ?_)
          · refine g_iconst (v := 0) h dX3_readOrder_148 (by decide) ?_
            exact e_zret h iw24 dX3_readOrder_149 (nz (ro_01 _)) (by clear iw3 iw4 iw6 iw9 iw12 iw21 iw24; replace hv1 := hv1.symm; replace hv2 := hv2.symm; replace hw3 := hw3.symm; replace hw4 := hw4.symm; replace hv5 := hv5.symm; replace hw6 := hw6.symm; replace hv8 := hv8.symm; replace hw9 := hw9.symm; replace hv11 := hv11.symm; replace hw12 := hw12.symm; replace hv20 := hv20.symm; replace hw21 := hw21.symm; replace hv23 := hv23.symm; replace hw24 := hw24.symm; subst hw24 hv23 hw21 hv20 hw12 hv11 hw9 hv8 hw6 hv5 hw4 hw3 hv2 hv1; exact (pr_eq (p := f_ro ω) (by rw [ro_e, bo_n c7, bo_n c10, bo_p c13, roL_e, bn_p c22, bn_n c25])).1) (by clear iw3 iw4 iw6 iw9 iw12 iw21 iw24; replace hv1 := hv1.symm; replace hv2 := hv2.symm; replace hw3 := hw3.symm; replace hw4 := hw4.symm; replace hv5 := hv5.symm; replace hw6 := hw6.symm; replace hv8 := hv8.symm; replace hw9 := hw9.symm; replace hv11 := hv11.symm; replace hw12 := hw12.symm; replace hv20 := hv20.symm; replace hw21 := hw21.symm; replace hv23 := hv23.symm; replace hw24 := hw24.symm; subst hw24 hv23 hw21 hv20 hw12 hv11 hw9 hv8 hw6 hv5 hw4 hw3 hv2 hv1; exact (pr_eq (p := f_ro ω) (by rw [ro_e, bo_n c7, bo_n c10, bo_p c13, roL_e, bn_p c22, bn_n c25])).2)
          · refine g_aload_n h 0 dX3_readOrder_121 rfl ?_
            refine k_V_j (st := []) h hX (tX3_readNumber (xl X) G F w24 iw24) rfl ⟨kd_lt rfl, ob_19 rfl⟩ rfl miX3_readNumber tw_640 (by decide) (by decide) rfl (Nat.le_of_ble_eq_true rfl) (by rw [hX]; exact Nat.zero_le _) (by rw [hX]; exact Nat.zero_le _) dX3_readOrder_122 (fun v26 w27 hv26 hw27 iw27 => ?_)
            refine g_if_eq (tgt := 148) h dX3_readOrder_125 (by decide) (fun c28 => ?_) (fun c28 => ?_)
            · refine g_iconst (v := 0) h dX3_readOrder_148 (by decide) ?_
              exact e_zret h iw27 dX3_readOrder_149 (nz (ro_01 _)) (by clear iw3 iw4 iw6 iw9 iw12 iw21 iw24 iw27; replace hv1 := hv1.symm; replace hv2 := hv2.symm; replace hw3 := hw3.symm; replace hw4 := hw4.symm; replace hv5 := hv5.symm; replace hw6 := hw6.symm; replace hv8 := hv8.symm; replace hw9 := hw9.symm; replace hv11 := hv11.symm; replace hw12 := hw12.symm; replace hv20 := hv20.symm; replace hw21 := hw21.symm; replace hv23 := hv23.symm; replace hw24 := hw24.symm; replace hv26 := hv26.symm; replace hw27 := hw27.symm; subst hw27 hv26 hw24 hv23 hw21 hv20 hw12 hv11 hw9 hv8 hw6 hv5 hw4 hw3 hv2 hv1; exact (pr_eq (p := f_ro ω) (by rw [ro_e, bo_n c7, bo_n c10, bo_p c13, roL_e, bn_p c22, bn_p c25, bn_n c28])).1) (by clear iw3 iw4 iw6 iw9 iw12 iw21 iw24 iw27; replace hv1 := hv1.symm; replace hv2 := hv2.symm; replace hw3 := hw3.symm; replace hw4 := hw4.symm; replace hv5 := hv5.symm; replace hw6 := hw6.symm; replace hv8 := hv8.symm; replace hw9 := hw9.symm; replace hv11 := hv11.symm; replace hw12 := hw12.symm; replace hv20 := hv20.symm; replace hw21 := hw21.symm; replace hv23 := hv23.symm; replace hw24 := hw24.symm; replace hv26 := hv26.symm; replace hw27 := hw27.symm; subst hw27 hv26 hw24 hv23 hw21 hv20 hw12 hv11 hw9 hv8 hw6 hv5 hw4 hw3 hv2 hv1; exact (pr_eq (p := f_ro ω) (by rw [ro_e, bo_n c7, bo_n c10, bo_p c13, roL_e, bn_p c22, bn_p c25, bn_n c28])).2)
            · refine g_aload_n h 0 dX3_readOrder_128 rfl ?_
              refine g_bipush (v := 61) h dX3_readOrder_129 (by decide) ?_
              refine k_V_j (st := []) h hX (tX3_take (xl X) G F w27 iw27 61) rfl ⟨kd_lt rfl, ob_19 rfl⟩ rfl miX3_take tw_636 (by decide) (by decide) rfl (Nat.le_of_ble_eq_true rfl) (by rw [hX]; exact Nat.zero_le _) (by rw [hX]; exact Nat.zero_le _) dX3_readOrder_131 (fun v29 w30 hv29 hw30 iw30 => ?_)
              refine g_if_eq (tgt := 148) h dX3_readOrder_134 (by decide) (fun c31 => ?_) (fun c31 => ?_)
              · refine g_iconst (v := 0) h dX3_readOrder_148 (by decide) ?_
                exact e_zret h iw30 dX3_readOrder_149 (nz (ro_01 _)) (by clear iw3 iw4 iw6 iw9 iw12 iw21 iw24 iw27 iw30; replace hv1 := hv1.symm; replace hv2 := hv2.symm; replace hw3 := hw3.symm; replace hw4 := hw4.symm; replace hv5 := hv5.symm; replace hw6 := hw6.symm; replace hv8 := hv8.symm; replace hw9 := hw9.symm; replace hv11 := hv11.symm; replace hw12 := hw12.symm; replace hv20 := hv20.symm; replace hw21 := hw21.symm; replace hv23 := hv23.symm; replace hw24 := hw24.symm; replace hv26 := hv26.symm; replace hw27 := hw27.symm; replace hv29 := hv29.symm; replace hw30 := hw30.symm; subst hw30 hv29 hw27 hv26 hw24 hv23 hw21 hv20 hw12 hv11 hw9 hv8 hw6 hv5 hw4 hw3 hv2 hv1; exact (pr_eq (p := f_ro ω) (by rw [ro_e, bo_n c7, bo_n c10, bo_p c13, roL_e, bn_p c22, bn_p c25, bn_p c28, bn_n c31])).1) (by clear iw3 iw4 iw6 iw9 iw12 iw21 iw24 iw27 iw30; replace hv1 := hv1.symm; replace hv2 := hv2.symm; replace hw3 := hw3.symm; replace hw4 := hw4.symm; replace hv5 := hv5.symm; replace hw6 := hw6.symm; replace hv8 := hv8.symm; replace hw9 := hw9.symm; replace hv11 := hv11.symm; replace hw12 := hw12.symm; replace hv20 := hv20.symm; replace hw21 := hw21.symm; replace hv23 := hv23.symm; replace hw24 := hw24.symm; replace hv26 := hv26.symm; replace hw27 := hw27.symm; replace hv29 := hv29.symm; replace hw30 := hw30.symm; subst hw30 hv29 hw27 hv26 hw24 hv23 hw21 hv20 hw12 hv11 hw9 hv8 hw6 hv5 hw4 hw3 hv2 hv1; exact (pr_eq (p := f_ro ω) (by rw [ro_e, bo_n c7, bo_n c10, bo_p c13, roL_e, bn_p c22, bn_p c25, bn_p c28, bn_n c31])).2)
              · refine g_aload_n h 0 dX3_readOrder_137 rfl ?_
                refine k_V_j (st := []) h hX (tX3_readNumber (xl X) G F w30 iw30) rfl ⟨kd_lt rfl, ob_19 rfl⟩ rfl miX3_readNumber tw_640 (by decide) (by decide) rfl (Nat.le_of_ble_eq_true rfl) (by rw [hX]; exact Nat.zero_le _) (by rw [hX]; exact Nat.zero_le _) dX3_readOrder_138 (fun v32 w33 hv32 hw33 iw33 => ?_)
                refine g_if_eq (tgt := 148) h dX3_readOrder_141 (by decide) (fun c34 => ?_) (fun c34 => ?_)
                · refine g_iconst (v := 0) h dX3_readOrder_148 (by decide) ?_
                  exact e_zret h iw33 dX3_readOrder_149 (nz (ro_01 _)) (by clear iw3 iw4 iw6 iw9 iw12 iw21 iw24 iw27 iw30 iw33; replace hv1 := hv1.symm; replace hv2 := hv2.symm; replace hw3 := hw3.symm; replace hw4 := hw4.symm; replace hv5 := hv5.symm; replace hw6 := hw6.symm; replace hv8 := hv8.symm; replace hw9 := hw9.symm; replace hv11 := hv11.symm; replace hw12 := hw12.symm; replace hv20 := hv20.symm; replace hw21 := hw21.symm; replace hv23 := hv23.symm; replace hw24 := hw24.symm; replace hv26 := hv26.symm; replace hw27 := hw27.symm; replace hv29 := hv29.symm; replace hw30 := hw30.symm; replace hv32 := hv32.symm; replace hw33 := hw33.symm; subst hw33 hv32 hw30 hv29 hw27 hv26 hw24 hv23 hw21 hv20 hw12 hv11 hw9 hv8 hw6 hv5 hw4 hw3 hv2 hv1; exact (pr_eq (p := f_ro ω) (by rw [ro_e, bo_n c7, bo_n c10, bo_p c13, roL_e, bn_p c22, bn_p c25, bn_p c28, bn_p c31, bn_n c34])).1) (by clear iw3 iw4 iw6 iw9 iw12 iw21 iw24 iw27 iw30 iw33; replace hv1 := hv1.symm; replace hv2 := hv2.symm; replace hw3 := hw3.symm; replace hw4 := hw4.symm; replace hv5 := hv5.symm; replace hw6 := hw6.symm; replace hv8 := hv8.symm; replace hw9 := hw9.symm; replace hv11 := hv11.symm; replace hw12 := hw12.symm; replace hv20 := hv20.symm; replace hw21 := hw21.symm; replace hv23 := hv23.symm; replace hw24 := hw24.symm; replace hv26 := hv26.symm; replace hw27 := hw27.symm; replace hv29 := hv29.symm; replace hw30 := hw30.symm; replace hv32 := hv32.symm; replace hw33 := hw33.symm; subst hw33 hv32 hw30 hv29 hw27 hv26 hw24 hv23 hw21 hv20 hw12 hv11 hw9 hv8 hw6 hv5 hw4 hw3 hv2 hv1; exact (pr_eq (p := f_ro ω) (by rw [ro_e, bo_n c7, bo_n c10, bo_p c13, roL_e, bn_p c22, bn_p c25, bn_p c28, bn_p c31, bn_n c34])).2)
                · refine g_iconst (v := 1) h dX3_readOrder_144 (by decide) ?_
                  refine g_goto (tgt := 149) h dX3_readOrder_145 (by decide) ?_
                  exact e_zret h iw33 dX3_readOrder_149 (nz (ro_01 _)) (by clear iw3 iw4 iw6 iw9 iw12 iw21 iw24 iw27 iw30 iw33; replace hv1 := hv1.symm; replace hv2 := hv2.symm; replace hw3 := hw3.symm; replace hw4 := hw4.symm; replace hv5 := hv5.symm; replace hw6 := hw6.symm; replace hv8 := hv8.symm; replace hw9 := hw9.symm; replace hv11 := hv11.symm; replace hw12 := hw12.symm; replace hv20 := hv20.symm; replace hw21 := hw21.symm; replace hv23 := hv23.symm; replace hw24 := hw24.symm; replace hv26 := hv26.symm; replace hw27 := hw27.symm; replace hv29 := hv29.symm; replace hw30 := hw30.symm; replace hv32 := hv32.symm; replace hw33 := hw33.symm; subst hw33 hv32 hw30 hv29 hw27 hv26 hw24 hv23 hw21 hv20 hw12 hv11 hw9 hv8 hw6 hv5 hw4 hw3 hv2 hv1; exact (pr_eq (p := f_ro ω) (by rw [ro_e, bo_n c7, bo_n c10, bo_p c13, roL_e, bn_p c22, bn_p c25, bn_p c28, bn_p c31, bn_p c34])).1) (by clear iw3 iw4 iw6 iw9 iw12 iw21 iw24 iw27 iw30 iw33; replace hv1 := hv1.symm; replace hv2 := hv2.symm; replace hw3 := hw3.symm; replace hw4 := hw4.symm; replace hv5 := hv5.symm; replace hw6 := hw6.symm; replace hv8 := hv8.symm; replace hw9 := hw9.symm; replace hv11 := hv11.symm; replace hw12 := hw12.symm; replace hv20 := hv20.symm; replace hw21 := hw21.symm; replace hv23 := hv23.symm; replace hw24 := hw24.symm; replace hv26 := hv26.symm; replace hw27 := hw27.symm; replace hv29 := hv29.symm; replace hw30 := hw30.symm; replace hv32 := hv32.symm; replace hw33 := hw33.symm; subst hw33 hv32 hw30 hv29 hw27 hv26 hw24 hv23 hw21 hv20 hw12 hv11 hw9 hv8 hw6 hv5 hw4 hw3 hv2 hv1; exact (pr_eq (p := f_ro ω) (by rw [ro_e, bo_n c7, bo_n c10, bo_p c13, roL_e, bn_p c22, bn_p c25, bn_p c28, bn_p c31, bn_p c34])).2)
    · refine g_aload_n h 0 dX3_readOrder_67 rfl ?_
      refine k_V_j (st := []) h hX (tX3_readNumber (xl X) G F w9 iw9) rfl ⟨kd_lt rfl, ob_19 rfl⟩ rfl miX3_readNumber tw_640 (by decide) (by decide) rfl (Nat.le_of_ble_eq_true rfl) (by rw [hX]; exact Nat.zero_le _) (by rw [hX]; exact Nat.zero_le _) dX3_readOrder_68 (fun v35 w36 hv35 hw36 iw36 => ?_)
      refine g_if_eq (tgt := 94) h dX3_readOrder_71 (by decide) (fun c37 => ?_) (fun c37 => ?_)
      · refine g_iconst (v := 0) h dX3_readOrder_94 (by decide) ?_
        exact e_zret h iw36 dX3_readOrder_95 (nz (ro_01 _)) (by clear iw3 iw4 iw6 iw9 iw36; replace hv1 := hv1.symm; replace hv2 := hv2.symm; replace hw3 := hw3.symm; replace hw4 := hw4.symm; replace hv5 := hv5.symm; replace hw6 := hw6.symm; replace hv8 := hv8.symm; replace hw9 := hw9.symm; replace hv35 := hv35.symm; replace hw36 := hw36.symm; subst hw36 hv35 hw9 hv8 hw6 hv5 hw4 hw3 hv2 hv1; exact (pr_eq (p := f_ro ω) (by rw [ro_e, bo_n c7, bo_p c10, roJ_e, bn_n c37])).1) (by clear iw3 iw4 iw6 iw9 iw36; replace hv1 := hv1.symm; replace hv2 := hv2.symm; replace hw3 := hw3.symm; replace hw4 := hw4.symm; replace hv5 := hv5.symm; replace hw6 := hw6.symm; replace hv8 := hv8.symm; replace hw9 := hw9.symm; replace hv35 := hv35.symm; replace hw36 := hw36.symm; subst hw36 hv35 hw9 hv8 hw6 hv5 hw4 hw3 hv2 hv1; exact (pr_eq (p := f_ro ω) (by rw [ro_e, bo_n c7, bo_p c10, roJ_e, bn_n c37])).2)
      · refine g_aload_n h 0 dX3_readOrder_74 rfl ?_
        refine g_bipush (v := 61) h dX3_readOrder_75 (by decide) ?_
        refine k_V_j (st := []) h hX (tX3_take (xl X) G F w36 iw36 61) rfl ⟨kd_lt rfl, ob_19 rfl⟩ rfl miX3_take tw_636 (by decide) (by decide) rfl (Nat.le_of_ble_eq_true rfl) (by rw [hX]; exact Nat.zero_le _) (by rw [hX]; exact Nat.zero_le _) dX3_readOrder_77 (fun v38 w39 hv38 hw39 iw39 => ?_)
        refine g_if_eq (tgt := 94) h dX3_readOrder_80 (by decide) (fun c40 => ?_) (fun c40 => ?_)
        · refine g_iconst (v := 0) h dX3_readOrder_94 (by decide) ?_
          exact e_zret h iw39 dX3_readOrder_95 (nz (ro_01 _)) (by clear iw3 iw4 iw6 iw9 iw36 iw39; replace hv1 := hv1.symm; replace hv2 := hv2.symm; replace hw3 := hw3.symm; replace hw4 := hw4.symm; replace hv5 := hv5.symm; replace hw6 := hw6.symm; replace hv8 := hv8.symm; replace hw9 := hw9.symm; replace hv35 := hv35.symm; replace hw36 := hw36.symm; replace hv38 := hv38.symm; replace hw39 := hw39.symm; subst hw39 hv38 hw36 hv35 hw9 hv8 hw6 hv5 hw4 hw3 hv2 hv1; exact (pr_eq (p := f_ro ω) (by rw [ro_e, bo_n c7, bo_p c10, roJ_e, bn_p c37, bn_n c40])).1) (by clear iw3 iw4 iw6 iw9 iw36 iw39; replace hv1 := hv1.symm; replace hv2 := hv2.symm; replace hw3 := hw3.symm; replace hw4 := hw4.symm; replace hv5 := hv5.symm; replace hw6 := hw6.symm; replace hv8 := hv8.symm; replace hw9 := hw9.symm; replace hv35 := hv35.symm; replace hw36 := hw36.symm; replace hv38 := hv38.symm; replace hw39 := hw39.symm; subst hw39 hv38 hw36 hv35 hw9 hv8 hw6 hv5 hw4 hw3 hv2 hv1; exact (pr_eq (p := f_ro ω) (by rw [ro_e, bo_n c7, bo_p c10, roJ_e, bn_p c37, bn_n c40])).2)
        · refine g_aload_n h 0 dX3_readOrder_83 rfl ?_
          refine k_V_j (st := []) h hX (tX3_readMode (xl X) G F w39 iw39) rfl ⟨kd_lt rfl, ob_19 rfl⟩ rfl miX3_readMode tw_657 (by decide) (by decide) rfl (Nat.le_of_ble_eq_true rfl) (by rw [hX]; exact Nat.zero_le _) (by rw [hX]; exact Nat.zero_le _) dX3_readOrder_84 (fun v41 w42 hv41 hw42 iw42 => ?_)
          refine g_if_eq (tgt := 94) h dX3_readOrder_87 (by decide) (fun c43 => ?_) (fun c43 => ?_)
          · refine g_iconst (v := 0) h dX3_readOrder_94 (by decide) ?_
            exact e_zret h iw42 dX3_readOrder_95 (nz (ro_01 _)) (by clear iw3 iw4 iw6 iw9 iw36 iw39 iw42; replace hv1 := hv1.symm; replace hv2 := hv2.symm; replace hw3 := hw3.symm; replace hw4 := hw4.symm; replace hv5 := hv5.symm; replace hw6 := hw6.symm; replace hv8 := hv8.symm; replace hw9 := hw9.symm; replace hv35 := hv35.symm; replace hw36 := hw36.symm; replace hv38 := hv38.symm; replace hw39 := hw39.symm; replace hv41 := hv41.symm; replace hw42 := hw42.symm; subst hw42 hv41 hw39 hv38 hw36 hv35 hw9 hv8 hw6 hv5 hw4 hw3 hv2 hv1; exact (pr_eq (p := f_ro ω) (by rw [ro_e, bo_n c7, bo_p c10, roJ_e, bn_p c37, bn_p c40, bn_n c43])).1) (by clear iw3 iw4 iw6 iw9 iw36 iw39 iw42; replace hv1 := hv1.symm; replace hv2 := hv2.symm; replace hw3 := hw3.symm; replace hw4 := hw4.symm; replace hv5 := hv5.symm; replace hw6 := hw6.symm; replace hv8 := hv8.symm; replace hw9 := hw9.symm; replace hv35 := hv35.symm; replace hw36 := hw36.symm; replace hv38 := hv38.symm; replace hw39 := hw39.symm; replace hv41 := hv41.symm; replace hw42 := hw42.symm; subst hw42 hv41 hw39 hv38 hw36 hv35 hw9 hv8 hw6 hv5 hw4 hw3 hv2 hv1; exact (pr_eq (p := f_ro ω) (by rw [ro_e, bo_n c7, bo_p c10, roJ_e, bn_p c37, bn_p c40, bn_n c43])).2)
          · refine g_iconst (v := 1) h dX3_readOrder_90 (by decide) ?_
            refine g_goto (tgt := 95) h dX3_readOrder_91 (by decide) ?_
            exact e_zret h iw42 dX3_readOrder_95 (nz (ro_01 _)) (by clear iw3 iw4 iw6 iw9 iw36 iw39 iw42; replace hv1 := hv1.symm; replace hv2 := hv2.symm; replace hw3 := hw3.symm; replace hw4 := hw4.symm; replace hv5 := hv5.symm; replace hw6 := hw6.symm; replace hv8 := hv8.symm; replace hw9 := hw9.symm; replace hv35 := hv35.symm; replace hw36 := hw36.symm; replace hv38 := hv38.symm; replace hw39 := hw39.symm; replace hv41 := hv41.symm; replace hw42 := hw42.symm; subst hw42 hv41 hw39 hv38 hw36 hv35 hw9 hv8 hw6 hv5 hw4 hw3 hv2 hv1; exact (pr_eq (p := f_ro ω) (by rw [ro_e, bo_n c7, bo_p c10, roJ_e, bn_p c37, bn_p c40, bn_p c43])).1) (by clear iw3 iw4 iw6 iw9 iw36 iw39 iw42; replace hv1 := hv1.symm; replace hv2 := hv2.symm; replace hw3 := hw3.symm; replace hw4 := hw4.symm; replace hv5 := hv5.symm; replace hw6 := hw6.symm; replace hv8 := hv8.symm; replace hw9 := hw9.symm; replace hv35 := hv35.symm; replace hw36 := hw36.symm; replace hv38 := hv38.symm; replace hw39 := hw39.symm; replace hv41 := hv41.symm; replace hw42 := hw42.symm; subst hw42 hv41 hw39 hv38 hw36 hv35 hw9 hv8 hw6 hv5 hw4 hw3 hv2 hv1; exact (pr_eq (p := f_ro ω) (by rw [ro_e, bo_n c7, bo_p c10, roJ_e, bn_p c37, bn_p c40, bn_p c43])).2)
  · refine g_aload_n h 0 dX3_readOrder_29 rfl ?_
    refine k_V_j (st := []) h hX (tX3_readNumber (xl X) G F w6 iw6) rfl ⟨kd_lt rfl, ob_19 rfl⟩ rfl miX3_readNumber tw_640 (by decide) (by decide) rfl (Nat.le_of_ble_eq_true rfl) (by rw [hX]; exact Nat.zero_le _) (by rw [hX]; exact Nat.zero_le _) dX3_readOrder_30 (fun v44 w45 hv44 hw45 iw45 => ?_)
    refine g_if_eq (tgt := 56) h dX3_readOrder_33 (by decide) (fun c46 => ?_) (fun c46 => ?_)
    · refine g_iconst (v := 0) h dX3_readOrder_56 (by decide) ?_
      exact e_zret h iw45 dX3_readOrder_57 (nz (ro_01 _)) (by clear iw3 iw4 iw6 iw45; replace hv1 := hv1.symm; replace hv2 := hv2.symm; replace hw3 := hw3.symm; replace hw4 := hw4.symm; replace hv5 := hv5.symm; replace hw6 := hw6.symm; replace hv44 := hv44.symm; replace hw45 := hw45.symm; subst hw45 hv44 hw6 hv5 hw4 hw3 hv2 hv1; exact (pr_eq (p := f_ro ω) (by rw [ro_e, bo_p c7, roF_e, bn_n c46])).1) (by clear iw3 iw4 iw6 iw45; replace hv1 := hv1.symm; replace hv2 := hv2.symm; replace hw3 := hw3.symm; replace hw4 := hw4.symm; replace hv5 := hv5.symm; replace hw6 := hw6.symm; replace hv44 := hv44.symm; replace hw45 := hw45.symm; subst hw45 hv44 hw6 hv5 hw4 hw3 hv2 hv1; exact (pr_eq (p := f_ro ω) (by rw [ro_e, bo_p c7, roF_e, bn_n c46])).2)
    · refine g_aload_n h 0 dX3_readOrder_36 rfl ?_
      refine g_bipush (v := 58) h dX3_readOrder_37 (by decide) ?_
      refine k_V_j (st := []) h hX (tX3_take (xl X) G F w45 iw45 58) rfl ⟨kd_lt rfl, ob_19 rfl⟩ rfl miX3_take tw_636 (by decide) (by decide) rfl (Nat.le_of_ble_eq_true rfl) (by rw [hX]; exact Nat.zero_le _) (by rw [hX]; exact Nat.zero_le _) dX3_readOrder_39 (fun v47 w48 hv47 hw48 iw48 => ?_)
      refine g_if_eq (tgt := 56) h dX3_readOrder_42 (by decide) (fun c49 => ?_) (fun c49 => ?_)
      · refine g_iconst (v := 0) h dX3_readOrder_56 (by decide) ?_
        exact e_zret h iw48 dX3_readOrder_57 (nz (ro_01 _)) (by clear iw3 iw4 iw6 iw45 iw48; replace hv1 := hv1.symm; replace hv2 := hv2.symm; replace hw3 := hw3.symm; replace hw4 := hw4.symm; replace hv5 := hv5.symm; replace hw6 := hw6.symm; replace hv44 := hv44.symm; replace hw45 := hw45.symm; replace hv47 := hv47.symm; replace hw48 := hw48.symm; subst hw48 hv47 hw45 hv44 hw6 hv5 hw4 hw3 hv2 hv1; exact (pr_eq (p := f_ro ω) (by rw [ro_e, bo_p c7, roF_e, bn_p c46, bn_n c49])).1) (by clear iw3 iw4 iw6 iw45 iw48; replace hv1 := hv1.symm; replace hv2 := hv2.symm; replace hw3 := hw3.symm; replace hw4 := hw4.symm; replace hv5 := hv5.symm; replace hw6 := hw6.symm; replace hv44 := hv44.symm; replace hw45 := hw45.symm; replace hv47 := hv47.symm; replace hw48 := hw48.symm; subst hw48 hv47 hw45 hv44 hw6 hv5 hw4 hw3 hv2 hv1; exact (pr_eq (p := f_ro ω) (by rw [ro_e, bo_p c7, roF_e, bn_p c46, bn_n c49])).2)
      · refine g_aload_n h 0 dX3_readOrder_45 rfl ?_
        refine k_V_j (st := []) h hX (tX3_readValues (xl X) G F w48 iw48) rfl ⟨kd_lt rfl, ob_19 rfl⟩ rfl miX3_readValues tw_653 (by decide) (by decide) rfl (Nat.le_of_ble_eq_true rfl) (by rw [hX]; exact Nat.zero_le _) (by rw [hX]; exact Nat.zero_le _) dX3_readOrder_46 (fun v50 w51 hv50 hw51 iw51 => ?_)
        refine g_if_eq (tgt := 56) h dX3_readOrder_49 (by decide) (fun c52 => ?_) (fun c52 => ?_)
        · refine g_iconst (v := 0) h dX3_readOrder_56 (by decide) ?_
          exact e_zret h iw51 dX3_readOrder_57 (nz (ro_01 _)) (by clear iw3 iw4 iw6 iw45 iw48 iw51; replace hv1 := hv1.symm; replace hv2 := hv2.symm; replace hw3 := hw3.symm; replace hw4 := hw4.symm; replace hv5 := hv5.symm; replace hw6 := hw6.symm; replace hv44 := hv44.symm; replace hw45 := hw45.symm; replace hv47 := hv47.symm; replace hw48 := hw48.symm; replace hv50 := hv50.symm; replace hw51 := hw51.symm; subst hw51 hv50 hw48 hv47 hw45 hv44 hw6 hv5 hw4 hw3 hv2 hv1; exact (pr_eq (p := f_ro ω) (by rw [ro_e, bo_p c7, roF_e, bn_p c46, bn_p c49, bn_n c52])).1) (by clear iw3 iw4 iw6 iw45 iw48 iw51; replace hv1 := hv1.symm; replace hv2 := hv2.symm; replace hw3 := hw3.symm; replace hw4 := hw4.symm; replace hv5 := hv5.symm; replace hw6 := hw6.symm; replace hv44 := hv44.symm; replace hw45 := hw45.symm; replace hv47 := hv47.symm; replace hw48 := hw48.symm; replace hv50 := hv50.symm; replace hw51 := hw51.symm; subst hw51 hv50 hw48 hv47 hw45 hv44 hw6 hv5 hw4 hw3 hv2 hv1; exact (pr_eq (p := f_ro ω) (by rw [ro_e, bo_p c7, roF_e, bn_p c46, bn_p c49, bn_n c52])).2)
        · refine g_iconst (v := 1) h dX3_readOrder_52 (by decide) ?_
          refine g_goto (tgt := 57) h dX3_readOrder_53 (by decide) ?_
          exact e_zret h iw51 dX3_readOrder_57 (nz (ro_01 _)) (by clear iw3 iw4 iw6 iw45 iw48 iw51; replace hv1 := hv1.symm; replace hv2 := hv2.symm; replace hw3 := hw3.symm; replace hw4 := hw4.symm; replace hv5 := hv5.symm; replace hw6 := hw6.symm; replace hv44 := hv44.symm; replace hw45 := hw45.symm; replace hv47 := hv47.symm; replace hw48 := hw48.symm; replace hv50 := hv50.symm; replace hw51 := hw51.symm; subst hw51 hv50 hw48 hv47 hw45 hv44 hw6 hv5 hw4 hw3 hv2 hv1; exact (pr_eq (p := f_ro ω) (by rw [ro_e, bo_p c7, roF_e, bn_p c46, bn_p c49, bn_p c52])).1) (by clear iw3 iw4 iw6 iw45 iw48 iw51; replace hv1 := hv1.symm; replace hv2 := hv2.symm; replace hw3 := hw3.symm; replace hw4 := hw4.symm; replace hv5 := hv5.symm; replace hw6 := hw6.symm; replace hv44 := hv44.symm; replace hw45 := hw45.symm; replace hv47 := hv47.symm; replace hw48 := hw48.symm; replace hv50 := hv50.symm; replace hw51 := hw51.symm; subst hw51 hv50 hw48 hv47 hw45 hv44 hw6 hv5 hw4 hw3 hv2 hv1; exact (pr_eq (p := f_ro ω) (by rw [ro_e, bo_p c7, roF_e, bn_p c46, bn_p c49, bn_p c52])).2)
set_option maxHeartbeats 4000000 in
set_option maxRecDepth 100000 in
theorem tX3_readNext (l0 : Launch) (G : fG) (F : Nat) (ω : fOm) (hI : Inv ω) : CT l0 G F yX3_readNext cX3_readNext 1 (some .boolean) 5 [.ref (F + 529)] ω (some (.int ((f_rx ω).1))) ((f_rx ω).2) := by
  refine ct_met (own := RX3) (by decide +kernel) rfl (Nat.le_of_ble_eq_true rfl) (fun X hXl hX h => ?_)
  subst hXl
  refine g_aload_n h 0 dX3_readNext_0 rfl ?_
  refine g_bipush (v := 59) h dX3_readNext_1 (by decide) ?_
  refine k_V_j (st := []) h hX (tX3_take (xl X) G F ω hI 59) rfl ⟨kd_lt rfl, ob_19 rfl⟩ rfl miX3_take tw_636 (by decide) (by decide) rfl (Nat.le_of_ble_eq_true rfl) (by rw [hX]; exact Nat.zero_le _) (by rw [hX]; exact Nat.zero_le _) dX3_readNext_3 (fun v1 w2 hv1 hw2 iw2 => ?_)
  refine g_pop h dX3_readNext_6 rfl ?_
  refine g_aload_n h 0 dX3_readNext_7 rfl ?_
  refine k_V_j (st := []) h hX (tX3_readOrder (xl X) G F w2 iw2) rfl ⟨kd_lt rfl, ob_19 rfl⟩ rfl miX3_readOrder tw_628 (by decide) (by decide) rfl (Nat.le_of_ble_eq_true rfl) (by rw [hX]; exact Nat.zero_le _) (by rw [hX]; exact Nat.zero_le _) dX3_readNext_8 (fun v3 w4 hv3 hw4 iw4 => ?_)
  exact e_zret h iw4 dX3_readNext_11 (nz (ro_01 _)) (by clear iw2 iw4; replace hv1 := hv1.symm; replace hw2 := hw2.symm; replace hv3 := hv3.symm; replace hw4 := hw4.symm; subst hw4 hv3 hw2 hv1; rw [rx_e]) (by clear iw2 iw4; replace hv1 := hv1.symm; replace hw2 := hw2.symm; replace hv3 := hv3.symm; replace hw4 := hw4.symm; subst hw4 hv3 hw2 hv1; rw [rx_e])
set_option maxHeartbeats 4000000 in
set_option maxRecDepth 100000 in
theorem tX3_firstFault (l0 : Launch) (G : fG) (F : Nat) (ω : fOm) (hI : Inv ω) : CT l0 G F yX3_firstFault cX3_firstFault 2 (some .int) 5 [.ref (F + 529)] ω (some (.int ((f_ff ω).1))) ((f_ff ω).2) := by
  refine ct_met (own := RX3) (by decide +kernel) rfl (Nat.le_of_ble_eq_true rfl) (fun X hXl hX h => ?_)
  subst hXl
  refine g_aload_n h 0 dX3_firstFault_0 rfl ?_
  refine k_V_v (st := []) h hX (tX3_goToStart (xl X) G F ω hI) rfl ⟨kd_lt rfl, ob_19 rfl⟩ rfl miX3_goToStart tw_624 (by decide) (by decide) rfl (Nat.le_of_ble_eq_true rfl) (by rw [hX]; exact Nat.zero_le _) (by rw [hX]; exact Nat.zero_le _) dX3_firstFault_1 (fun w1 hw1 iw1 => ?_)
  refine g_iconst (v := 0) h dX3_firstFault_4 (by decide) ?_
  refine g_istore_n (loc2 := [(1, .int 0), (0, .ref (F + 529))]) h dX3_firstFault_5 (by decide) rfl ?_
  have e3 : 0 = nI 0 := by clear iw1; replace hw1 := hw1.symm; subst hw1; first | rfl | exact nI_0.symm | exact nI_0 | decide
  have e4 : w1 = f_ffI (f_f0 ω) 0 := by clear iw1; replace hw1 := hw1.symm; subst hw1; rfl
  refine g_lt (ω2 := f_ffI (f_f0 ω) 0) (loc2 := [(1, .int (nI 0)), (0, .ref (F + 529))]) e4 (lc_i e3 rfl) rfl ?_
  refine g_loop3 (hd := 6) (80) (fun j2 => Inv (f_ffI (f_f0 ω) j2) ∧ f_ff ω = f_ffF (80 - j2) (f_ffI (f_f0 ω) j2)) (fun j2 => [(1, .int (nI j2)), (0, .ref (F + 529))]) (fun j2 => cel F G (f_ffI (f_f0 ω) j2)) ⟨(e4 ▸ iw1), ff_0⟩ (fun j2 hj7 hP5 ih6 => ?_)
  (try dsimp only)
  obtain ⟨iv8, hP1⟩ := hP5
  refine g_iload_n h 0 dX3_firstFault_6 rfl ?_
  refine g_bipush (v := 80) h dX3_firstFault_7 (by decide) ?_
  refine g_icmp_ge (tgt := 61) h dX3_firstFault_9 (by decide) (fun c9 => ?_) (fun c9 => ?_)
  · have hN10 : j2 = 80 := lpc_ge (x := 80) (M := 80) rfl (by decide) c9 hj7
    refine g_aload_n h 1 dX3_firstFault_61 rfl ?_
    refine q_3_next h rfl tw_214 dX3_firstFault_62 (fun v11 hv11 => ?_)
    exact e_iret h iv8 dX3_firstFault_65 (by clear iw1 ih6; replace hw1 := hw1.symm; replace hv11 := hv11.symm; subst hv11 hw1; exact (ff_a hP1 hN10).1) (by clear iw1 ih6; replace hw1 := hw1.symm; replace hv11 := hv11.symm; subst hv11 hw1; exact (ff_a hP1 hN10).2)
  · have hlt12 : j2 < 80 := lpc_lt (x := 80) (M := 80) rfl (by decide) c9 hj7
    refine g_aload_n h 1 dX3_firstFault_12 rfl ?_
    refine k_V_j (st := []) h hX (tX3_readOrder (xl X) G F (f_ffI (f_f0 ω) j2) iv8) rfl ⟨kd_lt rfl, ob_19 rfl⟩ rfl miX3_readOrder tw_628 (by decide) (by decide) rfl (Nat.le_of_ble_eq_true rfl) (by rw [hX]; exact Nat.zero_le _) (by rw [hX]; exact Nat.zero_le _) dX3_firstFault_13 (fun v13 w14 hv13 hw14 iw14 => ?_)
    refine g_if_ne (tgt := 24) h dX3_firstFault_16 (by decide) (fun c15 => ?_) (fun c15 => ?_)
    · refine g_aload_n h 1 dX3_firstFault_24 rfl ?_
      refine q_3_next h rfl tw_214 dX3_firstFault_25 (fun v16 hv16 => ?_)
      refine g_aload_n h 1 dX3_firstFault_28 rfl ?_
      refine q_3_pad h rfl tw_213 dX3_firstFault_29 ?_
      refine qN_4_length h rfl tw_198 dX3_firstFault_32 (fun v17 hv17 => ?_)
      refine g_icmp_ne (tgt := 41) h dX3_firstFault_35 (by decide) (fun c18 => ?_) (fun c18 => ?_)
      · refine g_aload_n h 1 dX3_firstFault_41 rfl ?_
        refine g_bipush (v := 59) h dX3_firstFault_42 (by decide) ?_
        refine k_V_j (st := []) h hX (tX3_take (xl X) G F w14 iw14 59) rfl ⟨kd_lt rfl, ob_19 rfl⟩ rfl miX3_take tw_636 (by decide) (by decide) rfl (Nat.le_of_ble_eq_true rfl) (by rw [hX]; exact Nat.zero_le _) (by rw [hX]; exact Nat.zero_le _) dX3_firstFault_44 (fun v19 w20 hv19 hw20 iw20 => ?_)
        refine g_if_ne (tgt := 55) h dX3_firstFault_47 (by decide) (fun c21 => ?_) (fun c21 => ?_)
        · obtain ⟨v22, hv22⟩ : ∃ z : Int32, z = (nI j2) + 1 := ⟨_, rfl⟩
          refine g_iinc (v := v22) (loc2 := [(1, .int v22), (0, .ref (F + 529))]) h 0 dX3_firstFault_55 rfl (by rw [hv22]; rfl) (by decide) rfl ?_
          refine g_goto (tgt := 6) h dX3_firstFault_58 (by decide) ?_
          have e23 : v22 = nI (j2 + 1) := by clear iw1 ih6 iw14 iw20; replace hw1 := hw1.symm; replace hv13 := hv13.symm; replace hw14 := hw14.symm; replace hv16 := hv16.symm; replace hv17 := hv17.symm; replace hv19 := hv19.symm; replace hw20 := hw20.symm; replace hv22 := hv22.symm; subst hv22 hw20 hv19 hv17 hv16 hw14 hv13 hw1; first | rfl | exact nI_1 _ | (rw [nI_succ])
          have e24 : w20 = f_ffI (f_f0 ω) (j2 + 1) := by clear iw1 ih6 iw14 iw20; replace hw1 := hw1.symm; replace hv13 := hv13.symm; replace hw14 := hw14.symm; replace hv16 := hv16.symm; replace hv17 := hv17.symm; replace hv19 := hv19.symm; replace hw20 := hw20.symm; replace hv22 := hv22.symm; subst hv22 hw20 hv19 hv17 hv16 hw14 hv13 hw1; rfl
          exact g_lt e24 (lc_i e23 rfl) rfl (ih6 hlt12 ⟨(e24 ▸ iw20), (by clear iw1 ih6 iw14 iw20; replace hw1 := hw1.symm; replace hv13 := hv13.symm; replace hw14 := hw14.symm; replace hv16 := hv16.symm; replace hv17 := hv17.symm; replace hv19 := hv19.symm; replace hw20 := hw20.symm; replace hv22 := hv22.symm; subst hv22 hw20 hv19 hv17 hv16 hw14 hv13 hw1; exact ff_e hP1 hlt12 c15 c18 c21)⟩)
        · refine g_aload_n h 1 dX3_firstFault_50 rfl ?_
          refine q_3_next h rfl tw_214 dX3_firstFault_51 (fun v25 hv25 => ?_)
          exact e_iret h iw20 dX3_firstFault_54 (by clear iw1 ih6 iw14 iw20; replace hw1 := hw1.symm; replace hv13 := hv13.symm; replace hw14 := hw14.symm; replace hv16 := hv16.symm; replace hv17 := hv17.symm; replace hv19 := hv19.symm; replace hw20 := hw20.symm; replace hv25 := hv25.symm; subst hv25 hw20 hv19 hv17 hv16 hw14 hv13 hw1; exact (ff_d hP1 hlt12 c15 c18 c21).1) (by clear iw1 ih6 iw14 iw20; replace hw1 := hw1.symm; replace hv13 := hv13.symm; replace hw14 := hw14.symm; replace hv16 := hv16.symm; replace hv17 := hv17.symm; replace hv19 := hv19.symm; replace hw20 := hw20.symm; replace hv25 := hv25.symm; subst hv25 hw20 hv19 hv17 hv16 hw14 hv13 hw1; exact (ff_d hP1 hlt12 c15 c18 c21).2)
      · refine g_bipush (v := (-6)) h dX3_firstFault_38 (by decide) ?_
        exact e_iret h iw14 dX3_firstFault_40 (by clear iw1 ih6 iw14; replace hw1 := hw1.symm; replace hv13 := hv13.symm; replace hw14 := hw14.symm; replace hv16 := hv16.symm; replace hv17 := hv17.symm; subst hv17 hv16 hw14 hv13 hw1; exact (ff_c hP1 hlt12 c15 c18).1) (by clear iw1 ih6 iw14; replace hw1 := hw1.symm; replace hv13 := hv13.symm; replace hw14 := hw14.symm; replace hv16 := hv16.symm; replace hv17 := hv17.symm; subst hv17 hv16 hw14 hv13 hw1; exact (ff_c hP1 hlt12 c15 c18).2)
    · refine g_aload_n h 1 dX3_firstFault_19 rfl ?_
      refine q_3_next h rfl tw_214 dX3_firstFault_20 (fun v26 hv26 => ?_)
      exact e_iret h iw14 dX3_firstFault_23 (by clear iw1 ih6 iw14; replace hw1 := hw1.symm; replace hv13 := hv13.symm; replace hw14 := hw14.symm; replace hv26 := hv26.symm; subst hv26 hw14 hv13 hw1; exact (ff_b hP1 hlt12 c15).1) (by clear iw1 ih6 iw14; replace hw1 := hw1.symm; replace hv13 := hv13.symm; replace hw14 := hw14.symm; replace hv26 := hv26.symm; subst hv26 hw14 hv13 hw1; exact (ff_b hP1 hlt12 c15).2)
