/-! ===== small tools ===== -/
theorem ln_lt (q : Nat) : ln q < 2 ^ 31 := by
  unfold ln
  repeat' split
  all_goals omega
theorem tn_lt (x : Int32) : x.toNatClampNeg < 2 ^ 31 := by
  have h := x.toInt_lt
  show x.toInt.toNat < 2 ^ 31
  omega
theorem tn_toInt {x : Int32} (h : 0 ≤ x) : x.toInt = (x.toNatClampNeg : Int) := by
  have h0 : (0 : Int) ≤ x.toInt := by simpa using Int32.le_iff_toInt_le.mp h
  show x.toInt = ((x.toInt.toNat : Nat) : Int)
  omega
theorem tn_nI {x : Int32} (h : 0 ≤ x) : nI x.toNatClampNeg = x := by
  apply Int32.toInt_inj.mp
  rw [nI_toInt (tn_lt x), ← tn_toInt h]
theorem lp_ge {x : Int32} {j : Nat} (h0 : 0 ≤ x) (c : x ≤ nI j) (hj : j ≤ x.toNatClampNeg) : j = x.toNatClampNeg := by
  have h1 := Int32.le_iff_toInt_le.mp c
  rw [nI_toInt (Nat.lt_of_le_of_lt hj (tn_lt x)), tn_toInt h0] at h1
  omega
theorem lp_lt {x : Int32} {j : Nat} (h0 : 0 ≤ x) (c : ¬ x ≤ nI j) (hj : j ≤ x.toNatClampNeg) : j < x.toNatClampNeg := by
  rcases Nat.lt_or_ge j x.toNatClampNeg with a | a
  · exact a
  · exfalso
    apply c
    rw [Int32.le_iff_toInt_le, nI_toInt (Nat.lt_of_le_of_lt hj (tn_lt x)), tn_toInt h0]
    omega
theorem lpc_ge {x : Int32} {j M : Nat} (hx : x = nI M) (hM : M < 2 ^ 31) (c : x ≤ nI j) (hj : j ≤ M) : j = M := by
  subst hx
  have := (nI_leI hM (by omega)).mp c
  omega
theorem lpc_lt {x : Int32} {j M : Nat} (hx : x = nI M) (hM : M < 2 ^ 31) (c : ¬ x ≤ nI j) (hj : j ≤ M) : j < M := by
  subst hx
  rcases Nat.lt_or_ge j M with a | a
  · exact a
  · exact absurd (nI_le a (by omega)) c
theorem vp_j {x M : Int32} {j n : Nat} (h : 0 ≤ x ∧ x ≤ M) (hM : M.toInt = n) (hj : j < x.toNatClampNeg) : vp_in (nI j) n := by
  rw [vp_in_iff, nI_toInt (Nat.lt_trans hj (tn_lt x))]
  have h1 := Int32.le_iff_toInt_le.mp h.2
  rw [hM, tn_toInt h.1] at h1
  omega
theorem vp_n {j n : Nat} (hj : j < n) (hn : n < 2 ^ 31) : vp_in (nI j) n := vp_in_nI hj hn
theorem vp_lt {i x M : Int32} {n : Nat} (h0 : ¬ i < 0) (h1 : i < x) (h2 : x ≤ M) (hM : M.toInt = n) : vp_in i n := by
  rw [vp_in_iff]
  have a := Int32.lt_iff_toInt_lt.mp h1
  have b := Int32.le_iff_toInt_le.mp h2
  have c : 0 ≤ i.toInt := by
    have := Int32.not_lt.mp h0
    simpa using Int32.le_iff_toInt_le.mp this
  omega
theorem nI_ex1 {u : Int32} {n : Nat} (h1 : ¬ u < 1) (h2 : u ≤ nI n) (hn : n < 2 ^ 31) : ∃ m, m + 1 ≤ n ∧ u = nI (m + 1) := by
  have a : (1 : Int) ≤ u.toInt := by
    have := Int32.not_lt.mp h1
    simpa using Int32.le_iff_toInt_le.mp this
  have b := Int32.le_iff_toInt_le.mp h2
  rw [nI_toInt hn] at b
  have h0 : 0 ≤ u := by
    rw [Int32.le_iff_toInt_le]
    simp
    omega
  have e := tn_toInt h0
  refine ⟨u.toNatClampNeg - 1, by omega, ?_⟩
  rw [show u.toNatClampNeg - 1 + 1 = u.toNatClampNeg by omega, tn_nI h0]
theorem c0 : (0 : Int32).toNatClampNeg = 0 := rfl
theorem c1 : (1 : Int32).toNatClampNeg = 1 := rfl
theorem sw_3 (x : Int32) : x = 0 ∨ x = 1 ∨ x = 2 ∨ (x.toInt < 0 ∨ 2 < x.toInt) := by
  have e : ∀ i : Int32, x.toInt = i.toInt → x = i := fun i h => Int32.toInt_inj.mp h
  by_cases h : x.toInt < 0 ∨ 2 < x.toInt
  · right; right; right; exact h
  · have h2 : x.toInt = 0 ∨ x.toInt = 1 ∨ x.toInt = 2 := by omega
    rcases h2 with q | q | q
    · left; exact e 0 (by rw [q]; rfl)
    · right; left; exact e 1 (by rw [q]; rfl)
    · right; right; left; exact e 2 (by rw [q]; rfl)
theorem swo_3 {x : Int32} (h : x.toInt < 0 ∨ 2 < x.toInt) : ¬ x = 0 ∧ ¬ x = 1 ∧ ¬ x = 2 := by
  refine ⟨?_, ?_, ?_⟩ <;> (intro e; subst e; revert h; decide)
theorem sw_4 (x : Int32) : x = 0 ∨ x = 1 ∨ x = 2 ∨ x = 3 ∨ (x.toInt < 0 ∨ 3 < x.toInt) := by
  have e : ∀ i : Int32, x.toInt = i.toInt → x = i := fun i h => Int32.toInt_inj.mp h
  by_cases h : x.toInt < 0 ∨ 3 < x.toInt
  · right; right; right; right; exact h
  · have h2 : x.toInt = 0 ∨ x.toInt = 1 ∨ x.toInt = 2 ∨ x.toInt = 3 := by omega
    rcases h2 with q | q | q | q
    · left; exact e 0 (by rw [q]; rfl)
    · right; left; exact e 1 (by rw [q]; rfl)
    · right; right; left; exact e 2 (by rw [q]; rfl)
    · right; right; right; left; exact e 3 (by rw [q]; rfl)
theorem swo_4 {x : Int32} (h : x.toInt < 0 ∨ 3 < x.toInt) : ¬ x = 0 ∧ ¬ x = 1 ∧ ¬ x = 2 ∧ ¬ x = 3 := by
  refine ⟨?_, ?_, ?_, ?_⟩ <;> (intro e; subst e; revert h; decide)
theorem sw_5 (x : Int32) : x = 0 ∨ x = 1 ∨ x = 2 ∨ x = 3 ∨ x = 4 ∨ (x.toInt < 0 ∨ 4 < x.toInt) := by
  have e : ∀ i : Int32, x.toInt = i.toInt → x = i := fun i h => Int32.toInt_inj.mp h
  by_cases h : x.toInt < 0 ∨ 4 < x.toInt
  · right; right; right; right; right; exact h
  · have h2 : x.toInt = 0 ∨ x.toInt = 1 ∨ x.toInt = 2 ∨ x.toInt = 3 ∨ x.toInt = 4 := by omega
    rcases h2 with q | q | q | q | q
    · left; exact e 0 (by rw [q]; rfl)
    · right; left; exact e 1 (by rw [q]; rfl)
    · right; right; left; exact e 2 (by rw [q]; rfl)
    · right; right; right; left; exact e 3 (by rw [q]; rfl)
    · right; right; right; right; left; exact e 4 (by rw [q]; rfl)
theorem swo_5 {x : Int32} (h : x.toInt < 0 ∨ 4 < x.toInt) : ¬ x = 0 ∧ ¬ x = 1 ∧ ¬ x = 2 ∧ ¬ x = 3 ∧ ¬ x = 4 := by
  refine ⟨?_, ?_, ?_, ?_, ?_⟩ <;> (intro e; subst e; revert h; decide)
theorem sw_6 (x : Int32) : x = 0 ∨ x = 1 ∨ x = 2 ∨ x = 3 ∨ x = 4 ∨ x = 5 ∨ (x.toInt < 0 ∨ 5 < x.toInt) := by
  have e : ∀ i : Int32, x.toInt = i.toInt → x = i := fun i h => Int32.toInt_inj.mp h
  by_cases h : x.toInt < 0 ∨ 5 < x.toInt
  · right; right; right; right; right; right; exact h
  · have h2 : x.toInt = 0 ∨ x.toInt = 1 ∨ x.toInt = 2 ∨ x.toInt = 3 ∨ x.toInt = 4 ∨ x.toInt = 5 := by omega
    rcases h2 with q | q | q | q | q | q
    · left; exact e 0 (by rw [q]; rfl)
    · right; left; exact e 1 (by rw [q]; rfl)
    · right; right; left; exact e 2 (by rw [q]; rfl)
    · right; right; right; left; exact e 3 (by rw [q]; rfl)
    · right; right; right; right; left; exact e 4 (by rw [q]; rfl)
    · right; right; right; right; right; left; exact e 5 (by rw [q]; rfl)
theorem swo_6 {x : Int32} (h : x.toInt < 0 ∨ 5 < x.toInt) : ¬ x = 0 ∧ ¬ x = 1 ∧ ¬ x = 2 ∧ ¬ x = 3 ∧ ¬ x = 4 ∧ ¬ x = 5 := by
  refine ⟨?_, ?_, ?_, ?_, ?_, ?_⟩ <;> (intro e; subst e; revert h; decide)
theorem sw_7 (x : Int32) : x = 0 ∨ x = 1 ∨ x = 2 ∨ x = 3 ∨ x = 4 ∨ x = 5 ∨ x = 6 ∨ (x.toInt < 0 ∨ 6 < x.toInt) := by
  have e : ∀ i : Int32, x.toInt = i.toInt → x = i := fun i h => Int32.toInt_inj.mp h
  by_cases h : x.toInt < 0 ∨ 6 < x.toInt
  · right; right; right; right; right; right; right; exact h
  · have h2 : x.toInt = 0 ∨ x.toInt = 1 ∨ x.toInt = 2 ∨ x.toInt = 3 ∨ x.toInt = 4 ∨ x.toInt = 5 ∨ x.toInt = 6 := by omega
    rcases h2 with q | q | q | q | q | q | q
    · left; exact e 0 (by rw [q]; rfl)
    · right; left; exact e 1 (by rw [q]; rfl)
    · right; right; left; exact e 2 (by rw [q]; rfl)
    · right; right; right; left; exact e 3 (by rw [q]; rfl)
    · right; right; right; right; left; exact e 4 (by rw [q]; rfl)
    · right; right; right; right; right; left; exact e 5 (by rw [q]; rfl)
    · right; right; right; right; right; right; left; exact e 6 (by rw [q]; rfl)
theorem swo_7 {x : Int32} (h : x.toInt < 0 ∨ 6 < x.toInt) : ¬ x = 0 ∧ ¬ x = 1 ∧ ¬ x = 2 ∧ ¬ x = 3 ∧ ¬ x = 4 ∧ ¬ x = 5 ∧ ¬ x = 6 := by
  refine ⟨?_, ?_, ?_, ?_, ?_, ?_, ?_⟩ <;> (intro e; subst e; revert h; decide)
theorem sw_9 (x : Int32) : x = 0 ∨ x = 1 ∨ x = 2 ∨ x = 3 ∨ x = 4 ∨ x = 5 ∨ x = 6 ∨ x = 7 ∨ x = 8 ∨ (x.toInt < 0 ∨ 8 < x.toInt) := by
  have e : ∀ i : Int32, x.toInt = i.toInt → x = i := fun i h => Int32.toInt_inj.mp h
  by_cases h : x.toInt < 0 ∨ 8 < x.toInt
  · right; right; right; right; right; right; right; right; right; exact h
  · have h2 : x.toInt = 0 ∨ x.toInt = 1 ∨ x.toInt = 2 ∨ x.toInt = 3 ∨ x.toInt = 4 ∨ x.toInt = 5 ∨ x.toInt = 6 ∨ x.toInt = 7 ∨ x.toInt = 8 := by omega
    rcases h2 with q | q | q | q | q | q | q | q | q
    · left; exact e 0 (by rw [q]; rfl)
    · right; left; exact e 1 (by rw [q]; rfl)
    · right; right; left; exact e 2 (by rw [q]; rfl)
    · right; right; right; left; exact e 3 (by rw [q]; rfl)
    · right; right; right; right; left; exact e 4 (by rw [q]; rfl)
    · right; right; right; right; right; left; exact e 5 (by rw [q]; rfl)
    · right; right; right; right; right; right; left; exact e 6 (by rw [q]; rfl)
    · right; right; right; right; right; right; right; left; exact e 7 (by rw [q]; rfl)
    · right; right; right; right; right; right; right; right; left; exact e 8 (by rw [q]; rfl)
theorem swo_9 {x : Int32} (h : x.toInt < 0 ∨ 8 < x.toInt) : ¬ x = 0 ∧ ¬ x = 1 ∧ ¬ x = 2 ∧ ¬ x = 3 ∧ ¬ x = 4 ∧ ¬ x = 5 ∧ ¬ x = 6 ∧ ¬ x = 7 ∧ ¬ x = 8 := by
  refine ⟨?_, ?_, ?_, ?_, ?_, ?_, ?_, ?_, ?_⟩ <;> (intro e; subst e; revert h; decide)
theorem sw_14 (x : Int32) : x = 0 ∨ x = 1 ∨ x = 2 ∨ x = 3 ∨ x = 4 ∨ x = 5 ∨ x = 6 ∨ x = 7 ∨ x = 8 ∨ x = 9 ∨ x = 10 ∨ x = 11 ∨ x = 12 ∨ x = 13 ∨ (x.toInt < 0 ∨ 13 < x.toInt) := by
  have e : ∀ i : Int32, x.toInt = i.toInt → x = i := fun i h => Int32.toInt_inj.mp h
  by_cases h : x.toInt < 0 ∨ 13 < x.toInt
  · right; right; right; right; right; right; right; right; right; right; right; right; right; right; exact h
  · have h2 : x.toInt = 0 ∨ x.toInt = 1 ∨ x.toInt = 2 ∨ x.toInt = 3 ∨ x.toInt = 4 ∨ x.toInt = 5 ∨ x.toInt = 6 ∨ x.toInt = 7 ∨ x.toInt = 8 ∨ x.toInt = 9 ∨ x.toInt = 10 ∨ x.toInt = 11 ∨ x.toInt = 12 ∨ x.toInt = 13 := by omega
    rcases h2 with q | q | q | q | q | q | q | q | q | q | q | q | q | q
    · left; exact e 0 (by rw [q]; rfl)
    · right; left; exact e 1 (by rw [q]; rfl)
    · right; right; left; exact e 2 (by rw [q]; rfl)
    · right; right; right; left; exact e 3 (by rw [q]; rfl)
    · right; right; right; right; left; exact e 4 (by rw [q]; rfl)
    · right; right; right; right; right; left; exact e 5 (by rw [q]; rfl)
    · right; right; right; right; right; right; left; exact e 6 (by rw [q]; rfl)
    · right; right; right; right; right; right; right; left; exact e 7 (by rw [q]; rfl)
    · right; right; right; right; right; right; right; right; left; exact e 8 (by rw [q]; rfl)
    · right; right; right; right; right; right; right; right; right; left; exact e 9 (by rw [q]; rfl)
    · right; right; right; right; right; right; right; right; right; right; left; exact e 10 (by rw [q]; rfl)
    · right; right; right; right; right; right; right; right; right; right; right; left; exact e 11 (by rw [q]; rfl)
    · right; right; right; right; right; right; right; right; right; right; right; right; left; exact e 12 (by rw [q]; rfl)
    · right; right; right; right; right; right; right; right; right; right; right; right; right; left; exact e 13 (by rw [q]; rfl)
theorem swo_14 {x : Int32} (h : x.toInt < 0 ∨ 13 < x.toInt) : ¬ x = 0 ∧ ¬ x = 1 ∧ ¬ x = 2 ∧ ¬ x = 3 ∧ ¬ x = 4 ∧ ¬ x = 5 ∧ ¬ x = 6 ∧ ¬ x = 7 ∧ ¬ x = 8 ∧ ¬ x = 9 ∧ ¬ x = 10 ∧ ¬ x = 11 ∧ ¬ x = 12 ∧ ¬ x = 13 := by
  refine ⟨?_, ?_, ?_, ?_, ?_, ?_, ?_, ?_, ?_, ?_, ?_, ?_, ?_, ?_⟩ <;> (intro e; subst e; revert h; decide)
