/-! ===== static helpers, and the rings: what they answer and do ===== -/
def f_btw (n lo hi : Int32) : Int32 := if n < lo then 0 else if hi < n then 0 else 1
def f_isV (v : Int32) : Int32 := f_btw v 0 99
def f_fits (kind one two : Int32) : Int32 :=
  if kind = 0 then (if f_btw one 1 500 = 0 then 0 else if f_btw two 1 2000 = 0 then 0 else 1)
  else if kind = 1 then (if ¬ one = 0 then 0 else if ¬ two = 0 then 0 else 1)
  else if kind = 2 then (if ¬ one = 0 then 0 else if ¬ two = 0 then 0 else 1)
  else if kind = 3 then (if f_isV one = 0 then 0 else if f_isV two = 0 then 0 else 1)
  else if kind = 4 then (if f_isV one = 0 then 0 else if ¬ two = 0 then 0 else 1)
  else 0
def f_cp (ω : fOm) (k0 k1 q : Nat) : fOm := wr ω k1 (va_cpy (ω k0) (ω k1) 0 0 (ln q))
def f_turn (ω : fOm) (k q : Nat) (u : Int32) : fOm := if u < 1 then ω else if u ≤ nI (ln q) then wu (wr ω k (va_cpy (ω k) (ω k) 0 1 (u - 1).toNatClampNeg)) k 0 (ω k (u - 1).toNatClampNeg) else ω
def f_has (ω : fOm) (k : Nat) (p : Int32) : Int32 := if p < 0 then 0 else if ω k 0 ≤ p then 0 else 1
def f_strengthAt (ω : fOm) (k : Nat) (p : Int32) : Int32 := if f_has ω k p = 0 then 0 else ω (k + 2) p.toNatClampNeg
def f_valueAt (ω : fOm) (k : Nat) (p : Int32) : Int32 := if f_has ω k p = 0 then (-6) else if ω (k + 2) p.toNatClampNeg ≤ 0 then (-6) else ω (k + 1) p.toNatClampNeg
def f_birthAt (ω : fOm) (k : Nat) (p : Int32) : Int32 := if f_has ω k p = 0 then 0 else ω (k + 3) p.toNatClampNeg
def f_tally (ω : fOm) (k : Nat) (p : Int32) : Int32 := if f_btw p 0 4 = 0 then 0 else ω (k + 4) p.toNatClampNeg
def f_fl (ω : fOm) (k : Nat) : Nat → Int32
  | 0 => 0
  | j + 1 => if ω (k + 2) j ≤ 0 then f_fl ω k j else f_fl ω k j + 1
def f_flashes (ω : fOm) (k : Nat) : Int32 := f_fl ω k (ω k 0).toNatClampNeg
def f_sm (ω : fOm) (k : Nat) : Nat → Int32
  | 0 => 0
  | j + 1 => f_sm ω k j + ω (k + 2) j
def f_strengths (ω : fOm) (k : Nat) : Int32 := f_sm ω k (ω k 0).toNatClampNeg
def f_fa (ω : fOm) (k : Nat) : Nat → Int32
  | 0 => 0
  | j + 1 => if ω (k + 2) j ≤ 0 then f_fa ω k j else if f_fa ω k j = 0 then ω (k + 2) j else if f_fa ω k j ≤ ω (k + 2) j then f_fa ω k j else ω (k + 2) j
def f_faintest (ω : fOm) (k : Nat) : Int32 := f_fa ω k (ω k 0).toNatClampNeg
def f_fade (ω : fOm) (k : Nat) (p by_ : Int32) : fOm :=
  if f_has ω k p = 0 then ω else
    let ω1 := wu ω (k + 2) p.toNatClampNeg (ω (k + 2) p.toNatClampNeg - by_)
    if 0 < ω1 (k + 2) p.toNatClampNeg then ω1 else
      let ω2 := wu ω1 (k + 2) p.toNatClampNeg 0
      wu ω2 (k + 4) 1 (ω2 (k + 4) 1 + 1)
def f_mv0 (ω : fOm) (k : Nat) : fOm :=
  let ω1 := f_turn ω (k + 1) 7 (ω k 0)
  let ω2 := f_turn ω1 (k + 2) 7 (ω1 k 0)
  f_turn ω2 (k + 3) 7 (ω2 k 0)
def f_mvL (k : Nat) (loss : Int32) (ω : fOm) : Nat → fOm
  | 0 => ω
  | j + 1 => if f_mvL k loss ω j (k + 2) j ≤ 0 then f_mvL k loss ω j else f_fade (f_mvL k loss ω j) k (nI j) loss
def f_moveOn (ω : fOm) (k : Nat) (loss : Int32) : fOm := f_mvL k loss (f_mv0 ω k) (ω k 0).toNatClampNeg
def f_strengthen (ω : fOm) (k : Nat) (p by_ : Int32) : fOm := if f_has ω k p = 0 then ω else wu ω (k + 2) p.toNatClampNeg (ω (k + 2) p.toNatClampNeg + by_)
def f_changeValue (ω : fOm) (k : Nat) (p v : Int32) : fOm := if f_has ω k p = 0 then ω else wu ω (k + 1) p.toNatClampNeg v
def f_putIn (ω : fOm) (k : Nat) (p v s t : Int32) : fOm := if f_has ω k p = 0 then ω else
  let ω1 := wu (wu (wu ω (k + 1) p.toNatClampNeg v) (k + 2) p.toNatClampNeg s) (k + 3) p.toNatClampNeg t
  wu ω1 (k + 4) 0 (ω1 (k + 4) 0 + 1)
def f_drop (ω : fOm) (k : Nat) (p : Int32) : fOm := if f_has ω k p = 0 then ω else
  let ω1 := wu ω (k + 2) p.toNatClampNeg 0
  wu ω1 (k + 4) 2 (ω1 (k + 4) 2 + 1)
def f_exch (ω : fOm) (k : Nat) (p : Int32) (k2 : Nat) (p2 : Int32) : fOm := if f_has ω k p = 0 then ω else if f_has ω k2 p2 = 0 then ω else
  let ω1 := wu ω (k + 1) p.toNatClampNeg (ω (k2 + 1) p2.toNatClampNeg)
  let ω2 := wu ω1 (k + 2) p.toNatClampNeg (ω1 (k2 + 2) p2.toNatClampNeg)
  let ω3 := wu ω2 (k + 3) p.toNatClampNeg (ω2 (k2 + 3) p2.toNatClampNeg)
  wu (wu (wu ω3 (k2 + 1) p2.toNatClampNeg (ω (k + 1) p.toNatClampNeg)) (k2 + 2) p2.toNatClampNeg (ω (k + 2) p.toNatClampNeg)) (k2 + 3) p2.toNatClampNeg (ω (k + 3) p.toNatClampNeg)
def f_tell (ω : fOm) (k k2 : Nat) : fOm :=
  let ω1 := wu ω (k + 4) 4 (ω (k + 4) 4 + 1)
  wu ω1 (k2 + 4) 3 (ω1 (k2 + 4) 3 + 1)
def f_z32 (ω : fOm) (k : Nat) : Nat → fOm
  | 0 => ω
  | j + 1 => wu (f_z32 ω k j) k j 0
def f_begin (ω : fOm) (k : Nat) (pl : Int32) : fOm := f_z32 (f_z32 (wu ω k 0 pl) (k + 2) 32) (k + 4) 5
def f_rcopy (ω : fOm) (k k2 : Nat) : fOm := f_cp (f_cp (f_cp (f_cp (wu ω k 0 (ω k2 0)) (k2 + 1) (k + 1) 7) (k2 + 2) (k + 2) 7) (k2 + 3) (k + 3) 7) (k2 + 4) (k + 4) 8
theorem lc_i {i : Nat} {a b : Int32} {r r2 : List (Nat × Value)} (e : a = b) (h : r = r2) : (i, Value.int a) :: r = (i, Value.int b) :: r2 := by rw [e, h]
theorem lc_l {i : Nat} {a b : Int64} {r r2 : List (Nat × Value)} (e : a = b) (h : r = r2) : (i, Value.long a) :: r = (i, Value.long b) :: r2 := by rw [e, h]
theorem lc_s {x : Nat × Value} {r r2 : List (Nat × Value)} (h : r = r2) : x :: r = x :: r2 := by rw [h]
theorem tz0 : (0 : Int32).toNatClampNeg = 0 := rfl
theorem tz1 : (1 : Int32).toNatClampNeg = 1 := rfl
theorem nz {e : Int32} (h : e = 0 ∨ e = 1) : narrow .boolean (.int e) = .int e := by rcases h with rfl | rfl <;> rfl
theorem if01 {c : Prop} [Decidable c] {a b : Int32} (ha : a = 0 ∨ a = 1) (hb : b = 0 ∨ b = 1) : (if c then a else b) = 0 ∨ (if c then a else b) = 1 := by
  by_cases h : c
  · rw [if_pos h]; exact ha
  · rw [if_neg h]; exact hb
theorem z01 : (0 : Int32) = 0 ∨ (0 : Int32) = 1 := Or.inl rfl
theorem o01 : (1 : Int32) = 0 ∨ (1 : Int32) = 1 := Or.inr rfl
theorem f_btw_01 (n lo hi : Int32) : f_btw n lo hi = 0 ∨ f_btw n lo hi = 1 := if01 z01 (if01 z01 o01)
theorem f_fits_01 (k a b : Int32) : f_fits k a b = 0 ∨ f_fits k a b = 1 := if01 (if01 z01 (if01 z01 o01)) (if01 (if01 z01 (if01 z01 o01)) (if01 (if01 z01 (if01 z01 o01)) (if01 (if01 z01 (if01 z01 o01)) (if01 (if01 z01 (if01 z01 o01)) z01))))
theorem f_has_01 (ω : fOm) (k : Nat) (p : Int32) : f_has ω k p = 0 ∨ f_has ω k p = 1 := if01 z01 (if01 z01 o01)
theorem vp_0 {n : Nat} (h : 0 < n) : vp_in 0 n := by
  rw [vp_in_iff]
  exact ⟨Int.le_refl 0, by simpa using h⟩
theorem has_in {ω : fOm} {k : Nat} {p : Int32} {n : Nat} (h : ¬ f_has ω k p = 0) (hb : 0 ≤ ω k 0 ∧ ω k 0 ≤ 32) (hn : n = 32) : vp_in p n := by
  subst hn
  unfold f_has at h
  by_cases h1 : p < 0
  · simp [h1] at h
  · by_cases h2 : ω k 0 ≤ p
    · simp [h1, h2] at h
    · exact vp_lt h1 (Int32.not_le.mp h2) hb.2 rfl
theorem btw_in {p hi : Int32} {n : Nat} (h : ¬ f_btw p 0 hi = 0) (hn : hi.toInt + 1 = n) : vp_in p n := by
  unfold f_btw at h
  by_cases h1 : p < 0
  · simp [h1] at h
  · by_cases h2 : hi < p
    · simp [h1, h2] at h
    · rw [vp_in_iff]
      have a := Int32.le_iff_toInt_le.mp (Int32.not_lt.mp h2)
      have b := Int32.le_iff_toInt_le.mp (Int32.not_lt.mp h1)
      simp at b
      omega
theorem wu_ne {ω : fOm} {k k2 j : Nat} {v : Int32} (h : k2 ≠ k) : wu ω k j v k2 = ω k2 := by unfold wu; rw [if_neg h]
theorem wr_ne {ω : fOm} {k k2 : Nat} {f : Nat → Int32} (h : k2 ≠ k) : wr ω k f k2 = ω k2 := by unfold wr; rw [if_neg h]
theorem turn_ne {ω : fOm} {k k2 q : Nat} {u : Int32} (h : k2 ≠ k) : f_turn ω k q u k2 = ω k2 := by
  unfold f_turn
  split
  · rfl
  · split
    · rw [wu_ne h, wr_ne h]
    · rfl
theorem fade_0 {ω : fOm} {k : Nat} {p b : Int32} : f_fade ω k p b k = ω k := by
  unfold f_fade
  split
  · rfl
  · dsimp only
    split
    · exact wu_ne (by omega)
    · rw [wu_ne (by omega), wu_ne (by omega), wu_ne (by omega)]
theorem mv0_0 {ω : fOm} {k : Nat} : f_mv0 ω k k = ω k := by
  unfold f_mv0
  rw [turn_ne (by omega), turn_ne (by omega), turn_ne (by omega)]
theorem mvL_0 {ω : fOm} {k j : Nat} {loss : Int32} : f_mvL k loss ω j k = ω k := by
  induction j with
  | zero => rfl
  | succ j ih =>
    unfold f_mvL
    split
    · exact ih
    · rw [fade_0]; exact ih
set_option maxHeartbeats 4000000 in
set_option maxRecDepth 100000 in
theorem tX7_isBetween (l0 : Launch) (G : fG) (F : Nat) (ω : fOm) (hI : Inv ω) (n : Int32) (lo : Int32) (hi : Int32) : CT l0 G F yX7_isBetween cX7_isBetween 3 (some .boolean) 0 [.int n, .int lo, .int hi] ω (some (.int (f_btw n lo hi))) ω := by
  refine ct_met (own := RX7) (by decide +kernel) rfl (Nat.le_of_ble_eq_true rfl) (fun X hXl hX h => ?_)
  subst hXl
  refine g_iload_n h 0 dX7_isBetween_0 rfl ?_
  refine g_iload_n h 1 dX7_isBetween_1 rfl ?_
  refine g_icmp_lt (tgt := 14) h dX7_isBetween_2 (by decide) (fun c1 => ?_) (fun c1 => ?_)
  · refine g_iconst (v := 0) h dX7_isBetween_14 (by decide) ?_
    exact e_zret h hI dX7_isBetween_15 (nz (f_btw_01 _ _ _)) (by skip; first | rfl | contradiction | (unfold f_btw; simp only [c1, ↓reduceIte] <;> rfl) | (unfold f_btw; simp [c1]; done)) rfl
  · refine g_iload_n h 0 dX7_isBetween_5 rfl ?_
    refine g_iload_n h 2 dX7_isBetween_6 rfl ?_
    refine g_icmp_gt (tgt := 14) h dX7_isBetween_7 (by decide) (fun c2 => ?_) (fun c2 => ?_)
    · refine g_iconst (v := 0) h dX7_isBetween_14 (by decide) ?_
      exact e_zret h hI dX7_isBetween_15 (nz (f_btw_01 _ _ _)) (by skip; first | rfl | contradiction | (unfold f_btw; simp only [c1, c2, ↓reduceIte] <;> rfl) | (unfold f_btw; simp [c1, c2]; done)) rfl
    · refine g_iconst (v := 1) h dX7_isBetween_10 (by decide) ?_
      refine g_goto (tgt := 15) h dX7_isBetween_11 (by decide) ?_
      exact e_zret h hI dX7_isBetween_15 (nz (f_btw_01 _ _ _)) (by skip; first | rfl | contradiction | (unfold f_btw; simp only [c1, c2, ↓reduceIte] <;> rfl) | (unfold f_btw; simp [c1, c2]; done)) rfl
set_option maxHeartbeats 4000000 in
set_option maxRecDepth 100000 in
theorem tX7_isValue (l0 : Launch) (G : fG) (F : Nat) (ω : fOm) (hI : Inv ω) (v : Int32) : CT l0 G F yX7_isValue cX7_isValue 1 (some .boolean) 1 [.int v] ω (some (.int (f_isV v))) ω := by
  refine ct_met (own := RX7) (by decide +kernel) rfl (Nat.le_of_ble_eq_true rfl) (fun X hXl hX h => ?_)
  subst hXl
  refine g_iload_n h 0 dX7_isValue_0 rfl ?_
  refine g_iconst (v := 0) h dX7_isValue_1 (by decide) ?_
  refine g_bipush (v := 99) h dX7_isValue_2 (by decide) ?_
  refine k_S_i (st := []) h hX (tX7_isBetween (xl X) G F ω hI v 0 99) rfl miX7_isBetween tw_333 (by decide) (by decide) rfl (Nat.le_of_ble_eq_true rfl) (by rw [hX]; exact Nat.zero_le _) (by rw [hX]; exact Nat.zero_le _) dX7_isValue_4 (fun v1 hv1 => ?_)
  exact e_zret h hI dX7_isValue_7 (nz (f_btw_01 _ _ _)) (by subst hv1; first | rfl | contradiction | (simp only [↓reduceIte] <;> rfl) | (simp []; done)) rfl
set_option maxHeartbeats 4000000 in
set_option maxRecDepth 100000 in
theorem tX7_fits (l0 : Launch) (G : fG) (F : Nat) (ω : fOm) (hI : Inv ω) (kind : Int32) (one : Int32) (two : Int32) : CT l0 G F yX7_fits cX7_fits 3 (some .boolean) 2 [.int kind, .int one, .int two] ω (some (.int (f_fits kind one two))) ω := by
  refine ct_met (own := RX7) (by decide +kernel) rfl (Nat.le_of_ble_eq_true rfl) (fun X hXl hX h => ?_)
  subst hXl
  refine g_iload_n h 0 dX7_fits_0 rfl ?_
  rcases sw_5 kind with c1 | c1 | c1 | c1 | c1 | c1
  · refine g_tableIn (off := 35) (tgt := 36) h dX7_fits_1 (by rw [c1]; decide) (by rw [c1]; decide) (by rw [c1]; rfl) (by decide) ?_
    refine g_iload_n h 1 dX7_fits_36 rfl ?_
    refine g_iconst (v := 1) h dX7_fits_37 (by decide) ?_
    refine g_sipush (v := 500) h dX7_fits_38 (by decide) ?_
    refine k_S_i (st := []) h hX (tX7_isBetween (xl X) G F ω hI one 1 500) rfl miX7_isBetween tw_333 (by decide) (by decide) rfl (Nat.le_of_ble_eq_true rfl) (by rw [hX]; exact Nat.zero_le _) (by rw [hX]; exact Nat.zero_le _) dX7_fits_41 (fun v2 hv2 => ?_)
    refine g_if_eq (tgt := 62) h dX7_fits_44 (by decide) (fun c3 => ?_) (fun c3 => ?_)
    · refine g_iconst (v := 0) h dX7_fits_62 (by decide) ?_
      exact e_zret h hI dX7_fits_63 (nz (f_fits_01 _ _ _)) (by subst hv2; first | rfl | contradiction | (unfold f_fits; simp only [c1, c3, ↓reduceIte] <;> rfl) | (unfold f_fits; simp [c1, c3]; done)) rfl
    · refine g_iload_n h 2 dX7_fits_47 rfl ?_
      refine g_iconst (v := 1) h dX7_fits_48 (by decide) ?_
      refine g_sipush (v := 2000) h dX7_fits_49 (by decide) ?_
      refine k_S_i (st := []) h hX (tX7_isBetween (xl X) G F ω hI two 1 2000) rfl miX7_isBetween tw_333 (by decide) (by decide) rfl (Nat.le_of_ble_eq_true rfl) (by rw [hX]; exact Nat.zero_le _) (by rw [hX]; exact Nat.zero_le _) dX7_fits_52 (fun v4 hv4 => ?_)
      refine g_if_eq (tgt := 62) h dX7_fits_55 (by decide) (fun c5 => ?_) (fun c5 => ?_)
      · refine g_iconst (v := 0) h dX7_fits_62 (by decide) ?_
        exact e_zret h hI dX7_fits_63 (nz (f_fits_01 _ _ _)) (by subst hv4 hv2; first | rfl | contradiction | (unfold f_fits; simp only [c1, c3, c5, ↓reduceIte] <;> rfl) | (unfold f_fits; simp [c1, c3, c5]; done)) rfl
      · refine g_iconst (v := 1) h dX7_fits_58 (by decide) ?_
        refine g_goto (tgt := 63) h dX7_fits_59 (by decide) ?_
        exact e_zret h hI dX7_fits_63 (nz (f_fits_01 _ _ _)) (by subst hv4 hv2; first | rfl | contradiction | (unfold f_fits; simp only [c1, c3, c5, ↓reduceIte] <;> rfl) | (unfold f_fits; simp [c1, c3, c5]; done)) rfl
  · refine g_tableIn (off := 63) (tgt := 64) h dX7_fits_1 (by rw [c1]; decide) (by rw [c1]; decide) (by rw [c1]; rfl) (by decide) ?_
    refine g_iload_n h 1 dX7_fits_64 rfl ?_
    refine g_if_ne (tgt := 76) h dX7_fits_65 (by decide) (fun c6 => ?_) (fun c6 => ?_)
    · refine g_iconst (v := 0) h dX7_fits_76 (by decide) ?_
      exact e_zret h hI dX7_fits_77 (nz (f_fits_01 _ _ _)) (by skip; first | rfl | contradiction | (unfold f_fits; simp only [c1, c6, ↓reduceIte] <;> rfl) | (unfold f_fits; simp [c1, c6]; done)) rfl
    · refine g_iload_n h 2 dX7_fits_68 rfl ?_
      refine g_if_ne (tgt := 76) h dX7_fits_69 (by decide) (fun c7 => ?_) (fun c7 => ?_)
      · refine g_iconst (v := 0) h dX7_fits_76 (by decide) ?_
        exact e_zret h hI dX7_fits_77 (nz (f_fits_01 _ _ _)) (by skip; first | rfl | contradiction | (unfold f_fits; simp only [c1, c6, c7, ↓reduceIte] <;> rfl) | (unfold f_fits; simp [c1, c6, c7]; done)) rfl
      · refine g_iconst (v := 1) h dX7_fits_72 (by decide) ?_
        refine g_goto (tgt := 77) h dX7_fits_73 (by decide) ?_
        exact e_zret h hI dX7_fits_77 (nz (f_fits_01 _ _ _)) (by skip; first | rfl | contradiction | (unfold f_fits; simp only [c1, c6, c7, ↓reduceIte] <;> rfl) | (unfold f_fits; simp [c1, c6, c7]; done)) rfl
  · refine g_tableIn (off := 63) (tgt := 64) h dX7_fits_1 (by rw [c1]; decide) (by rw [c1]; decide) (by rw [c1]; rfl) (by decide) ?_
    refine g_iload_n h 1 dX7_fits_64 rfl ?_
    refine g_if_ne (tgt := 76) h dX7_fits_65 (by decide) (fun c8 => ?_) (fun c8 => ?_)
    · refine g_iconst (v := 0) h dX7_fits_76 (by decide) ?_
      exact e_zret h hI dX7_fits_77 (nz (f_fits_01 _ _ _)) (by skip; first | rfl | contradiction | (unfold f_fits; simp only [c1, c8, ↓reduceIte] <;> rfl) | (unfold f_fits; simp [c1, c8]; done)) rfl
    · refine g_iload_n h 2 dX7_fits_68 rfl ?_
      refine g_if_ne (tgt := 76) h dX7_fits_69 (by decide) (fun c9 => ?_) (fun c9 => ?_)
      · refine g_iconst (v := 0) h dX7_fits_76 (by decide) ?_
        exact e_zret h hI dX7_fits_77 (nz (f_fits_01 _ _ _)) (by skip; first | rfl | contradiction | (unfold f_fits; simp only [c1, c8, c9, ↓reduceIte] <;> rfl) | (unfold f_fits; simp [c1, c8, c9]; done)) rfl
      · refine g_iconst (v := 1) h dX7_fits_72 (by decide) ?_
        refine g_goto (tgt := 77) h dX7_fits_73 (by decide) ?_
        exact e_zret h hI dX7_fits_77 (nz (f_fits_01 _ _ _)) (by skip; first | rfl | contradiction | (unfold f_fits; simp only [c1, c8, c9, ↓reduceIte] <;> rfl) | (unfold f_fits; simp [c1, c8, c9]; done)) rfl
  · refine g_tableIn (off := 77) (tgt := 78) h dX7_fits_1 (by rw [c1]; decide) (by rw [c1]; decide) (by rw [c1]; rfl) (by decide) ?_
    refine g_iload_n h 1 dX7_fits_78 rfl ?_
    refine k_S_i (st := []) h hX (tX7_isValue (xl X) G F ω hI one) rfl miX7_isValue tw_334 (by decide) (by decide) rfl (Nat.le_of_ble_eq_true rfl) (by rw [hX]; exact Nat.zero_le _) (by rw [hX]; exact Nat.zero_le _) dX7_fits_79 (fun v10 hv10 => ?_)
    refine g_if_eq (tgt := 96) h dX7_fits_82 (by decide) (fun c11 => ?_) (fun c11 => ?_)
    · refine g_iconst (v := 0) h dX7_fits_96 (by decide) ?_
      exact e_zret h hI dX7_fits_97 (nz (f_fits_01 _ _ _)) (by subst hv10; first | rfl | contradiction | (unfold f_fits; simp only [c1, c11, ↓reduceIte] <;> rfl) | (unfold f_fits; simp [c1, c11]; done)) rfl
    · refine g_iload_n h 2 dX7_fits_85 rfl ?_
      refine k_S_i (st := []) h hX (tX7_isValue (xl X) G F ω hI two) rfl miX7_isValue tw_334 (by decide) (by decide) rfl (Nat.le_of_ble_eq_true rfl) (by rw [hX]; exact Nat.zero_le _) (by rw [hX]; exact Nat.zero_le _) dX7_fits_86 (fun v12 hv12 => ?_)
      refine g_if_eq (tgt := 96) h dX7_fits_89 (by decide) (fun c13 => ?_) (fun c13 => ?_)
      · refine g_iconst (v := 0) h dX7_fits_96 (by decide) ?_
        exact e_zret h hI dX7_fits_97 (nz (f_fits_01 _ _ _)) (by subst hv12 hv10; first | rfl | contradiction | (unfold f_fits; simp only [c1, c11, c13, ↓reduceIte] <;> rfl) | (unfold f_fits; simp [c1, c11, c13]; done)) rfl
      · refine g_iconst (v := 1) h dX7_fits_92 (by decide) ?_
        refine g_goto (tgt := 97) h dX7_fits_93 (by decide) ?_
        exact e_zret h hI dX7_fits_97 (nz (f_fits_01 _ _ _)) (by subst hv12 hv10; first | rfl | contradiction | (unfold f_fits; simp only [c1, c11, c13, ↓reduceIte] <;> rfl) | (unfold f_fits; simp [c1, c11, c13]; done)) rfl
  · refine g_tableIn (off := 97) (tgt := 98) h dX7_fits_1 (by rw [c1]; decide) (by rw [c1]; decide) (by rw [c1]; rfl) (by decide) ?_
    refine g_iload_n h 1 dX7_fits_98 rfl ?_
    refine k_S_i (st := []) h hX (tX7_isValue (xl X) G F ω hI one) rfl miX7_isValue tw_334 (by decide) (by decide) rfl (Nat.le_of_ble_eq_true rfl) (by rw [hX]; exact Nat.zero_le _) (by rw [hX]; exact Nat.zero_le _) dX7_fits_99 (fun v14 hv14 => ?_)
    refine g_if_eq (tgt := 113) h dX7_fits_102 (by decide) (fun c15 => ?_) (fun c15 => ?_)
    · refine g_iconst (v := 0) h dX7_fits_113 (by decide) ?_
      exact e_zret h hI dX7_fits_114 (nz (f_fits_01 _ _ _)) (by subst hv14; first | rfl | contradiction | (unfold f_fits; simp only [c1, c15, ↓reduceIte] <;> rfl) | (unfold f_fits; simp [c1, c15]; done)) rfl
    · refine g_iload_n h 2 dX7_fits_105 rfl ?_
      refine g_if_ne (tgt := 113) h dX7_fits_106 (by decide) (fun c16 => ?_) (fun c16 => ?_)
      · refine g_iconst (v := 0) h dX7_fits_113 (by decide) ?_
        exact e_zret h hI dX7_fits_114 (nz (f_fits_01 _ _ _)) (by subst hv14; first | rfl | contradiction | (unfold f_fits; simp only [c1, c15, c16, ↓reduceIte] <;> rfl) | (unfold f_fits; simp [c1, c15, c16]; done)) rfl
      · refine g_iconst (v := 1) h dX7_fits_109 (by decide) ?_
        refine g_goto (tgt := 114) h dX7_fits_110 (by decide) ?_
        exact e_zret h hI dX7_fits_114 (nz (f_fits_01 _ _ _)) (by subst hv14; first | rfl | contradiction | (unfold f_fits; simp only [c1, c15, c16, ↓reduceIte] <;> rfl) | (unfold f_fits; simp [c1, c15, c16]; done)) rfl
  · refine g_tableOut (tgt := 115) h dX7_fits_1 c1 (by decide) ?_
    obtain ⟨c17, c18, c19, c20, c21⟩ := swo_5 c1
    refine g_iconst (v := 0) h dX7_fits_115 (by decide) ?_
    exact e_zret h hI dX7_fits_116 (nz (f_fits_01 _ _ _)) (by skip; first | rfl | contradiction | (unfold f_fits; simp only [c17, c18, c19, c20, c21, ↓reduceIte] <;> rfl) | (unfold f_fits; simp [c17, c18, c19, c20, c21]; done)) rfl
set_option maxHeartbeats 4000000 in
set_option maxRecDepth 100000 in
theorem tX7_copyRow (l0 : Launch) (G : fG) (F : Nat) (ω : fOm) (hI : Inv ω) (q : Nat) (hqq : isI q = true) (hnq : q ≠ 0) (k0 : Nat) (hk0 : kd k0 = q) (k1 : Nat) (hk1 : kd k1 = q) : CT l0 G F yX7_copyRow cX7_copyRow 2 none 1 [.ref (F + k0), .ref (F + k1)] ω none (f_cp ω k0 k1 q) := by
  refine ct_met (own := RX7) (by decide +kernel) rfl (Nat.le_of_ble_eq_true rfl) (fun X hXl hX h => ?_)
  subst hXl
  refine g_aload_n h 0 dX7_copyRow_0 rfl ?_
  refine g_iconst (v := 0) h dX7_copyRow_1 (by decide) ?_
  refine g_aload_n h 1 dX7_copyRow_2 rfl ?_
  refine g_iconst (v := 0) h dX7_copyRow_3 (by decide) ?_
  refine g_aload_n h 0 dX7_copyRow_4 rfl ?_
  refine g_il (q := q) h hk0 hqq hnq dX7_copyRow_5 (g_name fun v1 hv1 => ?_)
  refine g_aload_n h 1 dX7_copyRow_6 rfl ?_
  refine g_il (q := q) h hk1 hqq hnq dX7_copyRow_7 (g_name fun v2 hv2 => ?_)
  refine g_mmin h tw_37 tw_38 tw_3 tw_39 (by rw [hX]; decide) (by rw [hX]; exact Nat.le_of_ble_eq_true rfl) (by rw [hX]; exact Nat.zero_le _) (by rw [hX]; exact Nat.zero_le _) dX7_copyRow_8 (g_name fun v3 hv3 => ?_)
  refine g_cp (q0 := q) (q1 := q) h hI hk0 hqq hnq hk1 hqq hnq (by decide) (by decide) (by subst hv3 hv2 hv1; rw [ite_self]; exact nI_pos (ln_lt _)) (by subst hv3 hv2 hv1; rw [ite_self, nI_clamp (ln_lt _)]; exact Nat.le_of_eq (Nat.zero_add _)) (by subst hv3 hv2 hv1; rw [ite_self, nI_clamp (ln_lt _)]; exact Nat.le_of_eq (Nat.zero_add _)) tw_40 tw_42 tw_41 tw_4 (by rw [hX]; decide) (by rw [hX]; exact Nat.le_of_ble_eq_true rfl) dX7_copyRow_11 (fun w4 hw4 iw4 => ?_)
  exact e_vret h iw4 dX7_copyRow_14 (by subst hw4 hv3 hv2 hv1; rw [ite_self, nI_clamp (ln_lt _)]; rfl)
set_option maxHeartbeats 4000000 in
set_option maxRecDepth 100000 in
theorem tX7_turnRow (l0 : Launch) (G : fG) (F : Nat) (ω : fOm) (hI : Inv ω) (q : Nat) (hqq : isI q = true) (hnq : q ≠ 0) (k : Nat) (hk : kd k = q) (u : Int32) : CT l0 G F yX7_turnRow cX7_turnRow 3 none 1 [.ref (F + k), .int u] ω none (f_turn ω k q u) := by
  refine ct_met (own := RX7) (by decide +kernel) rfl (Nat.le_of_ble_eq_true rfl) (fun X hXl hX h => ?_)
  subst hXl
  refine g_iload_n h 1 dX7_turnRow_0 rfl ?_
  refine g_iconst (v := 1) h dX7_turnRow_1 (by decide) ?_
  refine g_icmp_lt (tgt := 11) h dX7_turnRow_2 (by decide) (fun c1 => ?_) (fun c1 => ?_)
  · exact e_vret h hI dX7_turnRow_11 (by skip; first | rfl | contradiction | (unfold f_turn; simp only [c1, ↓reduceIte] <;> rfl) | (unfold f_turn; simp [c1]; done))
  · refine g_iload_n h 1 dX7_turnRow_5 rfl ?_
    refine g_aload_n h 0 dX7_turnRow_6 rfl ?_
    refine g_il (q := q) h hk hqq hnq dX7_turnRow_7 (g_name fun v2 hv2 => ?_)
    refine g_icmp_le (tgt := 12) h dX7_turnRow_8 (by decide) (fun c3 => ?_) (fun c3 => ?_)
    · refine g_aload_n h 0 dX7_turnRow_12 rfl ?_
      refine g_iload_n h 1 dX7_turnRow_13 rfl ?_
      refine g_iconst (v := 1) h dX7_turnRow_14 (by decide) ?_
      refine g_isub h dX7_turnRow_15 (g_name fun v4 hv4 => ?_)
      refine g_ia (q := q) h hk hqq hnq (by obtain ⟨m9, hm9, hu9⟩ := nI_ex1 (n := ln q) c1 (by subst hv4 hv2; assumption) (ln_lt _); subst hv4 hv2; rw [hu9, nI_pred]; exact vp_n (by omega) (ln_lt _)) dX7_turnRow_16 (fun v5 hv5 => ?_)
      refine g_istore_n (loc2 := [(2, .int v5), (0, .ref (F + k)), (1, .int u)]) h dX7_turnRow_17 (by decide) rfl ?_
      refine g_aload_n h 1 dX7_turnRow_18 rfl ?_
      refine g_iconst (v := 0) h dX7_turnRow_19 (by decide) ?_
      refine g_aload_n h 1 dX7_turnRow_20 rfl ?_
      refine g_iconst (v := 1) h dX7_turnRow_21 (by decide) ?_
      refine g_iload_n h 2 dX7_turnRow_22 rfl ?_
      refine g_iconst (v := 1) h dX7_turnRow_23 (by decide) ?_
      refine g_isub h dX7_turnRow_24 (g_name fun v6 hv6 => ?_)
      refine g_cp (q0 := q) (q1 := q) h hI hk hqq hnq hk hqq hnq (by decide) (by decide) (by obtain ⟨m9, hm9, hu9⟩ := nI_ex1 (n := ln q) c1 (by subst hv6 hv5 hv4 hv2; assumption) (ln_lt _); subst hv6 hv5 hv4 hv2; rw [hu9, nI_pred]; exact nI_pos (by have := ln_lt q; omega)) (by obtain ⟨m9, hm9, hu9⟩ := nI_ex1 (n := ln q) c1 (by subst hv6 hv5 hv4 hv2; assumption) (ln_lt _); subst hv6 hv5 hv4 hv2; rw [hu9, nI_pred]; rw [nI_clamp (by have := ln_lt q; omega), tz0]; omega) (by obtain ⟨m9, hm9, hu9⟩ := nI_ex1 (n := ln q) c1 (by subst hv6 hv5 hv4 hv2; assumption) (ln_lt _); subst hv6 hv5 hv4 hv2; rw [hu9, nI_pred]; rw [nI_clamp (by have := ln_lt q; omega), tz1]; omega) tw_40 tw_42 tw_41 tw_4 (by rw [hX]; decide) (by rw [hX]; exact Nat.le_of_ble_eq_true rfl) dX7_turnRow_25 (fun w7 hw7 iw7 => ?_)
      refine g_aload_n h 1 dX7_turnRow_28 rfl ?_
      refine g_iconst (v := 0) h dX7_turnRow_29 (by decide) ?_
      refine g_iload_n h 0 dX7_turnRow_30 rfl ?_
      refine g_is (q := q) h iw7 hk hqq hnq (by obtain ⟨m9, hm9, hu9⟩ := nI_ex1 (n := ln q) c1 (by subst hw7 hv6 hv5 hv4 hv2; assumption) (ln_lt _); subst hw7 hv6 hv5 hv4 hv2; exact vp_0 (by omega)) dX7_turnRow_31 (fun w8 hw8 iw8 => ?_)
      exact e_vret h iw8 dX7_turnRow_32 (by subst hw8 hw7 hv6 hv5 hv4 hv2; first | rfl | contradiction | (unfold f_turn; simp only [c1, c3, ↓reduceIte] <;> rfl) | (unfold f_turn; simp [c1, c3]; done))
    · exact e_vret h hI dX7_turnRow_11 (by subst hv2; first | rfl | contradiction | (unfold f_turn; simp only [c1, c3, ↓reduceIte] <;> rfl) | (unfold f_turn; simp [c1, c3]; done))
set_option maxHeartbeats 4000000 in
set_option maxRecDepth 100000 in
theorem tX5_has (l0 : Launch) (G : fG) (F : Nat) (ω : fOm) (hI : Inv ω) (k : Nat) (hk : kd k = 6) (p : Int32) : CT l0 G F yX5_has cX5_has 2 (some .boolean) 0 [.ref (F + k), .int p] ω (some (.int (f_has ω k p))) ω := by
  refine ct_met (own := RX5) (by decide +kernel) rfl (Nat.le_of_ble_eq_true rfl) (fun X hXl hX h => ?_)
  subst hXl
  refine g_iload_n h 1 dX5_has_0 rfl ?_
  refine g_if_lt (tgt := 16) h dX5_has_1 (by decide) (fun c1 => ?_) (fun c1 => ?_)
  · refine g_iconst (v := 0) h dX5_has_16 (by decide) ?_
    exact e_zret h hI dX5_has_17 (nz (f_has_01 _ _ _)) (by skip; first | rfl | contradiction | (unfold f_has; simp only [c1, ↓reduceIte] <;> rfl) | (unfold f_has; simp [c1]; done)) rfl
  · refine g_iload_n h 1 dX5_has_4 rfl ?_
    refine g_aload_n h 0 dX5_has_5 rfl ?_
    refine q_5_places h hk tw_48 dX5_has_6 (fun v2 hv2 => ?_)
    refine g_icmp_ge (tgt := 16) h dX5_has_9 (by decide) (fun c3 => ?_) (fun c3 => ?_)
    · refine g_iconst (v := 0) h dX5_has_16 (by decide) ?_
      exact e_zret h hI dX5_has_17 (nz (f_has_01 _ _ _)) (by subst hv2; first | rfl | contradiction | (unfold f_has; simp only [c1, c3, ↓reduceIte] <;> rfl) | (unfold f_has; simp [c1, c3]; done)) rfl
    · refine g_iconst (v := 1) h dX5_has_12 (by decide) ?_
      refine g_goto (tgt := 17) h dX5_has_13 (by decide) ?_
      exact e_zret h hI dX5_has_17 (nz (f_has_01 _ _ _)) (by subst hv2; first | rfl | contradiction | (unfold f_has; simp only [c1, c3, ↓reduceIte] <;> rfl) | (unfold f_has; simp [c1, c3]; done)) rfl
set_option maxHeartbeats 4000000 in
set_option maxRecDepth 100000 in
theorem tX5_strengthAt (l0 : Launch) (G : fG) (F : Nat) (ω : fOm) (hI : Inv ω) (k : Nat) (hk : kd k = 6) (p : Int32) : CT l0 G F yX5_strengthAt cX5_strengthAt 2 (some .int) 1 [.ref (F + k), .int p] ω (some (.int (f_strengthAt ω k p))) ω := by
  refine ct_met (own := RX5) (by decide +kernel) rfl (Nat.le_of_ble_eq_true rfl) (fun X hXl hX h => ?_)
  subst hXl
  refine g_aload_n h 0 dX5_strengthAt_0 rfl ?_
  refine g_iload_n h 1 dX5_strengthAt_1 rfl ?_
  refine k_V_i (st := []) h hX (tX5_has (xl X) G F ω hI k hk p) rfl ⟨kd_lt hk, ob_6 hk⟩ rfl miX5_has tw_394 (by decide) (by decide) rfl (Nat.le_of_ble_eq_true rfl) (by rw [hX]; exact Nat.zero_le _) (by rw [hX]; exact Nat.zero_le _) dX5_strengthAt_2 (fun v1 hv1 => ?_)
  refine g_if_eq (tgt := 17) h dX5_strengthAt_5 (by decide) (fun c2 => ?_) (fun c2 => ?_)
  · refine g_iconst (v := 0) h dX5_strengthAt_17 (by decide) ?_
    exact e_iret h hI dX5_strengthAt_18 (by subst hv1; first | rfl | contradiction | (unfold f_strengthAt; simp only [c2, ↓reduceIte] <;> rfl) | (unfold f_strengthAt; simp [c2]; done)) rfl
  · refine g_aload_n h 0 dX5_strengthAt_8 rfl ?_
    refine q_5_strengths h hk tw_51 dX5_strengthAt_9 ?_
    refine g_iload_n h 1 dX5_strengthAt_12 rfl ?_
    refine g_ia (q := 7) h (kr_2 hk) rfl (by decide) (by subst hv1; exact has_in c2 (Inv_6_0 hI hk) rfl) dX5_strengthAt_13 (fun v3 hv3 => ?_)
    refine g_goto (tgt := 18) h dX5_strengthAt_14 (by decide) ?_
    exact e_iret h hI dX5_strengthAt_18 (by subst hv3 hv1; first | rfl | contradiction | (unfold f_strengthAt; simp only [c2, ↓reduceIte] <;> rfl) | (unfold f_strengthAt; simp [c2]; done)) rfl
set_option maxHeartbeats 4000000 in
set_option maxRecDepth 100000 in
theorem tX5_valueAt (l0 : Launch) (G : fG) (F : Nat) (ω : fOm) (hI : Inv ω) (k : Nat) (hk : kd k = 6) (p : Int32) : CT l0 G F yX5_valueAt cX5_valueAt 2 (some .int) 1 [.ref (F + k), .int p] ω (some (.int (f_valueAt ω k p))) ω := by
  refine ct_met (own := RX5) (by decide +kernel) rfl (Nat.le_of_ble_eq_true rfl) (fun X hXl hX h => ?_)
  subst hXl
  refine g_aload_n h 0 dX5_valueAt_0 rfl ?_
  refine g_iload_n h 1 dX5_valueAt_1 rfl ?_
  refine k_V_i (st := []) h hX (tX5_has (xl X) G F ω hI k hk p) rfl ⟨kd_lt hk, ob_6 hk⟩ rfl miX5_has tw_394 (by decide) (by decide) rfl (Nat.le_of_ble_eq_true rfl) (by rw [hX]; exact Nat.zero_le _) (by rw [hX]; exact Nat.zero_le _) dX5_valueAt_2 (fun v1 hv1 => ?_)
  refine g_if_eq (tgt := 26) h dX5_valueAt_5 (by decide) (fun c2 => ?_) (fun c2 => ?_)
  · refine g_bipush (v := (-6)) h dX5_valueAt_26 (by decide) ?_
    exact e_iret h hI dX5_valueAt_28 (by subst hv1; first | rfl | contradiction | (unfold f_valueAt; simp only [c2, ↓reduceIte] <;> rfl) | (unfold f_valueAt; simp [c2]; done)) rfl
  · refine g_aload_n h 0 dX5_valueAt_8 rfl ?_
    refine q_5_strengths h hk tw_51 dX5_valueAt_9 ?_
    refine g_iload_n h 1 dX5_valueAt_12 rfl ?_
    refine g_ia (q := 7) h (kr_2 hk) rfl (by decide) (by subst hv1; exact has_in c2 (Inv_6_0 hI hk) rfl) dX5_valueAt_13 (fun v3 hv3 => ?_)
    refine g_if_le (tgt := 26) h dX5_valueAt_14 (by decide) (fun c4 => ?_) (fun c4 => ?_)
    · refine g_bipush (v := (-6)) h dX5_valueAt_26 (by decide) ?_
      exact e_iret h hI dX5_valueAt_28 (by subst hv3 hv1; first | rfl | contradiction | (unfold f_valueAt; simp only [c2, c4, ↓reduceIte] <;> rfl) | (unfold f_valueAt; simp [c2, c4]; done)) rfl
    · refine g_aload_n h 0 dX5_valueAt_17 rfl ?_
      refine q_5_values h hk tw_50 dX5_valueAt_18 ?_
      refine g_iload_n h 1 dX5_valueAt_21 rfl ?_
      refine g_ia (q := 7) h (kr_1 hk) rfl (by decide) (by subst hv3 hv1; exact has_in c2 (Inv_6_0 hI hk) rfl) dX5_valueAt_22 (fun v5 hv5 => ?_)
      refine g_goto (tgt := 28) h dX5_valueAt_23 (by decide) ?_
      exact e_iret h hI dX5_valueAt_28 (by subst hv5 hv3 hv1; first | rfl | contradiction | (unfold f_valueAt; simp only [c2, c4, ↓reduceIte] <;> rfl) | (unfold f_valueAt; simp [c2, c4]; done)) rfl
set_option maxHeartbeats 4000000 in
set_option maxRecDepth 100000 in
theorem tX5_birthAt (l0 : Launch) (G : fG) (F : Nat) (ω : fOm) (hI : Inv ω) (k : Nat) (hk : kd k = 6) (p : Int32) : CT l0 G F yX5_birthAt cX5_birthAt 2 (some .int) 1 [.ref (F + k), .int p] ω (some (.int (f_birthAt ω k p))) ω := by
  refine ct_met (own := RX5) (by decide +kernel) rfl (Nat.le_of_ble_eq_true rfl) (fun X hXl hX h => ?_)
  subst hXl
  refine g_aload_n h 0 dX5_birthAt_0 rfl ?_
  refine g_iload_n h 1 dX5_birthAt_1 rfl ?_
  refine k_V_i (st := []) h hX (tX5_has (xl X) G F ω hI k hk p) rfl ⟨kd_lt hk, ob_6 hk⟩ rfl miX5_has tw_394 (by decide) (by decide) rfl (Nat.le_of_ble_eq_true rfl) (by rw [hX]; exact Nat.zero_le _) (by rw [hX]; exact Nat.zero_le _) dX5_birthAt_2 (fun v1 hv1 => ?_)
  refine g_if_eq (tgt := 17) h dX5_birthAt_5 (by decide) (fun c2 => ?_) (fun c2 => ?_)
  · refine g_iconst (v := 0) h dX5_birthAt_17 (by decide) ?_
    exact e_iret h hI dX5_birthAt_18 (by subst hv1; first | rfl | contradiction | (unfold f_birthAt; simp only [c2, ↓reduceIte] <;> rfl) | (unfold f_birthAt; simp [c2]; done)) rfl
  · refine g_aload_n h 0 dX5_birthAt_8 rfl ?_
    refine q_5_births h hk tw_52 dX5_birthAt_9 ?_
    refine g_iload_n h 1 dX5_birthAt_12 rfl ?_
    refine g_ia (q := 7) h (kr_3 hk) rfl (by decide) (by subst hv1; exact has_in c2 (Inv_6_0 hI hk) rfl) dX5_birthAt_13 (fun v3 hv3 => ?_)
    refine g_goto (tgt := 18) h dX5_birthAt_14 (by decide) ?_
    exact e_iret h hI dX5_birthAt_18 (by subst hv3 hv1; first | rfl | contradiction | (unfold f_birthAt; simp only [c2, ↓reduceIte] <;> rfl) | (unfold f_birthAt; simp [c2]; done)) rfl
set_option maxHeartbeats 4000000 in
set_option maxRecDepth 100000 in
theorem tX5_tally (l0 : Launch) (G : fG) (F : Nat) (ω : fOm) (hI : Inv ω) (k : Nat) (hk : kd k = 6) (p : Int32) : CT l0 G F yX5_tally cX5_tally 2 (some .int) 1 [.ref (F + k), .int p] ω (some (.int (f_tally ω k p))) ω := by
  refine ct_met (own := RX5) (by decide +kernel) rfl (Nat.le_of_ble_eq_true rfl) (fun X hXl hX h => ?_)
  subst hXl
  refine g_iload_n h 1 dX5_tally_0 rfl ?_
  refine g_iconst (v := 0) h dX5_tally_1 (by decide) ?_
  refine g_iconst (v := 4) h dX5_tally_2 (by decide) ?_
  refine k_SN_i (st := []) h hX (tX7_isBetween (xl X) G F ω hI p 0 4) rfl miX7_isBetween tw_527 (by decide) (by decide) rfl (Nat.le_of_ble_eq_true rfl) (by rw [hX]; exact Nat.zero_le _) (by rw [hX]; exact Nat.zero_le _) dX5_tally_3 (fun v1 hv1 => ?_)
  refine g_if_eq (tgt := 18) h dX5_tally_6 (by decide) (fun c2 => ?_) (fun c2 => ?_)
  · refine g_iconst (v := 0) h dX5_tally_18 (by decide) ?_
    exact e_iret h hI dX5_tally_19 (by subst hv1; first | rfl | contradiction | (unfold f_tally; simp only [c2, ↓reduceIte] <;> rfl) | (unfold f_tally; simp [c2]; done)) rfl
  · refine g_aload_n h 0 dX5_tally_9 rfl ?_
    refine q_5_tallies h hk tw_53 dX5_tally_10 ?_
    refine g_iload_n h 1 dX5_tally_13 rfl ?_
    refine g_ia (q := 8) h (kr_4 hk) rfl (by decide) (by subst hv1; exact btw_in c2 rfl) dX5_tally_14 (fun v3 hv3 => ?_)
    refine g_goto (tgt := 19) h dX5_tally_15 (by decide) ?_
    exact e_iret h hI dX5_tally_19 (by subst hv3 hv1; first | rfl | contradiction | (unfold f_tally; simp only [c2, ↓reduceIte] <;> rfl) | (unfold f_tally; simp [c2]; done)) rfl
set_option maxHeartbeats 4000000 in
set_option maxRecDepth 100000 in
theorem tX5_flashes (l0 : Launch) (G : fG) (F : Nat) (ω : fOm) (hI : Inv ω) (k : Nat) (hk : kd k = 6) : CT l0 G F yX5_flashes cX5_flashes 3 (some .int) 0 [.ref (F + k)] ω (some (.int (f_flashes ω k))) ω := by
  refine ct_met (own := RX5) (by decide +kernel) rfl (Nat.le_of_ble_eq_true rfl) (fun X hXl hX h => ?_)
  subst hXl
  refine g_iconst (v := 0) h dX5_flashes_0 (by decide) ?_
  refine g_istore_n (loc2 := [(1, .int 0), (0, .ref (F + k))]) h dX5_flashes_1 (by decide) rfl ?_
  refine g_iconst (v := 0) h dX5_flashes_2 (by decide) ?_
  refine g_istore_n (loc2 := [(2, .int 0), (1, .int 0), (0, .ref (F + k))]) h dX5_flashes_3 (by decide) rfl ?_
  have e2 : 0 = nI 0 := by skip; first | rfl | exact nI_0.symm | exact nI_0 | decide
  have e3 : 0 = f_fl ω k 0 := by skip; first | rfl | exact nI_0.symm | exact nI_0 | decide
  refine g_lt (ω2 := ω) (loc2 := [(2, .int (nI 0)), (1, .int (f_fl ω k 0)), (0, .ref (F + k))]) rfl (lc_i e2 (lc_i e3 rfl)) rfl ?_
  refine g_loop3 (hd := 4) ((ω k 0).toNatClampNeg) (fun j1 => Inv ω) (fun j1 => [(2, .int (nI j1)), (1, .int (f_fl ω k j1)), (0, .ref (F + k))]) (fun j1 => cel F G ω) hI (fun j1 hj7 hP5 ih6 => ?_)
  (try dsimp only)
  have iv8 := hP5
  refine g_iload_n h 0 dX5_flashes_4 rfl ?_
  refine g_aload_n h 2 dX5_flashes_5 rfl ?_
  refine q_5_places h hk tw_48 dX5_flashes_6 (fun v9 hv9 => ?_)
  refine g_icmp_ge (tgt := 30) h dX5_flashes_9 (by decide) (fun c10 => ?_) (fun c10 => ?_)
  · have hN11 : j1 = ((ω k 0).toNatClampNeg) := by subst hv9; exact lp_ge (Inv_6_0 iv8 hk).1 c10 hj7
    refine g_iload_n h 1 dX5_flashes_30 rfl ?_
    exact e_iret h iv8 dX5_flashes_31 (by subst hv9; rw [hN11]; rfl) rfl
  · have hlt12 : j1 < ((ω k 0).toNatClampNeg) := by subst hv9; exact lp_lt (Inv_6_0 iv8 hk).1 c10 hj7
    refine g_aload_n h 2 dX5_flashes_12 rfl ?_
    refine q_5_strengths h hk tw_51 dX5_flashes_13 ?_
    refine g_iload_n h 0 dX5_flashes_16 rfl ?_
    refine g_ia (q := 7) h (kr_2 hk) rfl (by decide) (vp_j (Inv_6_0 iv8 hk) rfl hlt12) dX5_flashes_17 (fun v13 hv13 => ?_)
    have hm24_19 : ∀ m18 : Int32, m18 = (if v13 ≤ 0 then f_fl ω k j1 else ((f_fl ω k j1) + 1)) → Vg X (MQ (xb X) (fQ G F (fP F G (some (.int (f_flashes ω k))) ω)) (xa X) (xs X) 0 0 (fA F)) G F 3 NC (cel F G ω) 0 0 24 [(2, .int (nI j1)), (1, .int m18), (0, .ref (F + k))] [] := by
      intro m18 hm18
      obtain ⟨v20, hv20⟩ : ∃ z : Int32, z = (nI j1) + 1 := ⟨_, rfl⟩
      refine g_iinc (v := v20) (loc2 := [(2, .int v20), (1, .int m18), (0, .ref (F + k))]) h 0 dX5_flashes_24 rfl (by rw [hv20]; rfl) (by decide) rfl ?_
      refine g_goto (tgt := 4) h dX5_flashes_27 (by decide) ?_
      have e21 : v20 = nI (j1 + 1) := by subst hv20 hm18 hv13 hv9; first | rfl | exact nI_1 _ | (rw [nI_succ])
      have e22 : m18 = f_fl ω k (j1 + 1) := by subst hv20 hm18 hv13 hv9; rw [nI_clamp (Nat.lt_trans hlt12 (tn_lt _))]; rfl
      exact g_lt rfl (lc_i e21 (lc_i e22 rfl)) rfl (ih6 hlt12 iv8)
    refine g_if_le (tgt := 24) h dX5_flashes_18 (by decide) (fun c14 => ?_) (fun c14 => ?_)
    · exact hm24_19 _ (by subst hv13 hv9; rw [if_pos c14])
    · obtain ⟨v16, hv16⟩ : ∃ z : Int32, z = (f_fl ω k j1) + 1 := ⟨_, rfl⟩
      refine g_iinc (v := v16) (loc2 := [(1, .int v16), (2, .int (nI j1)), (0, .ref (F + k))]) h 1 dX5_flashes_21 rfl (by rw [hv16]; rfl) (by decide) rfl ?_
      refine g_loc [1, 0, 2] rfl ?_
      exact hm24_19 _ (by subst hv16 hv13 hv9; rw [if_neg c14])
set_option maxHeartbeats 4000000 in
set_option maxRecDepth 100000 in
theorem tX5_strengthInAll (l0 : Launch) (G : fG) (F : Nat) (ω : fOm) (hI : Inv ω) (k : Nat) (hk : kd k = 6) : CT l0 G F yX5_strengthInAll cX5_strengthInAll 3 (some .int) 0 [.ref (F + k)] ω (some (.int (f_strengths ω k))) ω := by
  refine ct_met (own := RX5) (by decide +kernel) rfl (Nat.le_of_ble_eq_true rfl) (fun X hXl hX h => ?_)
  subst hXl
  refine g_iconst (v := 0) h dX5_strengthInAll_0 (by decide) ?_
  refine g_istore_n (loc2 := [(1, .int 0), (0, .ref (F + k))]) h dX5_strengthInAll_1 (by decide) rfl ?_
  refine g_iconst (v := 0) h dX5_strengthInAll_2 (by decide) ?_
  refine g_istore_n (loc2 := [(2, .int 0), (1, .int 0), (0, .ref (F + k))]) h dX5_strengthInAll_3 (by decide) rfl ?_
  have e2 : 0 = nI 0 := by skip; first | rfl | exact nI_0.symm | exact nI_0 | decide
  have e3 : 0 = f_sm ω k 0 := by skip; first | rfl | exact nI_0.symm | exact nI_0 | decide
  refine g_lt (ω2 := ω) (loc2 := [(2, .int (nI 0)), (1, .int (f_sm ω k 0)), (0, .ref (F + k))]) rfl (lc_i e2 (lc_i e3 rfl)) rfl ?_
  refine g_loop3 (hd := 4) ((ω k 0).toNatClampNeg) (fun j1 => Inv ω) (fun j1 => [(2, .int (nI j1)), (1, .int (f_sm ω k j1)), (0, .ref (F + k))]) (fun j1 => cel F G ω) hI (fun j1 hj7 hP5 ih6 => ?_)
  (try dsimp only)
  have iv8 := hP5
  refine g_iload_n h 0 dX5_strengthInAll_4 rfl ?_
  refine g_aload_n h 2 dX5_strengthInAll_5 rfl ?_
  refine q_5_places h hk tw_48 dX5_strengthInAll_6 (fun v9 hv9 => ?_)
  refine g_icmp_ge (tgt := 27) h dX5_strengthInAll_9 (by decide) (fun c10 => ?_) (fun c10 => ?_)
  · have hN11 : j1 = ((ω k 0).toNatClampNeg) := by subst hv9; exact lp_ge (Inv_6_0 iv8 hk).1 c10 hj7
    refine g_iload_n h 1 dX5_strengthInAll_27 rfl ?_
    exact e_iret h iv8 dX5_strengthInAll_28 (by subst hv9; rw [hN11]; rfl) rfl
  · have hlt12 : j1 < ((ω k 0).toNatClampNeg) := by subst hv9; exact lp_lt (Inv_6_0 iv8 hk).1 c10 hj7
    refine g_iload_n h 1 dX5_strengthInAll_12 rfl ?_
    refine g_aload_n h 2 dX5_strengthInAll_13 rfl ?_
    refine q_5_strengths h hk tw_51 dX5_strengthInAll_14 ?_
    refine g_iload_n h 0 dX5_strengthInAll_17 rfl ?_
    refine g_ia (q := 7) h (kr_2 hk) rfl (by decide) (vp_j (Inv_6_0 iv8 hk) rfl hlt12) dX5_strengthInAll_18 (fun v13 hv13 => ?_)
    refine g_iadd h dX5_strengthInAll_19 (g_name fun v14 hv14 => ?_)
    refine g_istore_n (loc2 := [(1, .int v14), (2, .int (nI j1)), (0, .ref (F + k))]) h dX5_strengthInAll_20 (by decide) rfl ?_
    obtain ⟨v15, hv15⟩ : ∃ z : Int32, z = (nI j1) + 1 := ⟨_, rfl⟩
    refine g_iinc (v := v15) (loc2 := [(2, .int v15), (1, .int v14), (0, .ref (F + k))]) h 1 dX5_strengthInAll_21 rfl (by rw [hv15]; rfl) (by decide) rfl ?_
    refine g_goto (tgt := 4) h dX5_strengthInAll_24 (by decide) ?_
    have e16 : v15 = nI (j1 + 1) := by subst hv15 hv14 hv13 hv9; first | rfl | exact nI_1 _ | (rw [nI_succ])
    have e17 : v14 = f_sm ω k (j1 + 1) := by subst hv15 hv14 hv13 hv9; rw [nI_clamp (Nat.lt_trans hlt12 (tn_lt _))]; rfl
    exact g_lt rfl (lc_i e16 (lc_i e17 rfl)) rfl (ih6 hlt12 iv8)
set_option maxHeartbeats 4000000 in
set_option maxRecDepth 100000 in
theorem tX5_faintest (l0 : Launch) (G : fG) (F : Nat) (ω : fOm) (hI : Inv ω) (k : Nat) (hk : kd k = 6) : CT l0 G F yX5_faintest cX5_faintest 4 (some .int) 0 [.ref (F + k)] ω (some (.int (f_faintest ω k))) ω := by
  refine ct_met (own := RX5) (by decide +kernel) rfl (Nat.le_of_ble_eq_true rfl) (fun X hXl hX h => ?_)
  subst hXl
  refine g_iconst (v := 0) h dX5_faintest_0 (by decide) ?_
  refine g_istore_n (loc2 := [(1, .int 0), (0, .ref (F + k))]) h dX5_faintest_1 (by decide) rfl ?_
  refine g_iconst (v := 0) h dX5_faintest_2 (by decide) ?_
  refine g_istore_n (loc2 := [(2, .int 0), (1, .int 0), (0, .ref (F + k))]) h dX5_faintest_3 (by decide) rfl ?_
  have e2 : 0 = nI 0 := by skip; first | rfl | exact nI_0.symm | exact nI_0 | decide
  have e3 : 0 = f_fa ω k 0 := by skip; first | rfl | exact nI_0.symm | exact nI_0 | decide
  refine g_lt (ω2 := ω) (loc2 := [(2, .int (nI 0)), (1, .int (f_fa ω k 0)), (0, .ref (F + k))]) rfl (lc_i e2 (lc_i e3 rfl)) rfl ?_
  refine g_loop3 (hd := 4) ((ω k 0).toNatClampNeg) (fun j1 => Inv ω) (fun j1 => [(2, .int (nI j1)), (1, .int (f_fa ω k j1)), (0, .ref (F + k))]) (fun j1 => cel F G ω) hI (fun j1 hj7 hP5 ih6 => ?_)
  (try dsimp only)
  have iv8 := hP5
  refine g_iload_n h 0 dX5_faintest_4 rfl ?_
  refine g_aload_n h 2 dX5_faintest_5 rfl ?_
  refine q_5_places h hk tw_48 dX5_faintest_6 (fun v9 hv9 => ?_)
  refine g_icmp_ge (tgt := 40) h dX5_faintest_9 (by decide) (fun c10 => ?_) (fun c10 => ?_)
  · have hN11 : j1 = ((ω k 0).toNatClampNeg) := by subst hv9; exact lp_ge (Inv_6_0 iv8 hk).1 c10 hj7
    refine g_iload_n h 1 dX5_faintest_40 rfl ?_
    exact e_iret h iv8 dX5_faintest_41 (by subst hv9; rw [hN11]; rfl) rfl
  · have hlt12 : j1 < ((ω k 0).toNatClampNeg) := by subst hv9; exact lp_lt (Inv_6_0 iv8 hk).1 c10 hj7
    refine g_aload_n h 2 dX5_faintest_12 rfl ?_
    refine q_5_strengths h hk tw_51 dX5_faintest_13 ?_
    refine g_iload_n h 0 dX5_faintest_16 rfl ?_
    refine g_ia (q := 7) h (kr_2 hk) rfl (by decide) (vp_j (Inv_6_0 iv8 hk) rfl hlt12) dX5_faintest_17 (fun v13 hv13 => ?_)
    refine g_istore_n (loc2 := [(3, .int v13), (2, .int (nI j1)), (1, .int (f_fa ω k j1)), (0, .ref (F + k))]) h dX5_faintest_18 (by decide) rfl ?_
    refine g_iload_n h 0 dX5_faintest_19 rfl ?_
    have hm34_22 : ∀ m21 : Int32, m21 = (if v13 ≤ 0 then f_fa ω k j1 else (if (f_fa ω k j1) = 0 then v13 else (if (f_fa ω k j1) ≤ v13 then f_fa ω k j1 else v13))) → Vg X (MQ (xb X) (fQ G F (fP F G (some (.int (f_faintest ω k))) ω)) (xa X) (xs X) 0 0 (fA F)) G F 4 NC (cel F G ω) 0 0 34 [(3, .int v13), (2, .int (nI j1)), (1, .int m21), (0, .ref (F + k))] [] := by
      intro m21 hm21
      obtain ⟨v23, hv23⟩ : ∃ z : Int32, z = (nI j1) + 1 := ⟨_, rfl⟩
      refine g_iinc (v := v23) (loc2 := [(2, .int v23), (3, .int v13), (1, .int m21), (0, .ref (F + k))]) h 1 dX5_faintest_34 rfl (by rw [hv23]; rfl) (by decide) rfl ?_
      refine g_goto (tgt := 4) h dX5_faintest_37 (by decide) ?_
      refine g_loc [0, 2, 3] rfl ?_
      have e24 : v23 = nI (j1 + 1) := by subst hv23 hm21 hv13 hv9; first | rfl | exact nI_1 _ | (rw [nI_succ])
      have e25 : m21 = f_fa ω k (j1 + 1) := by subst hv23 hm21 hv13 hv9; rw [nI_clamp (Nat.lt_trans hlt12 (tn_lt _))]; rfl
      exact g_lt rfl (lc_i e24 (lc_i e25 rfl)) rfl (ih6 hlt12 iv8)
    refine g_if_le (tgt := 34) h dX5_faintest_20 (by decide) (fun c14 => ?_) (fun c14 => ?_)
    · exact hm34_22 _ (by subst hv13 hv9; rw [if_pos c14])
    · refine g_iload_n h 2 dX5_faintest_23 rfl ?_
      refine g_if_eq (tgt := 32) h dX5_faintest_24 (by decide) (fun c16 => ?_) (fun c16 => ?_)
      · refine g_iload_n h 0 dX5_faintest_32 rfl ?_
        refine g_istore_n (loc2 := [(1, .int v13), (3, .int v13), (2, .int (nI j1)), (0, .ref (F + k))]) h dX5_faintest_33 (by decide) rfl ?_
        refine g_loc [1, 2, 0, 3] rfl ?_
        exact hm34_22 _ (by subst hv13 hv9; rw [if_neg c14, if_pos c16])
      · refine g_iload_n h 0 dX5_faintest_27 rfl ?_
        refine g_iload_n h 2 dX5_faintest_28 rfl ?_
        refine g_icmp_ge (tgt := 34) h dX5_faintest_29 (by decide) (fun c18 => ?_) (fun c18 => ?_)
        · exact hm34_22 _ (by subst hv13 hv9; rw [if_neg c14, if_neg c16, if_pos c18])
        · refine g_iload_n h 0 dX5_faintest_32 rfl ?_
          refine g_istore_n (loc2 := [(1, .int v13), (3, .int v13), (2, .int (nI j1)), (0, .ref (F + k))]) h dX5_faintest_33 (by decide) rfl ?_
          refine g_loc [1, 2, 0, 3] rfl ?_
          exact hm34_22 _ (by subst hv13 hv9; rw [if_neg c14, if_neg c16, if_neg c18])
set_option maxHeartbeats 4000000 in
set_option maxRecDepth 100000 in
theorem tX5_fade (l0 : Launch) (G : fG) (F : Nat) (ω : fOm) (hI : Inv ω) (k : Nat) (hk : kd k = 6) (p : Int32) (by_ : Int32) : CT l0 G F yX5_fade cX5_fade 3 none 1 [.ref (F + k), .int p, .int by_] ω none (f_fade ω k p by_) := by
  refine ct_met (own := RX5) (by decide +kernel) rfl (Nat.le_of_ble_eq_true rfl) (fun X hXl hX h => ?_)
  subst hXl
  refine g_aload_n h 0 dX5_fade_0 rfl ?_
  refine g_iload_n h 1 dX5_fade_1 rfl ?_
  refine k_V_i (st := []) h hX (tX5_has (xl X) G F ω hI k hk p) rfl ⟨kd_lt hk, ob_6 hk⟩ rfl miX5_has tw_394 (by decide) (by decide) rfl (Nat.le_of_ble_eq_true rfl) (by rw [hX]; exact Nat.zero_le _) (by rw [hX]; exact Nat.zero_le _) dX5_fade_2 (fun v1 hv1 => ?_)
  refine g_if_ne (tgt := 9) h dX5_fade_5 (by decide) (fun c2 => ?_) (fun c2 => ?_)
  · refine g_aload_n h 0 dX5_fade_9 rfl ?_
    refine q_5_strengths h hk tw_51 dX5_fade_10 ?_
    refine g_iload_n h 1 dX5_fade_13 rfl ?_
    refine g_dup2 h dX5_fade_14 rfl rfl ?_
    refine g_ia (q := 7) h (kr_2 hk) rfl (by decide) (by subst hv1; exact has_in c2 (Inv_6_0 hI hk) rfl) dX5_fade_15 (fun v3 hv3 => ?_)
    refine g_iload_n h 2 dX5_fade_16 rfl ?_
    refine g_isub h dX5_fade_17 (g_name fun v4 hv4 => ?_)
    refine g_is (q := 7) h hI (kr_2 hk) rfl (by decide) (by subst hv4 hv3 hv1; exact has_in c2 (Inv_6_0 hI hk) rfl) dX5_fade_18 (fun w5 hw5 iw5 => ?_)
    refine g_aload_n h 0 dX5_fade_19 rfl ?_
    refine q_5_strengths h hk tw_51 dX5_fade_20 ?_
    refine g_iload_n h 1 dX5_fade_23 rfl ?_
    refine g_ia (q := 7) h (kr_2 hk) rfl (by decide) (by subst hw5 hv4 hv3 hv1; exact has_in c2 (Inv_6_0 hI hk) rfl) dX5_fade_24 (fun v6 hv6 => ?_)
    refine g_if_gt (tgt := 45) h dX5_fade_25 (by decide) (fun c7 => ?_) (fun c7 => ?_)
    · exact e_vret h iw5 dX5_fade_45 (by subst hv6 hw5 hv4 hv3 hv1; first | rfl | contradiction | (unfold f_fade; simp only [c2, c7, ↓reduceIte] <;> rfl) | (unfold f_fade; simp [c2, c7]; done))
    · refine g_aload_n h 0 dX5_fade_28 rfl ?_
      refine q_5_strengths h hk tw_51 dX5_fade_29 ?_
      refine g_iload_n h 1 dX5_fade_32 rfl ?_
      refine g_iconst (v := 0) h dX5_fade_33 (by decide) ?_
      refine g_is (q := 7) h iw5 (kr_2 hk) rfl (by decide) (by subst hv6 hw5 hv4 hv3 hv1; exact has_in c2 (Inv_6_0 hI hk) rfl) dX5_fade_34 (fun w8 hw8 iw8 => ?_)
      refine g_aload_n h 0 dX5_fade_35 rfl ?_
      refine q_5_tallies h hk tw_53 dX5_fade_36 ?_
      refine g_iconst (v := 1) h dX5_fade_39 (by decide) ?_
      refine g_dup2 h dX5_fade_40 rfl rfl ?_
      refine g_ia (q := 8) h (kr_4 hk) rfl (by decide) (vp_n (j := 1) (Nat.le_of_ble_eq_true rfl) (Nat.le_of_ble_eq_true rfl)) dX5_fade_41 (fun v9 hv9 => ?_)
      refine g_iconst (v := 1) h dX5_fade_42 (by decide) ?_
      refine g_iadd h dX5_fade_43 (g_name fun v10 hv10 => ?_)
      refine g_is (q := 8) h iw8 (kr_4 hk) rfl (by decide) (vp_n (j := 1) (Nat.le_of_ble_eq_true rfl) (Nat.le_of_ble_eq_true rfl)) dX5_fade_44 (fun w11 hw11 iw11 => ?_)
      exact e_vret h iw11 dX5_fade_45 (by subst hw11 hv10 hv9 hw8 hv6 hw5 hv4 hv3 hv1; first | rfl | contradiction | (unfold f_fade; simp only [c2, c7, ↓reduceIte] <;> rfl) | (unfold f_fade; simp [c2, c7]; done))
  · exact e_vret h hI dX5_fade_8 (by subst hv1; first | rfl | contradiction | (unfold f_fade; simp only [c2, ↓reduceIte] <;> rfl) | (unfold f_fade; simp [c2]; done))
set_option maxHeartbeats 4000000 in
set_option maxRecDepth 100000 in
theorem tX5_strengthen (l0 : Launch) (G : fG) (F : Nat) (ω : fOm) (hI : Inv ω) (k : Nat) (hk : kd k = 6) (p : Int32) (by_ : Int32) : CT l0 G F yX5_strengthen cX5_strengthen 3 none 1 [.ref (F + k), .int p, .int by_] ω none (f_strengthen ω k p by_) := by
  refine ct_met (own := RX5) (by decide +kernel) rfl (Nat.le_of_ble_eq_true rfl) (fun X hXl hX h => ?_)
  subst hXl
  refine g_aload_n h 0 dX5_strengthen_0 rfl ?_
  refine g_iload_n h 1 dX5_strengthen_1 rfl ?_
  refine k_V_i (st := []) h hX (tX5_has (xl X) G F ω hI k hk p) rfl ⟨kd_lt hk, ob_6 hk⟩ rfl miX5_has tw_394 (by decide) (by decide) rfl (Nat.le_of_ble_eq_true rfl) (by rw [hX]; exact Nat.zero_le _) (by rw [hX]; exact Nat.zero_le _) dX5_strengthen_2 (fun v1 hv1 => ?_)
  refine g_if_eq (tgt := 18) h dX5_strengthen_5 (by decide) (fun c2 => ?_) (fun c2 => ?_)
  · exact e_vret h hI dX5_strengthen_18 (by subst hv1; first | rfl | contradiction | (unfold f_strengthen; simp only [c2, ↓reduceIte] <;> rfl) | (unfold f_strengthen; simp [c2]; done))
  · refine g_aload_n h 0 dX5_strengthen_8 rfl ?_
    refine q_5_strengths h hk tw_51 dX5_strengthen_9 ?_
    refine g_iload_n h 1 dX5_strengthen_12 rfl ?_
    refine g_dup2 h dX5_strengthen_13 rfl rfl ?_
    refine g_ia (q := 7) h (kr_2 hk) rfl (by decide) (by subst hv1; exact has_in c2 (Inv_6_0 hI hk) rfl) dX5_strengthen_14 (fun v3 hv3 => ?_)
    refine g_iload_n h 2 dX5_strengthen_15 rfl ?_
    refine g_iadd h dX5_strengthen_16 (g_name fun v4 hv4 => ?_)
    refine g_is (q := 7) h hI (kr_2 hk) rfl (by decide) (by subst hv4 hv3 hv1; exact has_in c2 (Inv_6_0 hI hk) rfl) dX5_strengthen_17 (fun w5 hw5 iw5 => ?_)
    exact e_vret h iw5 dX5_strengthen_18 (by subst hw5 hv4 hv3 hv1; first | rfl | contradiction | (unfold f_strengthen; simp only [c2, ↓reduceIte] <;> rfl) | (unfold f_strengthen; simp [c2]; done))
set_option maxHeartbeats 4000000 in
set_option maxRecDepth 100000 in
theorem tX5_changeValue (l0 : Launch) (G : fG) (F : Nat) (ω : fOm) (hI : Inv ω) (k : Nat) (hk : kd k = 6) (p : Int32) (v : Int32) : CT l0 G F yX5_changeValue cX5_changeValue 3 none 1 [.ref (F + k), .int p, .int v] ω none (f_changeValue ω k p v) := by
  refine ct_met (own := RX5) (by decide +kernel) rfl (Nat.le_of_ble_eq_true rfl) (fun X hXl hX h => ?_)
  subst hXl
  refine g_aload_n h 0 dX5_changeValue_0 rfl ?_
  refine g_iload_n h 1 dX5_changeValue_1 rfl ?_
  refine k_V_i (st := []) h hX (tX5_has (xl X) G F ω hI k hk p) rfl ⟨kd_lt hk, ob_6 hk⟩ rfl miX5_has tw_394 (by decide) (by decide) rfl (Nat.le_of_ble_eq_true rfl) (by rw [hX]; exact Nat.zero_le _) (by rw [hX]; exact Nat.zero_le _) dX5_changeValue_2 (fun v1 hv1 => ?_)
  refine g_if_eq (tgt := 15) h dX5_changeValue_5 (by decide) (fun c2 => ?_) (fun c2 => ?_)
  · exact e_vret h hI dX5_changeValue_15 (by subst hv1; first | rfl | contradiction | (unfold f_changeValue; simp only [c2, ↓reduceIte] <;> rfl) | (unfold f_changeValue; simp [c2]; done))
  · refine g_aload_n h 0 dX5_changeValue_8 rfl ?_
    refine q_5_values h hk tw_50 dX5_changeValue_9 ?_
    refine g_iload_n h 1 dX5_changeValue_12 rfl ?_
    refine g_iload_n h 2 dX5_changeValue_13 rfl ?_
    refine g_is (q := 7) h hI (kr_1 hk) rfl (by decide) (by subst hv1; exact has_in c2 (Inv_6_0 hI hk) rfl) dX5_changeValue_14 (fun w3 hw3 iw3 => ?_)
    exact e_vret h iw3 dX5_changeValue_15 (by subst hw3 hv1; first | rfl | contradiction | (unfold f_changeValue; simp only [c2, ↓reduceIte] <;> rfl) | (unfold f_changeValue; simp [c2]; done))
set_option maxHeartbeats 4000000 in
set_option maxRecDepth 100000 in
theorem tX5_putIn (l0 : Launch) (G : fG) (F : Nat) (ω : fOm) (hI : Inv ω) (k : Nat) (hk : kd k = 6) (p : Int32) (v : Int32) (s : Int32) (t : Int32) : CT l0 G F yX5_putIn cX5_putIn 5 none 1 [.ref (F + k), .int p, .int v, .int s, .int t] ω none (f_putIn ω k p v s t) := by
  refine ct_met (own := RX5) (by decide +kernel) rfl (Nat.le_of_ble_eq_true rfl) (fun X hXl hX h => ?_)
  subst hXl
  refine g_aload_n h 0 dX5_putIn_0 rfl ?_
  refine g_iload_n h 1 dX5_putIn_1 rfl ?_
  refine k_V_i (st := []) h hX (tX5_has (xl X) G F ω hI k hk p) rfl ⟨kd_lt hk, ob_6 hk⟩ rfl miX5_has tw_394 (by decide) (by decide) rfl (Nat.le_of_ble_eq_true rfl) (by rw [hX]; exact Nat.zero_le _) (by rw [hX]; exact Nat.zero_le _) dX5_putIn_2 (fun v1 hv1 => ?_)
  refine g_if_eq (tgt := 40) h dX5_putIn_5 (by decide) (fun c2 => ?_) (fun c2 => ?_)
  · exact e_vret h hI dX5_putIn_40 (by subst hv1; first | rfl | contradiction | (unfold f_putIn; simp only [c2, ↓reduceIte] <;> rfl) | (unfold f_putIn; simp [c2]; done))
  · refine g_aload_n h 0 dX5_putIn_8 rfl ?_
    refine q_5_values h hk tw_50 dX5_putIn_9 ?_
    refine g_iload_n h 1 dX5_putIn_12 rfl ?_
    refine g_iload_n h 2 dX5_putIn_13 rfl ?_
    refine g_is (q := 7) h hI (kr_1 hk) rfl (by decide) (by subst hv1; exact has_in c2 (Inv_6_0 hI hk) rfl) dX5_putIn_14 (fun w3 hw3 iw3 => ?_)
    refine g_aload_n h 0 dX5_putIn_15 rfl ?_
    refine q_5_strengths h hk tw_51 dX5_putIn_16 ?_
    refine g_iload_n h 1 dX5_putIn_19 rfl ?_
    refine g_iload_n h 3 dX5_putIn_20 rfl ?_
    refine g_is (q := 7) h iw3 (kr_2 hk) rfl (by decide) (by subst hw3 hv1; exact has_in c2 (Inv_6_0 hI hk) rfl) dX5_putIn_21 (fun w4 hw4 iw4 => ?_)
    refine g_aload_n h 0 dX5_putIn_22 rfl ?_
    refine q_5_births h hk tw_52 dX5_putIn_23 ?_
    refine g_iload_n h 1 dX5_putIn_26 rfl ?_
    refine g_iload h 4 dX5_putIn_27 rfl ?_
    refine g_is (q := 7) h iw4 (kr_3 hk) rfl (by decide) (by subst hw4 hw3 hv1; exact has_in c2 (Inv_6_0 hI hk) rfl) dX5_putIn_29 (fun w5 hw5 iw5 => ?_)
    refine g_aload_n h 0 dX5_putIn_30 rfl ?_
    refine q_5_tallies h hk tw_53 dX5_putIn_31 ?_
    refine g_iconst (v := 0) h dX5_putIn_34 (by decide) ?_
    refine g_dup2 h dX5_putIn_35 rfl rfl ?_
    refine g_ia (q := 8) h (kr_4 hk) rfl (by decide) (vp_n (j := 0) (Nat.le_of_ble_eq_true rfl) (Nat.le_of_ble_eq_true rfl)) dX5_putIn_36 (fun v6 hv6 => ?_)
    refine g_iconst (v := 1) h dX5_putIn_37 (by decide) ?_
    refine g_iadd h dX5_putIn_38 (g_name fun v7 hv7 => ?_)
    refine g_is (q := 8) h iw5 (kr_4 hk) rfl (by decide) (vp_n (j := 0) (Nat.le_of_ble_eq_true rfl) (Nat.le_of_ble_eq_true rfl)) dX5_putIn_39 (fun w8 hw8 iw8 => ?_)
    exact e_vret h iw8 dX5_putIn_40 (by subst hw8 hv7 hv6 hw5 hw4 hw3 hv1; first | rfl | contradiction | (unfold f_putIn; simp only [c2, ↓reduceIte] <;> rfl) | (unfold f_putIn; simp [c2]; done))
set_option maxHeartbeats 4000000 in
set_option maxRecDepth 100000 in
theorem tX5_drop (l0 : Launch) (G : fG) (F : Nat) (ω : fOm) (hI : Inv ω) (k : Nat) (hk : kd k = 6) (p : Int32) : CT l0 G F yX5_drop cX5_drop 2 none 1 [.ref (F + k), .int p] ω none (f_drop ω k p) := by
  refine ct_met (own := RX5) (by decide +kernel) rfl (Nat.le_of_ble_eq_true rfl) (fun X hXl hX h => ?_)
  subst hXl
  refine g_aload_n h 0 dX5_drop_0 rfl ?_
  refine g_iload_n h 1 dX5_drop_1 rfl ?_
  refine k_V_i (st := []) h hX (tX5_has (xl X) G F ω hI k hk p) rfl ⟨kd_lt hk, ob_6 hk⟩ rfl miX5_has tw_394 (by decide) (by decide) rfl (Nat.le_of_ble_eq_true rfl) (by rw [hX]; exact Nat.zero_le _) (by rw [hX]; exact Nat.zero_le _) dX5_drop_2 (fun v1 hv1 => ?_)
  refine g_if_eq (tgt := 25) h dX5_drop_5 (by decide) (fun c2 => ?_) (fun c2 => ?_)
  · exact e_vret h hI dX5_drop_25 (by subst hv1; first | rfl | contradiction | (unfold f_drop; simp only [c2, ↓reduceIte] <;> rfl) | (unfold f_drop; simp [c2]; done))
  · refine g_aload_n h 0 dX5_drop_8 rfl ?_
    refine q_5_strengths h hk tw_51 dX5_drop_9 ?_
    refine g_iload_n h 1 dX5_drop_12 rfl ?_
    refine g_iconst (v := 0) h dX5_drop_13 (by decide) ?_
    refine g_is (q := 7) h hI (kr_2 hk) rfl (by decide) (by subst hv1; exact has_in c2 (Inv_6_0 hI hk) rfl) dX5_drop_14 (fun w3 hw3 iw3 => ?_)
    refine g_aload_n h 0 dX5_drop_15 rfl ?_
    refine q_5_tallies h hk tw_53 dX5_drop_16 ?_
    refine g_iconst (v := 2) h dX5_drop_19 (by decide) ?_
    refine g_dup2 h dX5_drop_20 rfl rfl ?_
    refine g_ia (q := 8) h (kr_4 hk) rfl (by decide) (vp_n (j := 2) (Nat.le_of_ble_eq_true rfl) (Nat.le_of_ble_eq_true rfl)) dX5_drop_21 (fun v4 hv4 => ?_)
    refine g_iconst (v := 1) h dX5_drop_22 (by decide) ?_
    refine g_iadd h dX5_drop_23 (g_name fun v5 hv5 => ?_)
    refine g_is (q := 8) h iw3 (kr_4 hk) rfl (by decide) (vp_n (j := 2) (Nat.le_of_ble_eq_true rfl) (Nat.le_of_ble_eq_true rfl)) dX5_drop_24 (fun w6 hw6 iw6 => ?_)
    exact e_vret h iw6 dX5_drop_25 (by subst hw6 hv5 hv4 hw3 hv1; first | rfl | contradiction | (unfold f_drop; simp only [c2, ↓reduceIte] <;> rfl) | (unfold f_drop; simp [c2]; done))
set_option maxHeartbeats 4000000 in
set_option maxRecDepth 100000 in
theorem tX5_exchange (l0 : Launch) (G : fG) (F : Nat) (ω : fOm) (hI : Inv ω) (k : Nat) (hk : kd k = 6) (p : Int32) (k2 : Nat) (hk2 : kd k2 = 6) (p2 : Int32) : CT l0 G F yX5_exchange cX5_exchange 7 none 1 [.ref (F + k), .int p, .ref (F + k2), .int p2] ω none (f_exch ω k p k2 p2) := by
  refine ct_met (own := RX5) (by decide +kernel) rfl (Nat.le_of_ble_eq_true rfl) (fun X hXl hX h => ?_)
  subst hXl
  refine g_aload_n h 0 dX5_exchange_0 rfl ?_
  refine g_iload_n h 1 dX5_exchange_1 rfl ?_
  refine k_V_i (st := []) h hX (tX5_has (xl X) G F ω hI k hk p) rfl ⟨kd_lt hk, ob_6 hk⟩ rfl miX5_has tw_394 (by decide) (by decide) rfl (Nat.le_of_ble_eq_true rfl) (by rw [hX]; exact Nat.zero_le _) (by rw [hX]; exact Nat.zero_le _) dX5_exchange_2 (fun v1 hv1 => ?_)
  refine g_if_eq (tgt := 16) h dX5_exchange_5 (by decide) (fun c2 => ?_) (fun c2 => ?_)
  · exact e_vret h hI dX5_exchange_16 (by subst hv1; first | rfl | contradiction | (unfold f_exch; simp only [c2, ↓reduceIte] <;> rfl) | (unfold f_exch; simp [c2]; done))
  · refine g_aload_n h 2 dX5_exchange_8 rfl ?_
    refine g_iload_n h 3 dX5_exchange_9 rfl ?_
    refine k_V_i (st := []) h hX (tX5_has (xl X) G F ω hI k2 hk2 p2) rfl ⟨kd_lt hk2, ob_6 hk2⟩ rfl miX5_has tw_394 (by decide) (by decide) rfl (Nat.le_of_ble_eq_true rfl) (by rw [hX]; exact Nat.zero_le _) (by rw [hX]; exact Nat.zero_le _) dX5_exchange_10 (fun v3 hv3 => ?_)
    refine g_if_ne (tgt := 17) h dX5_exchange_13 (by decide) (fun c4 => ?_) (fun c4 => ?_)
    · refine g_aload_n h 0 dX5_exchange_17 rfl ?_
      refine q_5_values h hk tw_50 dX5_exchange_18 ?_
      refine g_iload_n h 1 dX5_exchange_21 rfl ?_
      refine g_ia (q := 7) h (kr_1 hk) rfl (by decide) (by subst hv3 hv1; exact has_in c2 (Inv_6_0 hI hk) rfl) dX5_exchange_22 (fun v5 hv5 => ?_)
      refine g_istore (loc2 := [(4, .int v5), (0, .ref (F + k)), (1, .int p), (2, .ref (F + k2)), (3, .int p2)]) h dX5_exchange_23 (by decide) rfl ?_
      refine g_aload_n h 1 dX5_exchange_25 rfl ?_
      refine q_5_strengths h hk tw_51 dX5_exchange_26 ?_
      refine g_iload_n h 2 dX5_exchange_29 rfl ?_
      refine g_ia (q := 7) h (kr_2 hk) rfl (by decide) (by subst hv5 hv3 hv1; exact has_in c2 (Inv_6_0 hI hk) rfl) dX5_exchange_30 (fun v6 hv6 => ?_)
      refine g_istore (loc2 := [(5, .int v6), (4, .int v5), (0, .ref (F + k)), (1, .int p), (2, .ref (F + k2)), (3, .int p2)]) h dX5_exchange_31 (by decide) rfl ?_
      refine g_aload_n h 2 dX5_exchange_33 rfl ?_
      refine q_5_births h hk tw_52 dX5_exchange_34 ?_
      refine g_iload_n h 3 dX5_exchange_37 rfl ?_
      refine g_ia (q := 7) h (kr_3 hk) rfl (by decide) (by subst hv6 hv5 hv3 hv1; exact has_in c2 (Inv_6_0 hI hk) rfl) dX5_exchange_38 (fun v7 hv7 => ?_)
      refine g_istore (loc2 := [(6, .int v7), (5, .int v6), (4, .int v5), (0, .ref (F + k)), (1, .int p), (2, .ref (F + k2)), (3, .int p2)]) h dX5_exchange_39 (by decide) rfl ?_
      refine g_aload_n h 3 dX5_exchange_41 rfl ?_
      refine q_5_values h hk tw_50 dX5_exchange_42 ?_
      refine g_iload_n h 4 dX5_exchange_45 rfl ?_
      refine g_aload_n h 5 dX5_exchange_46 rfl ?_
      refine q_5_values h hk2 tw_50 dX5_exchange_47 ?_
      refine g_iload_n h 6 dX5_exchange_50 rfl ?_
      refine g_ia (q := 7) h (kr_1 hk2) rfl (by decide) (by subst hv7 hv6 hv5 hv3 hv1; exact has_in c4 (Inv_6_0 hI hk2) rfl) dX5_exchange_51 (fun v8 hv8 => ?_)
      refine g_is (q := 7) h hI (kr_1 hk) rfl (by decide) (by subst hv8 hv7 hv6 hv5 hv3 hv1; exact has_in c2 (Inv_6_0 hI hk) rfl) dX5_exchange_52 (fun w9 hw9 iw9 => ?_)
      refine g_aload_n h 3 dX5_exchange_53 rfl ?_
      refine q_5_strengths h hk tw_51 dX5_exchange_54 ?_
      refine g_iload_n h 4 dX5_exchange_57 rfl ?_
      refine g_aload_n h 5 dX5_exchange_58 rfl ?_
      refine q_5_strengths h hk2 tw_51 dX5_exchange_59 ?_
      refine g_iload_n h 6 dX5_exchange_62 rfl ?_
      refine g_ia (q := 7) h (kr_2 hk2) rfl (by decide) (by subst hw9 hv8 hv7 hv6 hv5 hv3 hv1; exact has_in c4 (Inv_6_0 hI hk2) rfl) dX5_exchange_63 (fun v10 hv10 => ?_)
      refine g_is (q := 7) h iw9 (kr_2 hk) rfl (by decide) (by subst hv10 hw9 hv8 hv7 hv6 hv5 hv3 hv1; exact has_in c2 (Inv_6_0 hI hk) rfl) dX5_exchange_64 (fun w11 hw11 iw11 => ?_)
      refine g_aload_n h 3 dX5_exchange_65 rfl ?_
      refine q_5_births h hk tw_52 dX5_exchange_66 ?_
      refine g_iload_n h 4 dX5_exchange_69 rfl ?_
      refine g_aload_n h 5 dX5_exchange_70 rfl ?_
      refine q_5_births h hk2 tw_52 dX5_exchange_71 ?_
      refine g_iload_n h 6 dX5_exchange_74 rfl ?_
      refine g_ia (q := 7) h (kr_3 hk2) rfl (by decide) (by subst hw11 hv10 hw9 hv8 hv7 hv6 hv5 hv3 hv1; exact has_in c4 (Inv_6_0 hI hk2) rfl) dX5_exchange_75 (fun v12 hv12 => ?_)
      refine g_is (q := 7) h iw11 (kr_3 hk) rfl (by decide) (by subst hv12 hw11 hv10 hw9 hv8 hv7 hv6 hv5 hv3 hv1; exact has_in c2 (Inv_6_0 hI hk) rfl) dX5_exchange_76 (fun w13 hw13 iw13 => ?_)
      refine g_aload_n h 5 dX5_exchange_77 rfl ?_
      refine q_5_values h hk2 tw_50 dX5_exchange_78 ?_
      refine g_iload_n h 6 dX5_exchange_81 rfl ?_
      refine g_iload h 2 dX5_exchange_82 rfl ?_
      refine g_is (q := 7) h iw13 (kr_1 hk2) rfl (by decide) (by subst hw13 hv12 hw11 hv10 hw9 hv8 hv7 hv6 hv5 hv3 hv1; exact has_in c4 (Inv_6_0 hI hk2) rfl) dX5_exchange_84 (fun w14 hw14 iw14 => ?_)
      refine g_aload_n h 5 dX5_exchange_85 rfl ?_
      refine q_5_strengths h hk2 tw_51 dX5_exchange_86 ?_
      refine g_iload_n h 6 dX5_exchange_89 rfl ?_
      refine g_iload h 1 dX5_exchange_90 rfl ?_
      refine g_is (q := 7) h iw14 (kr_2 hk2) rfl (by decide) (by subst hw14 hw13 hv12 hw11 hv10 hw9 hv8 hv7 hv6 hv5 hv3 hv1; exact has_in c4 (Inv_6_0 hI hk2) rfl) dX5_exchange_92 (fun w15 hw15 iw15 => ?_)
      refine g_aload_n h 5 dX5_exchange_93 rfl ?_
      refine q_5_births h hk2 tw_52 dX5_exchange_94 ?_
      refine g_iload_n h 6 dX5_exchange_97 rfl ?_
      refine g_iload h 0 dX5_exchange_98 rfl ?_
      refine g_is (q := 7) h iw15 (kr_3 hk2) rfl (by decide) (by subst hw15 hw14 hw13 hv12 hw11 hv10 hw9 hv8 hv7 hv6 hv5 hv3 hv1; exact has_in c4 (Inv_6_0 hI hk2) rfl) dX5_exchange_100 (fun w16 hw16 iw16 => ?_)
      exact e_vret h iw16 dX5_exchange_101 (by subst hw16 hw15 hw14 hw13 hv12 hw11 hv10 hw9 hv8 hv7 hv6 hv5 hv3 hv1; first | rfl | contradiction | (unfold f_exch; simp only [c2, c4, ↓reduceIte] <;> rfl) | (unfold f_exch; simp [c2, c4]; done))
    · exact e_vret h hI dX5_exchange_16 (by subst hv3 hv1; first | rfl | contradiction | (unfold f_exch; simp only [c2, c4, ↓reduceIte] <;> rfl) | (unfold f_exch; simp [c2, c4]; done))
set_option maxHeartbeats 4000000 in
set_option maxRecDepth 100000 in
theorem tX5_tellCrossing (l0 : Launch) (G : fG) (F : Nat) (ω : fOm) (hI : Inv ω) (k : Nat) (hk : kd k = 6) (k2 : Nat) (hk2 : kd k2 = 6) : CT l0 G F yX5_tellCrossing cX5_tellCrossing 2 none 0 [.ref (F + k), .ref (F + k2)] ω none (f_tell ω k k2) := by
  refine ct_met (own := RX5) (by decide +kernel) rfl (Nat.le_of_ble_eq_true rfl) (fun X hXl hX h => ?_)
  subst hXl
  refine g_aload_n h 0 dX5_tellCrossing_0 rfl ?_
  refine q_5_tallies h hk tw_53 dX5_tellCrossing_1 ?_
  refine g_iconst (v := 4) h dX5_tellCrossing_4 (by decide) ?_
  refine g_dup2 h dX5_tellCrossing_5 rfl rfl ?_
  refine g_ia (q := 8) h (kr_4 hk) rfl (by decide) (vp_n (j := 4) (Nat.le_of_ble_eq_true rfl) (Nat.le_of_ble_eq_true rfl)) dX5_tellCrossing_6 (fun v1 hv1 => ?_)
  refine g_iconst (v := 1) h dX5_tellCrossing_7 (by decide) ?_
  refine g_iadd h dX5_tellCrossing_8 (g_name fun v2 hv2 => ?_)
  refine g_is (q := 8) h hI (kr_4 hk) rfl (by decide) (vp_n (j := 4) (Nat.le_of_ble_eq_true rfl) (Nat.le_of_ble_eq_true rfl)) dX5_tellCrossing_9 (fun w3 hw3 iw3 => ?_)
  refine g_aload_n h 1 dX5_tellCrossing_10 rfl ?_
  refine q_5_tallies h hk2 tw_53 dX5_tellCrossing_11 ?_
  refine g_iconst (v := 3) h dX5_tellCrossing_14 (by decide) ?_
  refine g_dup2 h dX5_tellCrossing_15 rfl rfl ?_
  refine g_ia (q := 8) h (kr_4 hk2) rfl (by decide) (vp_n (j := 3) (Nat.le_of_ble_eq_true rfl) (Nat.le_of_ble_eq_true rfl)) dX5_tellCrossing_16 (fun v4 hv4 => ?_)
  refine g_iconst (v := 1) h dX5_tellCrossing_17 (by decide) ?_
  refine g_iadd h dX5_tellCrossing_18 (g_name fun v5 hv5 => ?_)
  refine g_is (q := 8) h iw3 (kr_4 hk2) rfl (by decide) (vp_n (j := 3) (Nat.le_of_ble_eq_true rfl) (Nat.le_of_ble_eq_true rfl)) dX5_tellCrossing_19 (fun w6 hw6 iw6 => ?_)
  exact e_vret h iw6 dX5_tellCrossing_20 (by subst hw6 hv5 hv4 hw3 hv2 hv1; first | rfl | contradiction | (simp only [↓reduceIte] <;> rfl) | (simp []; done))
set_option maxHeartbeats 4000000 in
set_option maxRecDepth 100000 in
theorem tX5_begin (l0 : Launch) (G : fG) (F : Nat) (ω : fOm) (hI : Inv ω) (k : Nat) (hk : kd k = 6) (pl : Int32) (hpl : 0 ≤ pl ∧ pl ≤ 32) : CT l0 G F yX5_begin cX5_begin 3 none 0 [.ref (F + k), .int pl] ω none (f_begin ω k pl) := by
  refine ct_met (own := RX5) (by decide +kernel) rfl (Nat.le_of_ble_eq_true rfl) (fun X hXl hX h => ?_)
  subst hXl
  refine g_aload_n h 0 dX5_begin_0 rfl ?_
  refine g_iload_n h 1 dX5_begin_1 rfl ?_
  refine p_5_places h hI hk (okv_6_0 hpl.1 hpl.2) tw_48 dX5_begin_2 (fun w1 hw1 iw1 => ?_)
  refine g_iconst (v := 0) h dX5_begin_5 (by decide) ?_
  refine g_istore_n (loc2 := [(2, .int 0), (0, .ref (F + k)), (1, .int pl)]) h dX5_begin_6 (by decide) rfl ?_
  have e3 : 0 = nI 0 := by subst hw1; first | rfl | exact nI_0.symm | exact nI_0 | decide
  have e4 : w1 = f_z32 w1 (k + 2) 0 := rfl
  refine g_lt (ω2 := f_z32 w1 (k + 2) 0) (loc2 := [(2, .int (nI 0)), (0, .ref (F + k)), (1, .int pl)]) e4 (lc_i e3 rfl) rfl ?_
  refine g_loop3 (hd := 7) (32) (fun j2 => Inv (f_z32 w1 (k + 2) j2)) (fun j2 => [(2, .int (nI j2)), (0, .ref (F + k)), (1, .int pl)]) (fun j2 => cel F G (f_z32 w1 (k + 2) j2)) (e4 ▸ iw1) (fun j2 hj7 hP5 ih6 => ?_)
  (try dsimp only)
  have iv8 := hP5
  refine g_iload_n h 0 dX5_begin_7 rfl ?_
  refine g_bipush (v := 32) h dX5_begin_8 (by decide) ?_
  refine g_icmp_ge (tgt := 26) h dX5_begin_10 (by decide) (fun c9 => ?_) (fun c9 => ?_)
  · have hN10 : j2 = 32 := lpc_ge (x := 32) (M := 32) rfl (by decide) c9 hj7
    refine g_iconst (v := 0) h dX5_begin_26 (by decide) ?_
    refine g_istore_n (loc2 := [(2, .int 0), (0, .ref (F + k)), (1, .int pl)]) h dX5_begin_27 (by decide) rfl ?_
    have e12 : 0 = nI 0 := by subst hw1; first | rfl | exact nI_0.symm | exact nI_0 | decide
    have e13 : (f_z32 w1 (k + 2) j2) = f_z32 (f_z32 w1 (k + 2) j2) (k + 4) 0 := rfl
    refine g_lt (ω2 := f_z32 (f_z32 w1 (k + 2) j2) (k + 4) 0) (loc2 := [(2, .int (nI 0)), (0, .ref (F + k)), (1, .int pl)]) e13 (lc_i e12 rfl) rfl ?_
    refine g_loop3 (hd := 28) (5) (fun j11 => Inv (f_z32 (f_z32 w1 (k + 2) j2) (k + 4) j11)) (fun j11 => [(2, .int (nI j11)), (0, .ref (F + k)), (1, .int pl)]) (fun j11 => cel F G (f_z32 (f_z32 w1 (k + 2) j2) (k + 4) j11)) (e13 ▸ iv8) (fun j11 hj16 hP14 ih15 => ?_)
    (try dsimp only)
    have iv17 := hP14
    refine g_iload_n h 0 dX5_begin_28 rfl ?_
    refine g_iconst (v := 5) h dX5_begin_29 (by decide) ?_
    refine g_icmp_ge (tgt := 46) h dX5_begin_30 (by decide) (fun c18 => ?_) (fun c18 => ?_)
    · have hN19 : j11 = 5 := lpc_ge (x := 5) (M := 5) rfl (by decide) c18 hj16
      exact e_vret h iv17 dX5_begin_46 (by subst hw1; rw [hN19, hN10]; rfl)
    · have hlt20 : j11 < 5 := lpc_lt (x := 5) (M := 5) rfl (by decide) c18 hj16
      refine g_aload_n h 1 dX5_begin_33 rfl ?_
      refine q_5_tallies h hk tw_53 dX5_begin_34 ?_
      refine g_iload_n h 0 dX5_begin_37 rfl ?_
      refine g_iconst (v := 0) h dX5_begin_38 (by decide) ?_
      refine g_is (q := 8) h iv17 (kr_4 hk) rfl (by decide) (vp_n (Nat.lt_of_lt_of_le hlt20 (by decide)) (by decide)) dX5_begin_39 (fun w21 hw21 iw21 => ?_)
      obtain ⟨v22, hv22⟩ : ∃ z : Int32, z = (nI j11) + 1 := ⟨_, rfl⟩
      refine g_iinc (v := v22) (loc2 := [(2, .int v22), (0, .ref (F + k)), (1, .int pl)]) h 0 dX5_begin_40 rfl (by rw [hv22]; rfl) (by decide) rfl ?_
      refine g_goto (tgt := 28) h dX5_begin_43 (by decide) ?_
      have e23 : v22 = nI (j11 + 1) := by subst hv22 hw21 hw1; first | rfl | exact nI_1 _ | (rw [nI_succ])
      have e24 : w21 = f_z32 (f_z32 w1 (k + 2) j2) (k + 4) (j11 + 1) := by subst hv22 hw21 hw1; rw [nI_clamp (by omega)]; rfl
      exact g_lt e24 (lc_i e23 rfl) rfl (ih15 hlt20 (e24 ▸ iw21))
  · have hlt25 : j2 < 32 := lpc_lt (x := 32) (M := 32) rfl (by decide) c9 hj7
    refine g_aload_n h 1 dX5_begin_13 rfl ?_
    refine q_5_strengths h hk tw_51 dX5_begin_14 ?_
    refine g_iload_n h 0 dX5_begin_17 rfl ?_
    refine g_iconst (v := 0) h dX5_begin_18 (by decide) ?_
    refine g_is (q := 7) h iv8 (kr_2 hk) rfl (by decide) (vp_n (Nat.lt_of_lt_of_le hlt25 (by decide)) (by decide)) dX5_begin_19 (fun w26 hw26 iw26 => ?_)
    obtain ⟨v27, hv27⟩ : ∃ z : Int32, z = (nI j2) + 1 := ⟨_, rfl⟩
    refine g_iinc (v := v27) (loc2 := [(2, .int v27), (0, .ref (F + k)), (1, .int pl)]) h 0 dX5_begin_20 rfl (by rw [hv27]; rfl) (by decide) rfl ?_
    refine g_goto (tgt := 7) h dX5_begin_23 (by decide) ?_
    have e28 : v27 = nI (j2 + 1) := by subst hv27 hw26 hw1; first | rfl | exact nI_1 _ | (rw [nI_succ])
    have e29 : w26 = f_z32 w1 (k + 2) (j2 + 1) := by subst hv27 hw26 hw1; rw [nI_clamp (by omega)]; rfl
    exact g_lt e29 (lc_i e28 rfl) rfl (ih6 hlt25 (e29 ▸ iw26))
set_option maxHeartbeats 4000000 in
set_option maxRecDepth 100000 in
theorem tX5_copyFrom (l0 : Launch) (G : fG) (F : Nat) (ω : fOm) (hI : Inv ω) (k : Nat) (hk : kd k = 6) (k2 : Nat) (hk2 : kd k2 = 6) : CT l0 G F yX5_copyFrom cX5_copyFrom 2 none 2 [.ref (F + k), .ref (F + k2)] ω none (f_rcopy ω k k2) := by
  refine ct_met (own := RX5) (by decide +kernel) rfl (Nat.le_of_ble_eq_true rfl) (fun X hXl hX h => ?_)
  subst hXl
  refine g_aload_n h 0 dX5_copyFrom_0 rfl ?_
  refine g_aload_n h 1 dX5_copyFrom_1 rfl ?_
  refine q_5_places h hk2 tw_48 dX5_copyFrom_2 (fun v1 hv1 => ?_)
  refine p_5_places h hI hk (by subst hv1; exact okv_6_0 (Inv_6_0 hI hk2).1 (Inv_6_0 hI hk2).2) tw_48 dX5_copyFrom_5 (fun w2 hw2 iw2 => ?_)
  refine g_aload_n h 1 dX5_copyFrom_8 rfl ?_
  refine q_5_values h hk2 tw_50 dX5_copyFrom_9 ?_
  refine g_aload_n h 0 dX5_copyFrom_12 rfl ?_
  refine q_5_values h hk tw_50 dX5_copyFrom_13 ?_
  refine k_SN_v (st := []) h hX (tX7_copyRow (xl X) G F w2 iw2 7 rfl (by decide) (k2 + 1) (kr_1 hk2) (k + 1) (kr_1 hk)) rfl miX7_copyRow tw_269 (by decide) (by decide) rfl (Nat.le_of_ble_eq_true rfl) (by rw [hX]; exact Nat.zero_le _) (by rw [hX]; exact Nat.zero_le _) dX5_copyFrom_16 (fun w3 hw3 iw3 => ?_)
  refine g_aload_n h 1 dX5_copyFrom_19 rfl ?_
  refine q_5_strengths h hk2 tw_51 dX5_copyFrom_20 ?_
  refine g_aload_n h 0 dX5_copyFrom_23 rfl ?_
  refine q_5_strengths h hk tw_51 dX5_copyFrom_24 ?_
  refine k_SN_v (st := []) h hX (tX7_copyRow (xl X) G F w3 iw3 7 rfl (by decide) (k2 + 2) (kr_2 hk2) (k + 2) (kr_2 hk)) rfl miX7_copyRow tw_269 (by decide) (by decide) rfl (Nat.le_of_ble_eq_true rfl) (by rw [hX]; exact Nat.zero_le _) (by rw [hX]; exact Nat.zero_le _) dX5_copyFrom_27 (fun w4 hw4 iw4 => ?_)
  refine g_aload_n h 1 dX5_copyFrom_30 rfl ?_
  refine q_5_births h hk2 tw_52 dX5_copyFrom_31 ?_
  refine g_aload_n h 0 dX5_copyFrom_34 rfl ?_
  refine q_5_births h hk tw_52 dX5_copyFrom_35 ?_
  refine k_SN_v (st := []) h hX (tX7_copyRow (xl X) G F w4 iw4 7 rfl (by decide) (k2 + 3) (kr_3 hk2) (k + 3) (kr_3 hk)) rfl miX7_copyRow tw_269 (by decide) (by decide) rfl (Nat.le_of_ble_eq_true rfl) (by rw [hX]; exact Nat.zero_le _) (by rw [hX]; exact Nat.zero_le _) dX5_copyFrom_38 (fun w5 hw5 iw5 => ?_)
  refine g_aload_n h 1 dX5_copyFrom_41 rfl ?_
  refine q_5_tallies h hk2 tw_53 dX5_copyFrom_42 ?_
  refine g_aload_n h 0 dX5_copyFrom_45 rfl ?_
  refine q_5_tallies h hk tw_53 dX5_copyFrom_46 ?_
  refine k_SN_v (st := []) h hX (tX7_copyRow (xl X) G F w5 iw5 8 rfl (by decide) (k2 + 4) (kr_4 hk2) (k + 4) (kr_4 hk)) rfl miX7_copyRow tw_269 (by decide) (by decide) rfl (Nat.le_of_ble_eq_true rfl) (by rw [hX]; exact Nat.zero_le _) (by rw [hX]; exact Nat.zero_le _) dX5_copyFrom_49 (fun w6 hw6 iw6 => ?_)
  exact e_vret h iw6 dX5_copyFrom_52 (by subst hw6 hw5 hw4 hw3 hw2 hv1; first | rfl | contradiction | (simp only [↓reduceIte] <;> rfl) | (simp []; done))
set_option maxHeartbeats 4000000 in
set_option maxRecDepth 100000 in
theorem tX5_moveOn (l0 : Launch) (G : fG) (F : Nat) (ω : fOm) (hI : Inv ω) (k : Nat) (hk : kd k = 6) (loss : Int32) : CT l0 G F yX5_moveOn cX5_moveOn 3 none 2 [.ref (F + k), .int loss] ω none (f_moveOn ω k loss) := by
  refine ct_met (own := RX5) (by decide +kernel) rfl (Nat.le_of_ble_eq_true rfl) (fun X hXl hX h => ?_)
  subst hXl
  refine g_aload_n h 0 dX5_moveOn_0 rfl ?_
  refine q_5_values h hk tw_50 dX5_moveOn_1 ?_
  refine g_aload_n h 0 dX5_moveOn_4 rfl ?_
  refine q_5_places h hk tw_48 dX5_moveOn_5 (fun v1 hv1 => ?_)
  refine k_SN_v (st := []) h hX (tX7_turnRow (xl X) G F ω hI 7 rfl (by decide) (k + 1) (kr_1 hk) v1) rfl miX7_turnRow tw_423 (by decide) (by decide) rfl (Nat.le_of_ble_eq_true rfl) (by rw [hX]; exact Nat.zero_le _) (by rw [hX]; exact Nat.zero_le _) dX5_moveOn_8 (fun w2 hw2 iw2 => ?_)
  refine g_aload_n h 0 dX5_moveOn_11 rfl ?_
  refine q_5_strengths h hk tw_51 dX5_moveOn_12 ?_
  refine g_aload_n h 0 dX5_moveOn_15 rfl ?_
  refine q_5_places h hk tw_48 dX5_moveOn_16 (fun v3 hv3 => ?_)
  refine k_SN_v (st := []) h hX (tX7_turnRow (xl X) G F w2 iw2 7 rfl (by decide) (k + 2) (kr_2 hk) v3) rfl miX7_turnRow tw_423 (by decide) (by decide) rfl (Nat.le_of_ble_eq_true rfl) (by rw [hX]; exact Nat.zero_le _) (by rw [hX]; exact Nat.zero_le _) dX5_moveOn_19 (fun w4 hw4 iw4 => ?_)
  refine g_aload_n h 0 dX5_moveOn_22 rfl ?_
  refine q_5_births h hk tw_52 dX5_moveOn_23 ?_
  refine g_aload_n h 0 dX5_moveOn_26 rfl ?_
  refine q_5_places h hk tw_48 dX5_moveOn_27 (fun v5 hv5 => ?_)
  refine k_SN_v (st := []) h hX (tX7_turnRow (xl X) G F w4 iw4 7 rfl (by decide) (k + 3) (kr_3 hk) v5) rfl miX7_turnRow tw_423 (by decide) (by decide) rfl (Nat.le_of_ble_eq_true rfl) (by rw [hX]; exact Nat.zero_le _) (by rw [hX]; exact Nat.zero_le _) dX5_moveOn_30 (fun w6 hw6 iw6 => ?_)
  refine g_iconst (v := 0) h dX5_moveOn_33 (by decide) ?_
  refine g_istore_n (loc2 := [(2, .int 0), (0, .ref (F + k)), (1, .int loss)]) h dX5_moveOn_34 (by decide) rfl ?_
  have e8 : 0 = nI 0 := by subst hw6 hv5 hw4 hv3 hw2 hv1; first | rfl | exact nI_0.symm | exact nI_0 | decide
  have e9 : w6 = f_mvL k loss w6 0 := rfl
  refine g_lt (ω2 := f_mvL k loss w6 0) (loc2 := [(2, .int (nI 0)), (0, .ref (F + k)), (1, .int loss)]) e9 (lc_i e8 rfl) rfl ?_
  refine g_loop3 (hd := 35) ((w6 k 0).toNatClampNeg) (fun j7 => Inv (f_mvL k loss w6 j7)) (fun j7 => [(2, .int (nI j7)), (0, .ref (F + k)), (1, .int loss)]) (fun j7 => cel F G (f_mvL k loss w6 j7)) (e9 ▸ iw6) (fun j7 hj12 hP10 ih11 => ?_)
  (try dsimp only)
  have iv13 := hP10
  refine g_iload_n h 0 dX5_moveOn_35 rfl ?_
  refine g_aload_n h 1 dX5_moveOn_36 rfl ?_
  refine q_5_places h hk tw_48 dX5_moveOn_37 (fun v14 hv14 => ?_)
  refine g_icmp_ge (tgt := 64) h dX5_moveOn_40 (by decide) (fun c15 => ?_) (fun c15 => ?_)
  · have hN16 : j7 = ((w6 k 0).toNatClampNeg) := by have hb9 := Inv_6_0 iv13 hk; subst hv14 hw6 hv5 hw4 hv3 hw2 hv1; rw [mvL_0] at hb9; rw [mvL_0] at c15; exact lp_ge hb9.1 c15 hj12
    exact e_vret h iv13 dX5_moveOn_64 (by subst hv14 hw6 hv5 hw4 hv3 hw2 hv1; rw [hN16]; show f_mvL k loss (f_mv0 ω k) (f_mv0 ω k k 0).toNatClampNeg = _; rw [mv0_0]; rfl)
  · have hlt17 : j7 < ((w6 k 0).toNatClampNeg) := by have hb9 := Inv_6_0 iv13 hk; subst hv14 hw6 hv5 hw4 hv3 hw2 hv1; rw [mvL_0] at hb9; rw [mvL_0] at c15; exact lp_lt hb9.1 c15 hj12
    refine g_aload_n h 1 dX5_moveOn_43 rfl ?_
    refine q_5_strengths h hk tw_51 dX5_moveOn_44 ?_
    refine g_iload_n h 0 dX5_moveOn_47 rfl ?_
    refine g_ia (q := 7) h (kr_2 hk) rfl (by decide) (by have hb9 := Inv_6_0 iv13 hk; subst hv14 hw6 hv5 hw4 hv3 hw2 hv1; rw [mvL_0] at hb9; exact vp_j hb9 rfl hlt17) dX5_moveOn_48 (fun v18 hv18 => ?_)
    have hm58_24 : ∀ w23 : fOm, w23 = (if v18 ≤ 0 then f_mvL k loss w6 j7 else (f_fade (f_mvL k loss w6 j7) k (nI j7) loss)) → Inv w23 → Vg X (MQ (xb X) (fQ G F (fP F G none (f_moveOn ω k loss))) (xa X) (xs X) 0 0 (fA F)) G F 3 NC (cel F G w23) 0 0 58 [(2, .int (nI j7)), (0, .ref (F + k)), (1, .int loss)] [] := by
      intro w23 hw23 iw23
      obtain ⟨v25, hv25⟩ : ∃ z : Int32, z = (nI j7) + 1 := ⟨_, rfl⟩
      refine g_iinc (v := v25) (loc2 := [(2, .int v25), (0, .ref (F + k)), (1, .int loss)]) h 0 dX5_moveOn_58 rfl (by rw [hv25]; rfl) (by decide) rfl ?_
      refine g_goto (tgt := 35) h dX5_moveOn_61 (by decide) ?_
      have e26 : v25 = nI (j7 + 1) := by subst hv25 hw23 hv18 hv14 hw6 hv5 hw4 hv3 hw2 hv1; first | rfl | exact nI_1 _ | (rw [nI_succ])
      have e27 : w23 = f_mvL k loss w6 (j7 + 1) := by subst hv25 hw23 hv18 hv14 hw6 hv5 hw4 hv3 hw2 hv1; rw [nI_clamp (Nat.lt_trans hlt17 (tn_lt _))]; rfl
      exact g_lt e27 (lc_i e26 rfl) rfl (ih11 hlt17 (e27 ▸ iw23))
    refine g_if_le (tgt := 58) h dX5_moveOn_49 (by decide) (fun c19 => ?_) (fun c19 => ?_)
    · exact hm58_24 _ (by subst hv18 hv14 hw6 hv5 hw4 hv3 hw2 hv1; rw [if_pos c19]) iv13
    · refine g_aload_n h 1 dX5_moveOn_52 rfl ?_
      refine g_iload_n h 0 dX5_moveOn_53 rfl ?_
      refine g_iload_n h 2 dX5_moveOn_54 rfl ?_
      refine k_V_v (st := []) h hX (tX5_fade (xl X) G F (f_mvL k loss w6 j7) iv13 k hk (nI j7) loss) rfl ⟨kd_lt hk, ob_6 hk⟩ rfl miX5_fade tw_426 (by decide) (by decide) rfl (Nat.le_of_ble_eq_true rfl) (by rw [hX]; exact Nat.zero_le _) (by rw [hX]; exact Nat.zero_le _) dX5_moveOn_55 (fun w21 hw21 iw21 => ?_)
      exact hm58_24 _ (by subst hw21 hv18 hv14 hw6 hv5 hw4 hv3 hw2 hv1; rw [if_neg c19]) iw21
