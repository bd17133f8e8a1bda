/-! ===== devices and joins ===== -/
def f_min (a b : Int32) : Int32 := if b < a then b else a
def f_setting (ω : fOm) (b : Nat) (i : Int32) : Int32 := if f_btw i 0 3 = 0 then 0 else ω (b + 1) i.toNatClampNeg
def f_dbegin (ω : fOm) (k : Nat) (ri pl ki on tw : Int32) : fOm :=
  wu (wu (wu (wu (wu (wu (wu (wu ω k 1 ri) k 2 pl) k 0 ki) k 3 on) k 4 tw) k 5 (if ¬ ki = 0 then 0 else tw)) k 6 0) k 8 0
def f_dcopy (ω : fOm) (k k2 : Nat) : fOm :=
  let w0 := wu ω k 0 (ω k2 0)
  let w1 := wu w0 k 1 (w0 k2 1)
  let w2 := wu w1 k 2 (w1 k2 2)
  let w3 := wu w2 k 3 (w2 k2 3)
  let w4 := wu w3 k 4 (w3 k2 4)
  let w5 := wu w4 k 5 (w4 k2 5)
  let w6 := wu w5 k 6 (w5 k2 6)
  let w7 := wu w6 k 8 (w6 k2 8)
  f_cp w7 (k2 + 1) (k + 1) 10
def f_keptAt (ω : fOm) (k : Nat) (i : Int32) : Int32 := if i < 0 then (-6) else if ω k 8 ≤ i then (-6) else ω (k + 1) i.toNatClampNeg
def f_keepLast (ω : fOm) (k : Nat) (v : Int32) : fOm := if 12 ≤ ω k 8 then ω else
  let w1 := wu ω (k + 1) (ω k 8).toNatClampNeg v
  wu w1 k 8 (w1 k 8 + 1)
def f_remF (ω : fOm) (k : Nat) : fOm := if ω k 8 ≤ 0 then ω else
  let w1 := wr ω (k + 1) (va_cpy (ω (k + 1)) (ω (k + 1)) 1 0 (ω k 8 - 1).toNatClampNeg)
  wu w1 k 8 (w1 k 8 - 1)
def f_amp (ω : fOm) (k r : Nat) : fOm :=
  if f_strengthAt ω r (ω k 2) = 0 then ω else
    let b := f_min (f_min (ω k 3) (ω k 5)) (1000 - f_strengthAt ω r (ω k 2))
    if b ≤ 0 then ω else
      let w1 := f_strengthen ω r (ω k 2) b
      let w2 := wu w1 k 5 (w1 k 5 - b)
      wu w2 k 6 (w2 k 6 + 1)
def f_note (ω : fOm) (k r : Nat) (rd : Int32) : fOm :=
  if f_strengthAt ω r (ω k 2) = 0 then ω else
    let w1 := wu ω k 8 (f_min (ω k 8 + 1) 8)
    let w2 := f_turn w1 (k + 1) 10 (w1 k 8)
    let w3 := wu w2 (k + 1) 0 (f_valueAt w2 r (w2 k 2))
    let w4 := f_fade w3 r (w3 k 2) rd
    wu w4 k 6 (w4 k 6 + 1)
def f_putNext (ω : fOm) (k r : Nat) (fr t : Int32) : fOm :=
  if ω k 8 ≤ 0 then ω else if ¬ f_strengthAt ω r (ω k 2) = 0 then ω else
    let w1 := f_putIn ω r (ω k 2) (ω (k + 1) 0) fr t
    let w2 := f_remF w1 k
    wu w2 k 6 (w2 k 6 + 1)
def f_change (ω : fOm) (k r : Nat) : fOm := if ¬ f_valueAt ω r (ω k 2) = ω k 3 then ω else
  let w1 := f_changeValue ω r (ω k 2) (ω k 4)
  wu w1 k 6 (w1 k 6 + 1)
def f_dropV (ω : fOm) (k r : Nat) : fOm := if ¬ f_valueAt ω r (ω k 2) = ω k 3 then ω else
  let w1 := f_drop ω r (ω k 2)
  wu w1 k 6 (w1 k 6 + 1)
def f_actOn (ω : fOm) (k r b : Nat) : fOm :=
  if ω k 0 = 0 then f_amp ω k r else if ω k 0 = 1 then f_note ω k r (f_setting ω b 1) else if ω k 0 = 2 then f_putNext ω k r (f_setting ω b 3) (ω b 4) else if ω k 0 = 3 then f_change ω k r else if ω k 0 = 4 then f_dropV ω k r else ω
def f_rest (ω : fOm) (k : Nat) (rec : Int32) : fOm := if ¬ ω k 0 = 0 then ω else wu ω k 5 (f_min (ω k 5 + rec) (ω k 4))
def f_jbegin (ω : fOm) (k : Nat) (a b c d : Int32) : fOm := wu (wu (wu (wu (wu (wu ω k 0 a) k 1 b) k 2 c) k 3 d) k 4 0) k 5 0
def f_jcopy (ω : fOm) (k k2 : Nat) : fOm :=
  let w0 := wu ω k 0 (ω k2 0)
  let w1 := wu w0 k 1 (w0 k2 1)
  let w2 := wu w1 k 2 (w1 k2 2)
  let w3 := wu w2 k 3 (w2 k2 3)
  let w4 := wu w3 k 4 (w3 k2 4)
  wu w4 k 5 (w4 k2 5)
def f_jgo (ω : fOm) (k r r2 : Nat) (nl fl : Int32) : fOm :=
  let w1 := f_exch ω r (ω k 1) r2 (ω k 3)
  let w2 := if nl = 0 then w1 else wu (f_tell w1 r r2) k 5 (f_tell w1 r r2 k 5 + 1)
  if fl = 0 then w2 else wu (f_tell w2 r2 r) k 5 (f_tell w2 r2 r k 5 + 1)
def f_lit (ω : fOm) (r : Nat) (p : Int32) : Int32 := if f_strengthAt ω r p ≤ 0 then 0 else 1
def f_joinAct (ω : fOm) (k r r2 : Nat) : fOm :=
  if ω k 4 = 0 then ω else if ω k 4 = 2 then (if f_lit ω r2 (ω k 3) = 0 then f_jgo ω k r r2 (f_lit ω r (ω k 1)) (f_lit ω r2 (ω k 3)) else ω) else f_jgo ω k r r2 (f_lit ω r (ω k 1)) (f_lit ω r2 (ω k 3))
theorem kminO {x : Int32} (h : 0 ≤ x ∧ x ≤ 12) : okv 9 8 (if 8 < x + 1 then 8 else x + 1) := by
  obtain ⟨m, hm, rfl⟩ := nI_of2 (M := 12) (n := 12) rfl (Int32.not_lt.mpr h.1) h.2
  have key : ∀ m : Nat, m < 13 → 0 ≤ (if 8 < nI m + 1 then (8 : Int32) else nI m + 1) ∧ (if 8 < nI m + 1 then (8 : Int32) else nI m + 1) ≤ 12 := by decide +kernel
  exact okv_9_8 (key m (by omega)).1 (key m (by omega)).2
theorem kinc {x : Int32} (h : 0 ≤ x ∧ x ≤ 12) (h2 : ¬ 12 ≤ x) : okv 9 8 (x + 1) ∧ vp_in x 12 := by
  obtain ⟨m, hm, rfl⟩ := nI_of2 (M := 12) (n := 12) rfl (Int32.not_lt.mpr h.1) h.2
  have hm2 : m < 12 := by
    rcases Nat.lt_or_ge m 12 with a | a
    · exact a
    · exact absurd (nI_le (a := 12) a (by omega)) h2
  have key : ∀ m : Nat, m < 12 → 0 ≤ nI m + 1 ∧ nI m + 1 ≤ 12 := by decide +kernel
  exact ⟨okv_9_8 (key m hm2).1 (key m hm2).2, vp_n hm2 (by decide)⟩
theorem kdec {x : Int32} (h : 0 ≤ x ∧ x ≤ 12) (h2 : ¬ x ≤ 0) : okv 9 8 (x - 1) ∧ ¬ (x - 1) < 0 ∧ (x - 1).toNatClampNeg + 1 ≤ 12 := by
  obtain ⟨m, hm, rfl⟩ := nI_of2 (M := 12) (n := 12) rfl (Int32.not_lt.mpr h.1) h.2
  have hm2 : 0 < m := by
    rcases Nat.eq_zero_or_pos m with a | a
    · subst a
      exact absurd (by decide) h2
    · exact a
  have key : ∀ m : Nat, m < 13 → 0 < m → 0 ≤ nI m - 1 ∧ nI m - 1 ≤ 12 ∧ ¬ (nI m - 1) < 0 ∧ (nI m - 1).toNatClampNeg + 1 ≤ 12 := by decide +kernel
  have k1 := key m (by omega) hm2
  exact ⟨okv_9_8 k1.1 k1.2.1, k1.2.2.1, k1.2.2.2⟩
theorem rest_in {i x : Int32} (h0 : ¬ i < 0) (h1 : ¬ x ≤ i) (h : 0 ≤ x ∧ x ≤ 12) : vp_in i 12 := vp_lt h0 (Int32.not_le.mp h1) h.2 rfl
set_option maxHeartbeats 4000000 in
set_option maxRecDepth 100000 in
theorem tX6_setting (l0 : Launch) (G : fG) (F : Nat) (ω : fOm) (hI : Inv ω) (b : Nat) (hb : kd b = 1) (i : Int32) : CT l0 G F yX6_setting cX6_setting 2 (some .int) 1 [.ref (F + b), .int i] ω (some (.int (f_setting ω b i))) ω := by
  refine ct_met (own := RX6) (by decide +kernel) rfl (Nat.le_of_ble_eq_true rfl) (fun X hXl hX h => ?_)
  subst hXl
  refine g_iload_n h 1 dX6_setting_0 rfl ?_
  refine g_iconst (v := 0) h dX6_setting_1 (by decide) ?_
  refine g_iconst (v := 3) h dX6_setting_2 (by decide) ?_
  refine k_SN_i (st := []) h hX (tX7_isBetween (xl X) G F ω hI i 0 3) rfl miX7_isBetween tw_283 (by decide) (by decide) rfl (Nat.le_of_ble_eq_true rfl) (by rw [hX]; exact Nat.zero_le _) (by rw [hX]; exact Nat.zero_le _) dX6_setting_3 (fun v1 hv1 => ?_)
  refine g_if_eq (tgt := 18) h dX6_setting_6 (by decide) (fun c2 => ?_) (fun c2 => ?_)
  · refine g_iconst (v := 0) h dX6_setting_18 (by decide) ?_
    exact e_iret h hI dX6_setting_19 (by subst hv1; first | rfl | contradiction | (unfold f_setting; simp only [c2, ↓reduceIte] <;> rfl) | (unfold f_setting; simp [c2]; done)) rfl
  · refine g_aload_n h 0 dX6_setting_9 rfl ?_
    refine q_6_settings h hb tw_143 dX6_setting_10 ?_
    refine g_iload_n h 1 dX6_setting_13 rfl ?_
    refine g_ia (q := 2) h (ks_1 hb) rfl (by decide) (by subst hv1; exact btw_in c2 rfl) dX6_setting_14 (fun v3 hv3 => ?_)
    refine g_goto (tgt := 19) h dX6_setting_15 (by decide) ?_
    exact e_iret h hI dX6_setting_19 (by subst hv3 hv1; first | rfl | contradiction | (unfold f_setting; simp only [c2, ↓reduceIte] <;> rfl) | (unfold f_setting; simp [c2]; done)) rfl
set_option maxHeartbeats 4000000 in
set_option maxRecDepth 100000 in
theorem tX0_begin (l0 : Launch) (G : fG) (F : Nat) (ω : fOm) (hI : Inv ω) (k : Nat) (hk : kd k = 9) (ri : Int32) (pl : Int32) (ki : Int32) (on : Int32) (tw : Int32) : CT l0 G F yX0_begin cX0_begin 6 none 0 [.ref (F + k), .int ri, .int pl, .int ki, .int on, .int tw] ω none (f_dbegin ω k ri pl ki on tw) := by
  refine ct_met (own := RX0) (by decide +kernel) rfl (Nat.le_of_ble_eq_true rfl) (fun X hXl hX h => ?_)
  subst hXl
  refine g_aload_n h 0 dX0_begin_0 rfl ?_
  refine g_iload_n h 1 dX0_begin_1 rfl ?_
  refine p_0_ring h hI hk tw_74 dX0_begin_2 (fun w1 hw1 iw1 => ?_)
  refine g_aload_n h 0 dX0_begin_5 rfl ?_
  refine g_iload_n h 2 dX0_begin_6 rfl ?_
  refine p_0_place h iw1 hk tw_77 dX0_begin_7 (fun w2 hw2 iw2 => ?_)
  refine g_aload_n h 0 dX0_begin_10 rfl ?_
  refine g_iload_n h 3 dX0_begin_11 rfl ?_
  refine p_0_kind h iw2 hk tw_71 dX0_begin_12 (fun w3 hw3 iw3 => ?_)
  refine g_aload_n h 0 dX0_begin_15 rfl ?_
  refine g_iload h 4 dX0_begin_16 rfl ?_
  refine p_0_one h iw3 hk tw_79 dX0_begin_18 (fun w4 hw4 iw4 => ?_)
  refine g_aload_n h 0 dX0_begin_21 rfl ?_
  refine g_iload h 5 dX0_begin_22 rfl ?_
  refine p_0_two h iw4 hk tw_81 dX0_begin_24 (fun w5 hw5 iw5 => ?_)
  refine g_aload_n h 0 dX0_begin_27 rfl ?_
  refine g_iload_n h 3 dX0_begin_28 rfl ?_
  have hm38_10 : ∀ m9 : Int32, m9 = (if ki = 0 then tw else 0) → Vg X (MQ (xb X) (fQ G F (fP F G none (f_dbegin ω k ri pl ki on tw))) (xa X) (xs X) 0 0 (fA F)) G F 6 NC (cel F G w5) 0 0 38 [(0, .ref (F + k)), (1, .int ri), (2, .int pl), (3, .int ki), (4, .int on), (5, .int tw)] [.int m9, .ref (F + k)] := by
    intro m9 hm9
    refine p_0_store h iw5 hk tw_83 dX0_begin_38 (fun w11 hw11 iw11 => ?_)
    refine g_aload_n h 0 dX0_begin_41 rfl ?_
    refine g_iconst (v := 0) h dX0_begin_42 (by decide) ?_
    refine p_0_acts h iw11 hk tw_85 dX0_begin_43 (fun w12 hw12 iw12 => ?_)
    refine g_aload_n h 0 dX0_begin_46 rfl ?_
    refine g_iconst (v := 0) h dX0_begin_47 (by decide) ?_
    refine p_0_kept h iw12 hk (okv_9_8 (by decide) (by decide)) tw_88 dX0_begin_48 (fun w13 hw13 iw13 => ?_)
    exact e_vret h iw13 dX0_begin_51 (by subst hw13 hw12 hw11 hm9 hw5 hw4 hw3 hw2 hw1; unfold f_dbegin; first | rfl | simp only [ite_not])
  refine g_if_ne (tgt := 37) h dX0_begin_29 (by decide) (fun c6 => ?_) (fun c6 => ?_)
  · refine g_iconst (v := 0) h dX0_begin_37 (by decide) ?_
    exact hm38_10 _ (by subst hw5 hw4 hw3 hw2 hw1; rw [if_neg c6])
  · refine g_iload h 5 dX0_begin_32 rfl ?_
    refine g_goto (tgt := 38) h dX0_begin_34 (by decide) ?_
    exact hm38_10 _ (by subst hw5 hw4 hw3 hw2 hw1; rw [if_pos c6])
set_option maxHeartbeats 4000000 in
set_option maxRecDepth 100000 in
theorem tX0_copyFrom (l0 : Launch) (G : fG) (F : Nat) (ω : fOm) (hI : Inv ω) (k : Nat) (hk : kd k = 9) (k2 : Nat) (hk2 : kd k2 = 9) : CT l0 G F yX0_copyFrom cX0_copyFrom 2 none 2 [.ref (F + k), .ref (F + k2)] ω none (f_dcopy ω k k2) := by
  refine ct_met (own := RX0) (by decide +kernel) rfl (Nat.le_of_ble_eq_true rfl) (fun X hXl hX h => ?_)
  subst hXl
  refine g_aload_n h 0 dX0_copyFrom_0 rfl ?_
  refine g_aload_n h 1 dX0_copyFrom_1 rfl ?_
  refine q_0_kind h hk2 tw_71 dX0_copyFrom_2 (fun v1 hv1 => ?_)
  refine p_0_kind h hI hk tw_71 dX0_copyFrom_5 (fun w2 hw2 iw2 => ?_)
  refine g_aload_n h 0 dX0_copyFrom_8 rfl ?_
  refine g_aload_n h 1 dX0_copyFrom_9 rfl ?_
  refine q_0_ring h hk2 tw_74 dX0_copyFrom_10 (fun v3 hv3 => ?_)
  refine p_0_ring h iw2 hk tw_74 dX0_copyFrom_13 (fun w4 hw4 iw4 => ?_)
  refine g_aload_n h 0 dX0_copyFrom_16 rfl ?_
  refine g_aload_n h 1 dX0_copyFrom_17 rfl ?_
  refine q_0_place h hk2 tw_77 dX0_copyFrom_18 (fun v5 hv5 => ?_)
  refine p_0_place h iw4 hk tw_77 dX0_copyFrom_21 (fun w6 hw6 iw6 => ?_)
  refine g_aload_n h 0 dX0_copyFrom_24 rfl ?_
  refine g_aload_n h 1 dX0_copyFrom_25 rfl ?_
  refine q_0_one h hk2 tw_79 dX0_copyFrom_26 (fun v7 hv7 => ?_)
  refine p_0_one h iw6 hk tw_79 dX0_copyFrom_29 (fun w8 hw8 iw8 => ?_)
  refine g_aload_n h 0 dX0_copyFrom_32 rfl ?_
  refine g_aload_n h 1 dX0_copyFrom_33 rfl ?_
  refine q_0_two h hk2 tw_81 dX0_copyFrom_34 (fun v9 hv9 => ?_)
  refine p_0_two h iw8 hk tw_81 dX0_copyFrom_37 (fun w10 hw10 iw10 => ?_)
  refine g_aload_n h 0 dX0_copyFrom_40 rfl ?_
  refine g_aload_n h 1 dX0_copyFrom_41 rfl ?_
  refine q_0_store h hk2 tw_83 dX0_copyFrom_42 (fun v11 hv11 => ?_)
  refine p_0_store h iw10 hk tw_83 dX0_copyFrom_45 (fun w12 hw12 iw12 => ?_)
  refine g_aload_n h 0 dX0_copyFrom_48 rfl ?_
  refine g_aload_n h 1 dX0_copyFrom_49 rfl ?_
  refine q_0_acts h hk2 tw_85 dX0_copyFrom_50 (fun v13 hv13 => ?_)
  refine p_0_acts h iw12 hk tw_85 dX0_copyFrom_53 (fun w14 hw14 iw14 => ?_)
  refine g_aload_n h 0 dX0_copyFrom_56 rfl ?_
  refine g_aload_n h 1 dX0_copyFrom_57 rfl ?_
  refine q_0_kept h hk2 tw_88 dX0_copyFrom_58 (fun v15 hv15 => ?_)
  refine p_0_kept h iw14 hk (by have hb9 := Inv_9_8 iw14 hk2; subst hv15 hw14 hv13 hw12 hv11 hw10 hv9 hw8 hv7 hw6 hv5 hw4 hv3 hw2 hv1; exact okv_9_8 hb9.1 hb9.2) tw_88 dX0_copyFrom_61 (fun w16 hw16 iw16 => ?_)
  refine g_aload_n h 1 dX0_copyFrom_64 rfl ?_
  refine q_0_row h hk2 tw_87 dX0_copyFrom_65 ?_
  refine g_aload_n h 0 dX0_copyFrom_68 rfl ?_
  refine q_0_row h hk tw_87 dX0_copyFrom_69 ?_
  refine k_SN_v (st := []) h hX (tX7_copyRow (xl X) G F w16 iw16 10 rfl (by decide) (k2 + 1) (kv_1 hk2) (k + 1) (kv_1 hk)) rfl miX7_copyRow tw_274 (by decide) (by decide) rfl (Nat.le_of_ble_eq_true rfl) (by rw [hX]; exact Nat.zero_le _) (by rw [hX]; exact Nat.zero_le _) dX0_copyFrom_72 (fun w17 hw17 iw17 => ?_)
  exact e_vret h iw17 dX0_copyFrom_75 (by subst hw17 hw16 hv15 hw14 hv13 hw12 hv11 hw10 hv9 hw8 hv7 hw6 hv5 hw4 hv3 hw2 hv1; first | rfl | contradiction | (simp only [↓reduceIte] <;> rfl) | (simp []; done))
set_option maxHeartbeats 4000000 in
set_option maxRecDepth 100000 in
theorem tX0_keptAt (l0 : Launch) (G : fG) (F : Nat) (ω : fOm) (hI : Inv ω) (k : Nat) (hk : kd k = 9) (i : Int32) : CT l0 G F yX0_keptAt cX0_keptAt 2 (some .int) 0 [.ref (F + k), .int i] ω (some (.int (f_keptAt ω k i))) ω := by
  refine ct_met (own := RX0) (by decide +kernel) rfl (Nat.le_of_ble_eq_true rfl) (fun X hXl hX h => ?_)
  subst hXl
  refine g_iload_n h 1 dX0_keptAt_0 rfl ?_
  refine g_if_lt (tgt := 21) h dX0_keptAt_1 (by decide) (fun c1 => ?_) (fun c1 => ?_)
  · refine g_bipush (v := (-6)) h dX0_keptAt_21 (by decide) ?_
    exact e_iret h hI dX0_keptAt_23 (by skip; first | rfl | contradiction | (unfold f_keptAt; simp only [c1, ↓reduceIte] <;> rfl) | (unfold f_keptAt; simp [c1]; done)) rfl
  · refine g_iload_n h 1 dX0_keptAt_4 rfl ?_
    refine g_aload_n h 0 dX0_keptAt_5 rfl ?_
    refine q_0_kept h hk tw_88 dX0_keptAt_6 (fun v2 hv2 => ?_)
    refine g_icmp_ge (tgt := 21) h dX0_keptAt_9 (by decide) (fun c3 => ?_) (fun c3 => ?_)
    · refine g_bipush (v := (-6)) h dX0_keptAt_21 (by decide) ?_
      exact e_iret h hI dX0_keptAt_23 (by subst hv2; first | rfl | contradiction | (unfold f_keptAt; simp only [c1, c3, ↓reduceIte] <;> rfl) | (unfold f_keptAt; simp [c1, c3]; done)) rfl
    · refine g_aload_n h 0 dX0_keptAt_12 rfl ?_
      refine q_0_row h hk tw_87 dX0_keptAt_13 ?_
      refine g_iload_n h 1 dX0_keptAt_16 rfl ?_
      refine g_ia (q := 10) h (kv_1 hk) rfl (by decide) (by subst hv2; exact rest_in c1 c3 (Inv_9_8 hI hk)) dX0_keptAt_17 (fun v4 hv4 => ?_)
      refine g_goto (tgt := 23) h dX0_keptAt_18 (by decide) ?_
      exact e_iret h hI dX0_keptAt_23 (by subst hv4 hv2; first | rfl | contradiction | (unfold f_keptAt; simp only [c1, c3, ↓reduceIte] <;> rfl) | (unfold f_keptAt; simp [c1, c3]; done)) rfl
set_option maxHeartbeats 4000000 in
set_option maxRecDepth 100000 in
theorem tX0_keepAsLast (l0 : Launch) (G : fG) (F : Nat) (ω : fOm) (hI : Inv ω) (k : Nat) (hk : kd k = 9) (v : Int32) : CT l0 G F yX0_keepAsLast cX0_keepAsLast 2 none 0 [.ref (F + k), .int v] ω none (f_keepLast ω k v) := by
  refine ct_met (own := RX0) (by decide +kernel) rfl (Nat.le_of_ble_eq_true rfl) (fun X hXl hX h => ?_)
  subst hXl
  refine g_aload_n h 0 dX0_keepAsLast_0 rfl ?_
  refine q_0_kept h hk tw_88 dX0_keepAsLast_1 (fun v1 hv1 => ?_)
  refine g_bipush (v := 12) h dX0_keepAsLast_4 (by decide) ?_
  refine g_icmp_ge (tgt := 29) h dX0_keepAsLast_6 (by decide) (fun c2 => ?_) (fun c2 => ?_)
  · exact e_vret h hI dX0_keepAsLast_29 (by subst hv1; first | rfl | contradiction | (unfold f_keepLast; simp only [c2, ↓reduceIte] <;> rfl) | (unfold f_keepLast; simp [c2]; done))
  · refine g_aload_n h 0 dX0_keepAsLast_9 rfl ?_
    refine q_0_row h hk tw_87 dX0_keepAsLast_10 ?_
    refine g_aload_n h 0 dX0_keepAsLast_13 rfl ?_
    refine q_0_kept h hk tw_88 dX0_keepAsLast_14 (fun v3 hv3 => ?_)
    refine g_iload_n h 1 dX0_keepAsLast_17 rfl ?_
    refine g_is (q := 10) h hI (kv_1 hk) rfl (by decide) (by subst hv3 hv1; exact (kinc (Inv_9_8 hI hk) c2).2) dX0_keepAsLast_18 (fun w4 hw4 iw4 => ?_)
    refine g_aload_n h 0 dX0_keepAsLast_19 rfl ?_
    refine g_dup h dX0_keepAsLast_20 rfl ?_
    refine q_0_kept h hk tw_88 dX0_keepAsLast_21 (fun v5 hv5 => ?_)
    refine g_iconst (v := 1) h dX0_keepAsLast_24 (by decide) ?_
    refine g_iadd h dX0_keepAsLast_25 (g_name fun v6 hv6 => ?_)
    refine p_0_kept h iw4 hk (by subst hv6 hv5 hw4 hv3 hv1; rw [wu_ne (by omega)]; exact (kinc (x := ω k 8) (Inv_9_8 hI hk) c2).1) tw_88 dX0_keepAsLast_26 (fun w7 hw7 iw7 => ?_)
    exact e_vret h iw7 dX0_keepAsLast_29 (by subst hw7 hv6 hv5 hw4 hv3 hv1; first | rfl | contradiction | (unfold f_keepLast; simp only [c2, ↓reduceIte] <;> rfl) | (unfold f_keepLast; simp [c2]; done))
set_option maxHeartbeats 4000000 in
set_option maxRecDepth 100000 in
theorem tX0_removeFirst (l0 : Launch) (G : fG) (F : Nat) (ω : fOm) (hI : Inv ω) (k : Nat) (hk : kd k = 9) : CT l0 G F yX0_removeFirst cX0_removeFirst 1 none 1 [.ref (F + k)] ω none (f_remF ω k) := by
  refine ct_met (own := RX0) (by decide +kernel) rfl (Nat.le_of_ble_eq_true rfl) (fun X hXl hX h => ?_)
  subst hXl
  refine g_aload_n h 0 dX0_removeFirst_0 rfl ?_
  refine q_0_kept h hk tw_88 dX0_removeFirst_1 (fun v1 hv1 => ?_)
  refine g_if_le (tgt := 36) h dX0_removeFirst_4 (by decide) (fun c2 => ?_) (fun c2 => ?_)
  · exact e_vret h hI dX0_removeFirst_36 (by subst hv1; first | rfl | contradiction | (unfold f_remF; simp only [c2, ↓reduceIte] <;> rfl) | (unfold f_remF; simp [c2]; done))
  · refine g_aload_n h 0 dX0_removeFirst_7 rfl ?_
    refine q_0_row h hk tw_87 dX0_removeFirst_8 ?_
    refine g_iconst (v := 1) h dX0_removeFirst_11 (by decide) ?_
    refine g_aload_n h 0 dX0_removeFirst_12 rfl ?_
    refine q_0_row h hk tw_87 dX0_removeFirst_13 ?_
    refine g_iconst (v := 0) h dX0_removeFirst_16 (by decide) ?_
    refine g_aload_n h 0 dX0_removeFirst_17 rfl ?_
    refine q_0_kept h hk tw_88 dX0_removeFirst_18 (fun v3 hv3 => ?_)
    refine g_iconst (v := 1) h dX0_removeFirst_21 (by decide) ?_
    refine g_isub h dX0_removeFirst_22 (g_name fun v4 hv4 => ?_)
    refine g_cp (q0 := 10) (q1 := 10) h hI (kv_1 hk) rfl (by decide) (kv_1 hk) rfl (by decide) (by decide) (by decide) (by subst hv4 hv3 hv1; exact (kdec (Inv_9_8 hI hk) c2).2.1) (by have q9 := kdec (x := ω k 8) (Inv_9_8 hI hk) (by subst hv4 hv3 hv1; exact c2); subst hv4 hv3 hv1; rw [tz1, Nat.add_comm]; exact q9.2.2) (by have q9 := kdec (x := ω k 8) (Inv_9_8 hI hk) (by subst hv4 hv3 hv1; exact c2); subst hv4 hv3 hv1; rw [tz0, Nat.zero_add]; exact Nat.le_of_succ_le q9.2.2) tw_464 tw_42 tw_41 tw_4 (by rw [hX]; decide) (by rw [hX]; exact Nat.le_of_ble_eq_true rfl) dX0_removeFirst_23 (fun w5 hw5 iw5 => ?_)
    refine g_aload_n h 0 dX0_removeFirst_26 rfl ?_
    refine g_dup h dX0_removeFirst_27 rfl ?_
    refine q_0_kept h hk tw_88 dX0_removeFirst_28 (fun v6 hv6 => ?_)
    refine g_iconst (v := 1) h dX0_removeFirst_31 (by decide) ?_
    refine g_isub h dX0_removeFirst_32 (g_name fun v7 hv7 => ?_)
    refine p_0_kept h iw5 hk (by subst hv7 hv6 hw5 hv4 hv3 hv1; rw [wr_ne (by omega)]; exact (kdec (x := ω k 8) (Inv_9_8 hI hk) c2).1) tw_88 dX0_removeFirst_33 (fun w8 hw8 iw8 => ?_)
    exact e_vret h iw8 dX0_removeFirst_36 (by subst hw8 hv7 hv6 hw5 hv4 hv3 hv1; first | rfl | contradiction | (unfold f_remF; simp only [c2, ↓reduceIte] <;> rfl) | (unfold f_remF; simp [c2]; done))
set_option maxHeartbeats 4000000 in
set_option maxRecDepth 100000 in
theorem tX0_amplify (l0 : Launch) (G : fG) (F : Nat) (ω : fOm) (hI : Inv ω) (k : Nat) (hk : kd k = 9) (r : Nat) (hr : kd r = 6) : CT l0 G F yX0_amplify cX0_amplify 4 none 2 [.ref (F + k), .ref (F + r)] ω none (f_amp ω k r) := by
  refine ct_met (own := RX0) (by decide +kernel) rfl (Nat.le_of_ble_eq_true rfl) (fun X hXl hX h => ?_)
  subst hXl
  refine g_aload_n h 1 dX0_amplify_0 rfl ?_
  refine g_aload_n h 0 dX0_amplify_1 rfl ?_
  refine q_0_place h hk tw_77 dX0_amplify_2 (fun v1 hv1 => ?_)
  refine k_VN_i (st := []) h hX (tX5_strengthAt (xl X) G F ω hI r hr v1) rfl ⟨kd_lt hr, ob_6 hr⟩ rfl miX5_strengthAt tw_438 (by decide) (by decide) rfl (Nat.le_of_ble_eq_true rfl) (by rw [hX]; exact Nat.zero_le _) (by rw [hX]; exact Nat.zero_le _) dX0_amplify_5 (fun v2 hv2 => ?_)
  refine g_istore_n (loc2 := [(2, .int v2), (0, .ref (F + k)), (1, .ref (F + r))]) h dX0_amplify_8 (by decide) rfl ?_
  refine g_iload_n h 0 dX0_amplify_9 rfl ?_
  refine g_if_ne (tgt := 14) h dX0_amplify_10 (by decide) (fun c3 => ?_) (fun c3 => ?_)
  · refine g_aload_n h 1 dX0_amplify_14 rfl ?_
    refine q_0_one h hk tw_79 dX0_amplify_15 (fun v4 hv4 => ?_)
    refine g_aload_n h 1 dX0_amplify_18 rfl ?_
    refine q_0_store h hk tw_83 dX0_amplify_19 (fun v5 hv5 => ?_)
    refine g_mmin h tw_439 tw_38 tw_3 tw_39 (by rw [hX]; decide) (by rw [hX]; exact Nat.le_of_ble_eq_true rfl) (by rw [hX]; exact Nat.zero_le _) (by rw [hX]; exact Nat.zero_le _) dX0_amplify_22 (g_name fun v6 hv6 => ?_)
    refine g_sipush (v := 1000) h dX0_amplify_25 (by decide) ?_
    refine g_iload_n h 0 dX0_amplify_28 rfl ?_
    refine g_isub h dX0_amplify_29 (g_name fun v7 hv7 => ?_)
    refine g_mmin h tw_439 tw_38 tw_3 tw_39 (by rw [hX]; decide) (by rw [hX]; exact Nat.le_of_ble_eq_true rfl) (by rw [hX]; exact Nat.zero_le _) (by rw [hX]; exact Nat.zero_le _) dX0_amplify_30 (g_name fun v8 hv8 => ?_)
    refine g_istore_n (loc2 := [(3, .int v8), (2, .int v2), (0, .ref (F + k)), (1, .ref (F + r))]) h dX0_amplify_33 (by decide) rfl ?_
    refine g_iload_n h 0 dX0_amplify_34 rfl ?_
    refine g_if_le (tgt := 67) h dX0_amplify_35 (by decide) (fun c9 => ?_) (fun c9 => ?_)
    · exact e_vret h hI dX0_amplify_67 (by subst hv8 hv7 hv6 hv5 hv4 hv2 hv1; first | rfl | contradiction | (unfold f_amp f_min; simp only [c3, c9, ↓reduceIte] <;> rfl) | (unfold f_amp f_min; simp [c3, c9]; done))
    · refine g_aload_n h 3 dX0_amplify_38 rfl ?_
      refine g_aload_n h 2 dX0_amplify_39 rfl ?_
      refine q_0_place h hk tw_77 dX0_amplify_40 (fun v10 hv10 => ?_)
      refine g_iload_n h 0 dX0_amplify_43 rfl ?_
      refine k_VN_v (st := []) h hX (tX5_strengthen (xl X) G F ω hI r hr v10 v8) rfl ⟨kd_lt hr, ob_6 hr⟩ rfl miX5_strengthen tw_440 (by decide) (by decide) rfl (Nat.le_of_ble_eq_true rfl) (by rw [hX]; exact Nat.zero_le _) (by rw [hX]; exact Nat.zero_le _) dX0_amplify_44 (fun w11 hw11 iw11 => ?_)
      refine g_aload_n h 2 dX0_amplify_47 rfl ?_
      refine g_dup h dX0_amplify_48 rfl ?_
      refine q_0_store h hk tw_83 dX0_amplify_49 (fun v12 hv12 => ?_)
      refine g_iload_n h 0 dX0_amplify_52 rfl ?_
      refine g_isub h dX0_amplify_53 (g_name fun v13 hv13 => ?_)
      refine p_0_store h iw11 hk tw_83 dX0_amplify_54 (fun w14 hw14 iw14 => ?_)
      refine g_aload_n h 2 dX0_amplify_57 rfl ?_
      refine g_dup h dX0_amplify_58 rfl ?_
      refine q_0_acts h hk tw_85 dX0_amplify_59 (fun v15 hv15 => ?_)
      refine g_iconst (v := 1) h dX0_amplify_62 (by decide) ?_
      refine g_iadd h dX0_amplify_63 (g_name fun v16 hv16 => ?_)
      refine p_0_acts h iw14 hk tw_85 dX0_amplify_64 (fun w17 hw17 iw17 => ?_)
      exact e_vret h iw17 dX0_amplify_67 (by subst hw17 hv16 hv15 hw14 hv13 hv12 hw11 hv10 hv8 hv7 hv6 hv5 hv4 hv2 hv1; first | rfl | contradiction | (unfold f_amp f_min; simp only [c3, c9, ↓reduceIte] <;> rfl) | (unfold f_amp f_min; simp [c3, c9]; done))
  · exact e_vret h hI dX0_amplify_13 (by subst hv2 hv1; first | rfl | contradiction | (unfold f_amp f_min; simp only [c3, ↓reduceIte] <;> rfl) | (unfold f_amp f_min; simp [c3]; done))
set_option maxHeartbeats 4000000 in
set_option maxRecDepth 100000 in
theorem tX0_note (l0 : Launch) (G : fG) (F : Nat) (ω : fOm) (hI : Inv ω) (k : Nat) (hk : kd k = 9) (r : Nat) (hr : kd r = 6) (rd : Int32) : CT l0 G F yX0_note cX0_note 3 none 2 [.ref (F + k), .ref (F + r), .int rd] ω none (f_note ω k r rd) := by
  refine ct_met (own := RX0) (by decide +kernel) rfl (Nat.le_of_ble_eq_true rfl) (fun X hXl hX h => ?_)
  subst hXl
  refine g_aload_n h 1 dX0_note_0 rfl ?_
  refine g_aload_n h 0 dX0_note_1 rfl ?_
  refine q_0_place h hk tw_77 dX0_note_2 (fun v1 hv1 => ?_)
  refine k_VN_i (st := []) h hX (tX5_strengthAt (xl X) G F ω hI r hr v1) rfl ⟨kd_lt hr, ob_6 hr⟩ rfl miX5_strengthAt tw_438 (by decide) (by decide) rfl (Nat.le_of_ble_eq_true rfl) (by rw [hX]; exact Nat.zero_le _) (by rw [hX]; exact Nat.zero_le _) dX0_note_5 (fun v2 hv2 => ?_)
  refine g_if_ne (tgt := 12) h dX0_note_8 (by decide) (fun c3 => ?_) (fun c3 => ?_)
  · refine g_aload_n h 0 dX0_note_12 rfl ?_
    refine g_aload_n h 0 dX0_note_13 rfl ?_
    refine q_0_kept h hk tw_88 dX0_note_14 (fun v4 hv4 => ?_)
    refine g_iconst (v := 1) h dX0_note_17 (by decide) ?_
    refine g_iadd h dX0_note_18 (g_name fun v5 hv5 => ?_)
    refine g_bipush (v := 8) h dX0_note_19 (by decide) ?_
    refine g_mmin h tw_439 tw_38 tw_3 tw_39 (by rw [hX]; decide) (by rw [hX]; exact Nat.le_of_ble_eq_true rfl) (by rw [hX]; exact Nat.zero_le _) (by rw [hX]; exact Nat.zero_le _) dX0_note_21 (g_name fun v6 hv6 => ?_)
    refine p_0_kept h hI hk (by subst hv6 hv5 hv4 hv2 hv1; exact kminO (Inv_9_8 hI hk)) tw_88 dX0_note_24 (fun w7 hw7 iw7 => ?_)
    refine g_aload_n h 0 dX0_note_27 rfl ?_
    refine q_0_row h hk tw_87 dX0_note_28 ?_
    refine g_aload_n h 0 dX0_note_31 rfl ?_
    refine q_0_kept h hk tw_88 dX0_note_32 (fun v8 hv8 => ?_)
    refine k_SN_v (st := []) h hX (tX7_turnRow (xl X) G F w7 iw7 10 rfl (by decide) (k + 1) (kv_1 hk) v8) rfl miX7_turnRow tw_449 (by decide) (by decide) rfl (Nat.le_of_ble_eq_true rfl) (by rw [hX]; exact Nat.zero_le _) (by rw [hX]; exact Nat.zero_le _) dX0_note_35 (fun w9 hw9 iw9 => ?_)
    refine g_aload_n h 0 dX0_note_38 rfl ?_
    refine q_0_row h hk tw_87 dX0_note_39 ?_
    refine g_iconst (v := 0) h dX0_note_42 (by decide) ?_
    refine g_aload_n h 1 dX0_note_43 rfl ?_
    refine g_aload_n h 0 dX0_note_44 rfl ?_
    refine q_0_place h hk tw_77 dX0_note_45 (fun v10 hv10 => ?_)
    refine k_VN_i (st := [.int 0, .ref (F + (k + 1))]) h hX (tX5_valueAt (xl X) G F w9 iw9 r hr v10) rfl ⟨kd_lt hr, ob_6 hr⟩ rfl miX5_valueAt tw_450 (by decide) (by decide) rfl (Nat.le_of_ble_eq_true rfl) (by rw [hX]; exact Nat.zero_le _) (by rw [hX]; exact Nat.zero_le _) dX0_note_48 (fun v11 hv11 => ?_)
    refine g_is (q := 10) h iw9 (kv_1 hk) rfl (by decide) (vp_n (j := 0) (Nat.le_of_ble_eq_true rfl) (Nat.le_of_ble_eq_true rfl)) dX0_note_51 (fun w12 hw12 iw12 => ?_)
    refine g_aload_n h 1 dX0_note_52 rfl ?_
    refine g_aload_n h 0 dX0_note_53 rfl ?_
    refine q_0_place h hk tw_77 dX0_note_54 (fun v13 hv13 => ?_)
    refine g_iload_n h 2 dX0_note_57 rfl ?_
    refine k_VN_v (st := []) h hX (tX5_fade (xl X) G F w12 iw12 r hr v13 rd) rfl ⟨kd_lt hr, ob_6 hr⟩ rfl miX5_fade tw_454 (by decide) (by decide) rfl (Nat.le_of_ble_eq_true rfl) (by rw [hX]; exact Nat.zero_le _) (by rw [hX]; exact Nat.zero_le _) dX0_note_58 (fun w14 hw14 iw14 => ?_)
    refine g_aload_n h 0 dX0_note_61 rfl ?_
    refine g_dup h dX0_note_62 rfl ?_
    refine q_0_acts h hk tw_85 dX0_note_63 (fun v15 hv15 => ?_)
    refine g_iconst (v := 1) h dX0_note_66 (by decide) ?_
    refine g_iadd h dX0_note_67 (g_name fun v16 hv16 => ?_)
    refine p_0_acts h iw14 hk tw_85 dX0_note_68 (fun w17 hw17 iw17 => ?_)
    exact e_vret h iw17 dX0_note_71 (by subst hw17 hv16 hv15 hw14 hv13 hw12 hv11 hv10 hw9 hv8 hw7 hv6 hv5 hv4 hv2 hv1; first | rfl | contradiction | (unfold f_note f_min; simp only [c3, ↓reduceIte] <;> rfl) | (unfold f_note f_min; simp [c3]; done))
  · exact e_vret h hI dX0_note_11 (by subst hv2 hv1; first | rfl | contradiction | (unfold f_note f_min; simp only [c3, ↓reduceIte] <;> rfl) | (unfold f_note f_min; simp [c3]; done))
set_option maxHeartbeats 4000000 in
set_option maxRecDepth 100000 in
theorem tX0_putNext (l0 : Launch) (G : fG) (F : Nat) (ω : fOm) (hI : Inv ω) (k : Nat) (hk : kd k = 9) (r : Nat) (hr : kd r = 6) (fr : Int32) (t : Int32) : CT l0 G F yX0_putNext cX0_putNext 4 none 2 [.ref (F + k), .ref (F + r), .int fr, .int t] ω none (f_putNext ω k r fr t) := by
  refine ct_met (own := RX0) (by decide +kernel) rfl (Nat.le_of_ble_eq_true rfl) (fun X hXl hX h => ?_)
  subst hXl
  refine g_aload_n h 0 dX0_putNext_0 rfl ?_
  refine q_0_kept h hk tw_88 dX0_putNext_1 (fun v1 hv1 => ?_)
  refine g_if_le (tgt := 48) h dX0_putNext_4 (by decide) (fun c2 => ?_) (fun c2 => ?_)
  · exact e_vret h hI dX0_putNext_48 (by subst hv1; first | rfl | contradiction | (unfold f_putNext; simp only [c2, ↓reduceIte] <;> rfl) | (unfold f_putNext; simp [c2]; done))
  · refine g_aload_n h 1 dX0_putNext_7 rfl ?_
    refine g_aload_n h 0 dX0_putNext_8 rfl ?_
    refine q_0_place h hk tw_77 dX0_putNext_9 (fun v3 hv3 => ?_)
    refine k_VN_i (st := []) h hX (tX5_strengthAt (xl X) G F ω hI r hr v3) rfl ⟨kd_lt hr, ob_6 hr⟩ rfl miX5_strengthAt tw_438 (by decide) (by decide) rfl (Nat.le_of_ble_eq_true rfl) (by rw [hX]; exact Nat.zero_le _) (by rw [hX]; exact Nat.zero_le _) dX0_putNext_12 (fun v4 hv4 => ?_)
    refine g_if_ne (tgt := 48) h dX0_putNext_15 (by decide) (fun c5 => ?_) (fun c5 => ?_)
    · exact e_vret h hI dX0_putNext_48 (by subst hv4 hv3 hv1; first | rfl | contradiction | (unfold f_putNext; simp only [c2, c5, ↓reduceIte] <;> rfl) | (unfold f_putNext; simp [c2, c5]; done))
    · refine g_aload_n h 1 dX0_putNext_18 rfl ?_
      refine g_aload_n h 0 dX0_putNext_19 rfl ?_
      refine q_0_place h hk tw_77 dX0_putNext_20 (fun v6 hv6 => ?_)
      refine g_aload_n h 0 dX0_putNext_23 rfl ?_
      refine q_0_row h hk tw_87 dX0_putNext_24 ?_
      refine g_iconst (v := 0) h dX0_putNext_27 (by decide) ?_
      refine g_ia (q := 10) h (kv_1 hk) rfl (by decide) (vp_n (j := 0) (Nat.le_of_ble_eq_true rfl) (Nat.le_of_ble_eq_true rfl)) dX0_putNext_28 (fun v7 hv7 => ?_)
      refine g_iload_n h 2 dX0_putNext_29 rfl ?_
      refine g_iload_n h 3 dX0_putNext_30 rfl ?_
      refine k_VN_v (st := []) h hX (tX5_putIn (xl X) G F ω hI r hr v6 v7 fr t) rfl ⟨kd_lt hr, ob_6 hr⟩ rfl miX5_putIn tw_459 (by decide) (by decide) rfl (Nat.le_of_ble_eq_true rfl) (by rw [hX]; exact Nat.zero_le _) (by rw [hX]; exact Nat.zero_le _) dX0_putNext_31 (fun w8 hw8 iw8 => ?_)
      refine g_aload_n h 0 dX0_putNext_34 rfl ?_
      refine k_V_v (st := []) h hX (tX0_removeFirst (xl X) G F w8 iw8 k hk) rfl ⟨kd_lt hk, ob_9 hk⟩ rfl miX0_removeFirst tw_460 (by decide) (by decide) rfl (Nat.le_of_ble_eq_true rfl) (by rw [hX]; exact Nat.zero_le _) (by rw [hX]; exact Nat.zero_le _) dX0_putNext_35 (fun w9 hw9 iw9 => ?_)
      refine g_aload_n h 0 dX0_putNext_38 rfl ?_
      refine g_dup h dX0_putNext_39 rfl ?_
      refine q_0_acts h hk tw_85 dX0_putNext_40 (fun v10 hv10 => ?_)
      refine g_iconst (v := 1) h dX0_putNext_43 (by decide) ?_
      refine g_iadd h dX0_putNext_44 (g_name fun v11 hv11 => ?_)
      refine p_0_acts h iw9 hk tw_85 dX0_putNext_45 (fun w12 hw12 iw12 => ?_)
      exact e_vret h iw12 dX0_putNext_48 (by subst hw12 hv11 hv10 hw9 hw8 hv7 hv6 hv4 hv3 hv1; first | rfl | contradiction | (unfold f_putNext; simp only [c2, c5, ↓reduceIte] <;> rfl) | (unfold f_putNext; simp [c2, c5]; done))
set_option maxHeartbeats 4000000 in
set_option maxRecDepth 100000 in
theorem tX0_change (l0 : Launch) (G : fG) (F : Nat) (ω : fOm) (hI : Inv ω) (k : Nat) (hk : kd k = 9) (r : Nat) (hr : kd r = 6) : CT l0 G F yX0_change cX0_change 2 none 2 [.ref (F + k), .ref (F + r)] ω none (f_change ω k r) := by
  refine ct_met (own := RX0) (by decide +kernel) rfl (Nat.le_of_ble_eq_true rfl) (fun X hXl hX h => ?_)
  subst hXl
  refine g_aload_n h 1 dX0_change_0 rfl ?_
  refine g_aload_n h 0 dX0_change_1 rfl ?_
  refine q_0_place h hk tw_77 dX0_change_2 (fun v1 hv1 => ?_)
  refine k_VN_i (st := []) h hX (tX5_valueAt (xl X) G F ω hI r hr v1) rfl ⟨kd_lt hr, ob_6 hr⟩ rfl miX5_valueAt tw_450 (by decide) (by decide) rfl (Nat.le_of_ble_eq_true rfl) (by rw [hX]; exact Nat.zero_le _) (by rw [hX]; exact Nat.zero_le _) dX0_change_5 (fun v2 hv2 => ?_)
  refine g_aload_n h 0 dX0_change_8 rfl ?_
  refine q_0_one h hk tw_79 dX0_change_9 (fun v3 hv3 => ?_)
  refine g_icmp_ne (tgt := 37) h dX0_change_12 (by decide) (fun c4 => ?_) (fun c4 => ?_)
  · exact e_vret h hI dX0_change_37 (by subst hv3 hv2 hv1; first | rfl | contradiction | (unfold f_change; simp only [c4, ↓reduceIte] <;> rfl) | (unfold f_change; simp [c4]; done))
  · refine g_aload_n h 1 dX0_change_15 rfl ?_
    refine g_aload_n h 0 dX0_change_16 rfl ?_
    refine q_0_place h hk tw_77 dX0_change_17 (fun v5 hv5 => ?_)
    refine g_aload_n h 0 dX0_change_20 rfl ?_
    refine q_0_two h hk tw_81 dX0_change_21 (fun v6 hv6 => ?_)
    refine k_VN_v (st := []) h hX (tX5_changeValue (xl X) G F ω hI r hr v5 v6) rfl ⟨kd_lt hr, ob_6 hr⟩ rfl miX5_changeValue tw_469 (by decide) (by decide) rfl (Nat.le_of_ble_eq_true rfl) (by rw [hX]; exact Nat.zero_le _) (by rw [hX]; exact Nat.zero_le _) dX0_change_24 (fun w7 hw7 iw7 => ?_)
    refine g_aload_n h 0 dX0_change_27 rfl ?_
    refine g_dup h dX0_change_28 rfl ?_
    refine q_0_acts h hk tw_85 dX0_change_29 (fun v8 hv8 => ?_)
    refine g_iconst (v := 1) h dX0_change_32 (by decide) ?_
    refine g_iadd h dX0_change_33 (g_name fun v9 hv9 => ?_)
    refine p_0_acts h iw7 hk tw_85 dX0_change_34 (fun w10 hw10 iw10 => ?_)
    exact e_vret h iw10 dX0_change_37 (by subst hw10 hv9 hv8 hw7 hv6 hv5 hv3 hv2 hv1; first | rfl | contradiction | (unfold f_change; simp only [if_pos c4, ↓reduceIte] <;> rfl) | (unfold f_change; simp [if_pos c4]; done))
set_option maxHeartbeats 4000000 in
set_option maxRecDepth 100000 in
theorem tX0_dropValue (l0 : Launch) (G : fG) (F : Nat) (ω : fOm) (hI : Inv ω) (k : Nat) (hk : kd k = 9) (r : Nat) (hr : kd r = 6) : CT l0 G F yX0_dropValue cX0_dropValue 2 none 2 [.ref (F + k), .ref (F + r)] ω none (f_dropV ω k r) := by
  refine ct_met (own := RX0) (by decide +kernel) rfl (Nat.le_of_ble_eq_true rfl) (fun X hXl hX h => ?_)
  subst hXl
  refine g_aload_n h 1 dX0_dropValue_0 rfl ?_
  refine g_aload_n h 0 dX0_dropValue_1 rfl ?_
  refine q_0_place h hk tw_77 dX0_dropValue_2 (fun v1 hv1 => ?_)
  refine k_VN_i (st := []) h hX (tX5_valueAt (xl X) G F ω hI r hr v1) rfl ⟨kd_lt hr, ob_6 hr⟩ rfl miX5_valueAt tw_450 (by decide) (by decide) rfl (Nat.le_of_ble_eq_true rfl) (by rw [hX]; exact Nat.zero_le _) (by rw [hX]; exact Nat.zero_le _) dX0_dropValue_5 (fun v2 hv2 => ?_)
  refine g_aload_n h 0 dX0_dropValue_8 rfl ?_
  refine q_0_one h hk tw_79 dX0_dropValue_9 (fun v3 hv3 => ?_)
  refine g_icmp_ne (tgt := 33) h dX0_dropValue_12 (by decide) (fun c4 => ?_) (fun c4 => ?_)
  · exact e_vret h hI dX0_dropValue_33 (by subst hv3 hv2 hv1; first | rfl | contradiction | (unfold f_dropV; simp only [c4, ↓reduceIte] <;> rfl) | (unfold f_dropV; simp [c4]; done))
  · refine g_aload_n h 1 dX0_dropValue_15 rfl ?_
    refine g_aload_n h 0 dX0_dropValue_16 rfl ?_
    refine q_0_place h hk tw_77 dX0_dropValue_17 (fun v5 hv5 => ?_)
    refine k_VN_v (st := []) h hX (tX5_drop (xl X) G F ω hI r hr v5) rfl ⟨kd_lt hr, ob_6 hr⟩ rfl miX5_drop tw_477 (by decide) (by decide) rfl (Nat.le_of_ble_eq_true rfl) (by rw [hX]; exact Nat.zero_le _) (by rw [hX]; exact Nat.zero_le _) dX0_dropValue_20 (fun w6 hw6 iw6 => ?_)
    refine g_aload_n h 0 dX0_dropValue_23 rfl ?_
    refine g_dup h dX0_dropValue_24 rfl ?_
    refine q_0_acts h hk tw_85 dX0_dropValue_25 (fun v7 hv7 => ?_)
    refine g_iconst (v := 1) h dX0_dropValue_28 (by decide) ?_
    refine g_iadd h dX0_dropValue_29 (g_name fun v8 hv8 => ?_)
    refine p_0_acts h iw6 hk tw_85 dX0_dropValue_30 (fun w9 hw9 iw9 => ?_)
    exact e_vret h iw9 dX0_dropValue_33 (by subst hw9 hv8 hv7 hw6 hv5 hv3 hv2 hv1; first | rfl | contradiction | (unfold f_dropV; simp only [if_pos c4, ↓reduceIte] <;> rfl) | (unfold f_dropV; simp [if_pos c4]; done))
set_option maxHeartbeats 4000000 in
set_option maxRecDepth 100000 in
theorem tX0_actOn (l0 : Launch) (G : fG) (F : Nat) (ω : fOm) (hI : Inv ω) (k : Nat) (hk : kd k = 9) (r : Nat) (hr : kd r = 6) (b : Nat) (hb : kd b = 1) : CT l0 G F yX0_actOn cX0_actOn 3 none 3 [.ref (F + k), .ref (F + r), .ref (F + b)] ω none (f_actOn ω k r b) := by
  refine ct_met (own := RX0) (by decide +kernel) rfl (Nat.le_of_ble_eq_true rfl) (fun X hXl hX h => ?_)
  subst hXl
  refine g_aload_n h 0 dX0_actOn_0 rfl ?_
  refine q_0_kind h hk tw_71 dX0_actOn_1 (fun v1 hv1 => ?_)
  rcases sw_5 v1 with c2 | c2 | c2 | c2 | c2 | c2
  · refine g_tableIn (off := 36) (tgt := 40) h dX0_actOn_4 (by rw [c2]; decide) (by rw [c2]; decide) (by rw [c2]; rfl) (by decide) ?_
    refine g_aload_n h 0 dX0_actOn_40 rfl ?_
    refine g_aload_n h 1 dX0_actOn_41 rfl ?_
    refine k_V_v (st := []) h hX (tX0_amplify (xl X) G F ω hI k hk r hr) rfl ⟨kd_lt hk, ob_9 hk⟩ rfl miX0_amplify tw_434 (by decide) (by decide) rfl (Nat.le_of_ble_eq_true rfl) (by rw [hX]; exact Nat.zero_le _) (by rw [hX]; exact Nat.zero_le _) dX0_actOn_42 (fun w3 hw3 iw3 => ?_)
    refine g_goto (tgt := 94) h dX0_actOn_45 (by decide) ?_
    exact e_vret h iw3 dX0_actOn_94 (by subst hw3 hv1; unfold f_actOn; simp [c2])
  · refine g_tableIn (off := 44) (tgt := 48) h dX0_actOn_4 (by rw [c2]; decide) (by rw [c2]; decide) (by rw [c2]; rfl) (by decide) ?_
    refine g_aload_n h 0 dX0_actOn_48 rfl ?_
    refine g_aload_n h 1 dX0_actOn_49 rfl ?_
    refine g_aload_n h 2 dX0_actOn_50 rfl ?_
    refine g_iconst (v := 1) h dX0_actOn_51 (by decide) ?_
    refine k_VN_i (st := [.ref (F + r), .ref (F + k)]) h hX (tX6_setting (xl X) G F ω hI b hb 1) rfl ⟨kd_lt hb, ob_1 hb⟩ rfl miX6_setting tw_444 (by decide) (by decide) rfl (Nat.le_of_ble_eq_true rfl) (by rw [hX]; exact Nat.zero_le _) (by rw [hX]; exact Nat.zero_le _) dX0_actOn_52 (fun v4 hv4 => ?_)
    refine k_V_v (st := []) h hX (tX0_note (xl X) G F ω hI k hk r hr v4) rfl ⟨kd_lt hk, ob_9 hk⟩ rfl miX0_note tw_445 (by decide) (by decide) rfl (Nat.le_of_ble_eq_true rfl) (by rw [hX]; exact Nat.zero_le _) (by rw [hX]; exact Nat.zero_le _) dX0_actOn_55 (fun w5 hw5 iw5 => ?_)
    refine g_goto (tgt := 94) h dX0_actOn_58 (by decide) ?_
    exact e_vret h iw5 dX0_actOn_94 (by subst hw5 hv4 hv1; unfold f_actOn; simp [c2])
  · refine g_tableIn (off := 57) (tgt := 61) h dX0_actOn_4 (by rw [c2]; decide) (by rw [c2]; decide) (by rw [c2]; rfl) (by decide) ?_
    refine g_aload_n h 0 dX0_actOn_61 rfl ?_
    refine g_aload_n h 1 dX0_actOn_62 rfl ?_
    refine g_aload_n h 2 dX0_actOn_63 rfl ?_
    refine g_iconst (v := 3) h dX0_actOn_64 (by decide) ?_
    refine k_VN_i (st := [.ref (F + r), .ref (F + k)]) h hX (tX6_setting (xl X) G F ω hI b hb 3) rfl ⟨kd_lt hb, ob_1 hb⟩ rfl miX6_setting tw_444 (by decide) (by decide) rfl (Nat.le_of_ble_eq_true rfl) (by rw [hX]; exact Nat.zero_le _) (by rw [hX]; exact Nat.zero_le _) dX0_actOn_65 (fun v6 hv6 => ?_)
    refine g_aload_n h 2 dX0_actOn_68 rfl ?_
    refine qN_6_tick h hb tw_148 dX0_actOn_69 (fun v7 hv7 => ?_)
    refine k_V_v (st := []) h hX (tX0_putNext (xl X) G F ω hI k hk r hr v6 v7) rfl ⟨kd_lt hk, ob_9 hk⟩ rfl miX0_putNext tw_455 (by decide) (by decide) rfl (Nat.le_of_ble_eq_true rfl) (by rw [hX]; exact Nat.zero_le _) (by rw [hX]; exact Nat.zero_le _) dX0_actOn_72 (fun w8 hw8 iw8 => ?_)
    refine g_goto (tgt := 94) h dX0_actOn_75 (by decide) ?_
    exact e_vret h iw8 dX0_actOn_94 (by subst hw8 hv7 hv6 hv1; unfold f_actOn; simp [c2])
  · refine g_tableIn (off := 74) (tgt := 78) h dX0_actOn_4 (by rw [c2]; decide) (by rw [c2]; decide) (by rw [c2]; rfl) (by decide) ?_
    refine g_aload_n h 0 dX0_actOn_78 rfl ?_
    refine g_aload_n h 1 dX0_actOn_79 rfl ?_
    refine k_V_v (st := []) h hX (tX0_change (xl X) G F ω hI k hk r hr) rfl ⟨kd_lt hk, ob_9 hk⟩ rfl miX0_change tw_465 (by decide) (by decide) rfl (Nat.le_of_ble_eq_true rfl) (by rw [hX]; exact Nat.zero_le _) (by rw [hX]; exact Nat.zero_le _) dX0_actOn_80 (fun w9 hw9 iw9 => ?_)
    refine g_goto (tgt := 94) h dX0_actOn_83 (by decide) ?_
    exact e_vret h iw9 dX0_actOn_94 (by subst hw9 hv1; unfold f_actOn; simp [c2])
  · refine g_tableIn (off := 82) (tgt := 86) h dX0_actOn_4 (by rw [c2]; decide) (by rw [c2]; decide) (by rw [c2]; rfl) (by decide) ?_
    refine g_aload_n h 0 dX0_actOn_86 rfl ?_
    refine g_aload_n h 1 dX0_actOn_87 rfl ?_
    refine k_V_v (st := []) h hX (tX0_dropValue (xl X) G F ω hI k hk r hr) rfl ⟨kd_lt hk, ob_9 hk⟩ rfl miX0_dropValue tw_473 (by decide) (by decide) rfl (Nat.le_of_ble_eq_true rfl) (by rw [hX]; exact Nat.zero_le _) (by rw [hX]; exact Nat.zero_le _) dX0_actOn_88 (fun w10 hw10 iw10 => ?_)
    refine g_goto (tgt := 94) h dX0_actOn_91 (by decide) ?_
    exact e_vret h iw10 dX0_actOn_94 (by subst hw10 hv1; unfold f_actOn; simp [c2])
  · refine g_tableOut (tgt := 94) h dX0_actOn_4 c2 (by decide) ?_
    obtain ⟨c11, c12, c13, c14, c15⟩ := swo_5 c2
    exact e_vret h hI dX0_actOn_94 (by subst hv1; unfold f_actOn; simp [c11, c12, c13, c14, c15])
set_option maxHeartbeats 4000000 in
set_option maxRecDepth 100000 in
theorem tX0_rest (l0 : Launch) (G : fG) (F : Nat) (ω : fOm) (hI : Inv ω) (k : Nat) (hk : kd k = 9) (rec : Int32) : CT l0 G F yX0_rest cX0_rest 2 none 1 [.ref (F + k), .int rec] ω none (f_rest ω k rec) := by
  refine ct_met (own := RX0) (by decide +kernel) rfl (Nat.le_of_ble_eq_true rfl) (fun X hXl hX h => ?_)
  subst hXl
  refine g_aload_n h 0 dX0_rest_0 rfl ?_
  refine q_0_kind h hk tw_71 dX0_rest_1 (fun v1 hv1 => ?_)
  refine g_if_ne (tgt := 24) h dX0_rest_4 (by decide) (fun c2 => ?_) (fun c2 => ?_)
  · exact e_vret h hI dX0_rest_24 (by subst hv1; first | rfl | contradiction | (unfold f_rest f_min; simp only [c2, ↓reduceIte] <;> rfl) | (unfold f_rest f_min; simp [c2]; done))
  · refine g_aload_n h 0 dX0_rest_7 rfl ?_
    refine g_aload_n h 0 dX0_rest_8 rfl ?_
    refine q_0_store h hk tw_83 dX0_rest_9 (fun v3 hv3 => ?_)
    refine g_iload_n h 1 dX0_rest_12 rfl ?_
    refine g_iadd h dX0_rest_13 (g_name fun v4 hv4 => ?_)
    refine g_aload_n h 0 dX0_rest_14 rfl ?_
    refine q_0_two h hk tw_81 dX0_rest_15 (fun v5 hv5 => ?_)
    refine g_mmin h tw_439 tw_38 tw_3 tw_39 (by rw [hX]; decide) (by rw [hX]; exact Nat.le_of_ble_eq_true rfl) (by rw [hX]; exact Nat.zero_le _) (by rw [hX]; exact Nat.zero_le _) dX0_rest_18 (g_name fun v6 hv6 => ?_)
    refine p_0_store h hI hk tw_83 dX0_rest_21 (fun w7 hw7 iw7 => ?_)
    exact e_vret h iw7 dX0_rest_24 (by subst hw7 hv6 hv5 hv4 hv3 hv1; first | rfl | contradiction | (unfold f_rest f_min; simp only [c2, ↓reduceIte] <;> rfl) | (unfold f_rest f_min; simp [c2]; done))
set_option maxHeartbeats 4000000 in
set_option maxRecDepth 100000 in
theorem tX2_begin (l0 : Launch) (G : fG) (F : Nat) (ω : fOm) (hI : Inv ω) (k : Nat) (hk : kd k = 11) (a : Int32) (b : Int32) (c : Int32) (d : Int32) : CT l0 G F yX2_begin cX2_begin 5 none 0 [.ref (F + k), .int a, .int b, .int c, .int d] ω none (f_jbegin ω k a b c d) := by
  refine ct_met (own := RX2) (by decide +kernel) rfl (Nat.le_of_ble_eq_true rfl) (fun X hXl hX h => ?_)
  subst hXl
  refine g_aload_n h 0 dX2_begin_0 rfl ?_
  refine g_iload_n h 1 dX2_begin_1 rfl ?_
  refine p_2_nearRing h hI hk tw_115 dX2_begin_2 (fun w1 hw1 iw1 => ?_)
  refine g_aload_n h 0 dX2_begin_5 rfl ?_
  refine g_iload_n h 2 dX2_begin_6 rfl ?_
  refine p_2_nearPlace h iw1 hk tw_118 dX2_begin_7 (fun w2 hw2 iw2 => ?_)
  refine g_aload_n h 0 dX2_begin_10 rfl ?_
  refine g_iload_n h 3 dX2_begin_11 rfl ?_
  refine p_2_farRing h iw2 hk tw_120 dX2_begin_12 (fun w3 hw3 iw3 => ?_)
  refine g_aload_n h 0 dX2_begin_15 rfl ?_
  refine g_iload h 4 dX2_begin_16 rfl ?_
  refine p_2_farPlace h iw3 hk tw_123 dX2_begin_18 (fun w4 hw4 iw4 => ?_)
  refine g_aload_n h 0 dX2_begin_21 rfl ?_
  refine g_iconst (v := 0) h dX2_begin_22 (by decide) ?_
  refine p_2_mode h iw4 hk tw_125 dX2_begin_23 (fun w5 hw5 iw5 => ?_)
  refine g_aload_n h 0 dX2_begin_26 rfl ?_
  refine g_iconst (v := 0) h dX2_begin_27 (by decide) ?_
  refine p_2_passed h iw5 hk tw_128 dX2_begin_28 (fun w6 hw6 iw6 => ?_)
  exact e_vret h iw6 dX2_begin_31 (by subst hw6 hw5 hw4 hw3 hw2 hw1; first | rfl | contradiction | (simp only [↓reduceIte] <;> rfl) | (simp []; done))
set_option maxHeartbeats 4000000 in
set_option maxRecDepth 100000 in
theorem tX2_copyFrom (l0 : Launch) (G : fG) (F : Nat) (ω : fOm) (hI : Inv ω) (k : Nat) (hk : kd k = 11) (k2 : Nat) (hk2 : kd k2 = 11) : CT l0 G F yX2_copyFrom cX2_copyFrom 2 none 0 [.ref (F + k), .ref (F + k2)] ω none (f_jcopy ω k k2) := by
  refine ct_met (own := RX2) (by decide +kernel) rfl (Nat.le_of_ble_eq_true rfl) (fun X hXl hX h => ?_)
  subst hXl
  refine g_aload_n h 0 dX2_copyFrom_0 rfl ?_
  refine g_aload_n h 1 dX2_copyFrom_1 rfl ?_
  refine q_2_nearRing h hk2 tw_115 dX2_copyFrom_2 (fun v1 hv1 => ?_)
  refine p_2_nearRing h hI hk tw_115 dX2_copyFrom_5 (fun w2 hw2 iw2 => ?_)
  refine g_aload_n h 0 dX2_copyFrom_8 rfl ?_
  refine g_aload_n h 1 dX2_copyFrom_9 rfl ?_
  refine q_2_nearPlace h hk2 tw_118 dX2_copyFrom_10 (fun v3 hv3 => ?_)
  refine p_2_nearPlace h iw2 hk tw_118 dX2_copyFrom_13 (fun w4 hw4 iw4 => ?_)
  refine g_aload_n h 0 dX2_copyFrom_16 rfl ?_
  refine g_aload_n h 1 dX2_copyFrom_17 rfl ?_
  refine q_2_farRing h hk2 tw_120 dX2_copyFrom_18 (fun v5 hv5 => ?_)
  refine p_2_farRing h iw4 hk tw_120 dX2_copyFrom_21 (fun w6 hw6 iw6 => ?_)
  refine g_aload_n h 0 dX2_copyFrom_24 rfl ?_
  refine g_aload_n h 1 dX2_copyFrom_25 rfl ?_
  refine q_2_farPlace h hk2 tw_123 dX2_copyFrom_26 (fun v7 hv7 => ?_)
  refine p_2_farPlace h iw6 hk tw_123 dX2_copyFrom_29 (fun w8 hw8 iw8 => ?_)
  refine g_aload_n h 0 dX2_copyFrom_32 rfl ?_
  refine g_aload_n h 1 dX2_copyFrom_33 rfl ?_
  refine q_2_mode h hk2 tw_125 dX2_copyFrom_34 (fun v9 hv9 => ?_)
  refine p_2_mode h iw8 hk tw_125 dX2_copyFrom_37 (fun w10 hw10 iw10 => ?_)
  refine g_aload_n h 0 dX2_copyFrom_40 rfl ?_
  refine g_aload_n h 1 dX2_copyFrom_41 rfl ?_
  refine q_2_passed h hk2 tw_128 dX2_copyFrom_42 (fun v11 hv11 => ?_)
  refine p_2_passed h iw10 hk tw_128 dX2_copyFrom_45 (fun w12 hw12 iw12 => ?_)
  exact e_vret h iw12 dX2_copyFrom_48 (by subst hw12 hv11 hw10 hv9 hw8 hv7 hw6 hv5 hw4 hv3 hw2 hv1; first | rfl | contradiction | (simp only [↓reduceIte] <;> rfl) | (simp []; done))
set_option maxHeartbeats 4000000 in
set_option maxRecDepth 100000 in
theorem tX2_actOn (l0 : Launch) (G : fG) (F : Nat) (ω : fOm) (hI : Inv ω) (k : Nat) (hk : kd k = 11) (r : Nat) (hr : kd r = 6) (r2 : Nat) (hr2 : kd r2 = 6) : CT l0 G F yX2_actOn cX2_actOn 5 none 2 [.ref (F + k), .ref (F + r), .ref (F + r2)] ω none (f_joinAct ω k r r2) := by
  refine ct_met (own := RX2) (by decide +kernel) rfl (Nat.le_of_ble_eq_true rfl) (fun X hXl hX h => ?_)
  subst hXl
  refine g_aload_n h 1 dX2_actOn_0 rfl ?_
  refine g_aload_n h 0 dX2_actOn_1 rfl ?_
  refine q_2_nearPlace h hk tw_118 dX2_actOn_2 (fun v1 hv1 => ?_)
  refine k_VN_i (st := []) h hX (tX5_strengthAt (xl X) G F ω hI r hr v1) rfl ⟨kd_lt hr, ob_6 hr⟩ rfl miX5_strengthAt tw_485 (by decide) (by decide) rfl (Nat.le_of_ble_eq_true rfl) (by rw [hX]; exact Nat.zero_le _) (by rw [hX]; exact Nat.zero_le _) dX2_actOn_5 (fun v2 hv2 => ?_)
  have hm16_7 : ∀ m6 : Int32, m6 = (if v2 ≤ 0 then 0 else 1) → Vg X (MQ (xb X) (fQ G F (fP F G none (f_joinAct ω k r r2))) (xa X) (xs X) 0 0 (fA F)) G F 5 NC (cel F G ω) 0 0 16 [(0, .ref (F + k)), (1, .ref (F + r)), (2, .ref (F + r2))] [.int m6] := by
    intro m6 hm6
    refine g_istore_n (loc2 := [(3, .int m6), (0, .ref (F + k)), (1, .ref (F + r)), (2, .ref (F + r2))]) h dX2_actOn_16 (by decide) rfl ?_
    refine g_aload_n h 3 dX2_actOn_17 rfl ?_
    refine g_aload_n h 1 dX2_actOn_18 rfl ?_
    refine q_2_farPlace h hk tw_123 dX2_actOn_19 (fun v8 hv8 => ?_)
    refine k_VN_i (st := []) h hX (tX5_strengthAt (xl X) G F ω hI r2 hr2 v8) rfl ⟨kd_lt hr2, ob_6 hr2⟩ rfl miX5_strengthAt tw_485 (by decide) (by decide) rfl (Nat.le_of_ble_eq_true rfl) (by rw [hX]; exact Nat.zero_le _) (by rw [hX]; exact Nat.zero_le _) dX2_actOn_22 (fun v9 hv9 => ?_)
    have hm33_14 : ∀ m13 : Int32, m13 = (if v9 ≤ 0 then 0 else 1) → Vg X (MQ (xb X) (fQ G F (fP F G none (f_joinAct ω k r r2))) (xa X) (xs X) 0 0 (fA F)) G F 5 NC (cel F G ω) 0 0 33 [(3, .int m6), (0, .ref (F + k)), (1, .ref (F + r)), (2, .ref (F + r2))] [.int m13] := by
      intro m13 hm13
      refine g_istore (loc2 := [(4, .int m13), (3, .int m6), (0, .ref (F + k)), (1, .ref (F + r)), (2, .ref (F + r2))]) h dX2_actOn_33 (by decide) rfl ?_
      refine g_aload_n h 2 dX2_actOn_35 rfl ?_
      refine q_2_mode h hk tw_125 dX2_actOn_36 (fun v15 hv15 => ?_)
      refine g_if_eq (tgt := 55) h dX2_actOn_39 (by decide) (fun c16 => ?_) (fun c16 => ?_)
      · exact e_vret h hI dX2_actOn_55 (by subst hv15 hm13 hv9 hv8 hm6 hv2 hv1; first | rfl | contradiction | (unfold f_joinAct f_jgo f_lit; simp only [c16, ↓reduceIte] <;> rfl) | (unfold f_joinAct f_jgo f_lit; simp [c16]; done))
      · refine g_aload_n h 2 dX2_actOn_42 rfl ?_
        refine q_2_mode h hk tw_125 dX2_actOn_43 (fun v17 hv17 => ?_)
        refine g_iconst (v := 2) h dX2_actOn_46 (by decide) ?_
        refine g_icmp_ne (tgt := 56) h dX2_actOn_47 (by decide) (fun c18 => ?_) (fun c18 => ?_)
        · refine g_aload_n h 3 dX2_actOn_56 rfl ?_
          refine g_aload_n h 2 dX2_actOn_57 rfl ?_
          refine q_2_nearPlace h hk tw_118 dX2_actOn_58 (fun v19 hv19 => ?_)
          refine g_aload_n h 4 dX2_actOn_61 rfl ?_
          refine g_aload_n h 2 dX2_actOn_62 rfl ?_
          refine q_2_farPlace h hk tw_123 dX2_actOn_63 (fun v20 hv20 => ?_)
          refine k_VN_v (st := []) h hX (tX5_exchange (xl X) G F ω hI r hr v19 r2 hr2 v20) rfl ⟨kd_lt hr, ob_6 hr⟩ rfl miX5_exchange tw_486 (by decide) (by decide) rfl (Nat.le_of_ble_eq_true rfl) (by rw [hX]; exact Nat.zero_le _) (by rw [hX]; exact Nat.zero_le _) dX2_actOn_66 (fun w21 hw21 iw21 => ?_)
          refine g_iload_n h 1 dX2_actOn_69 rfl ?_
          have hm88_30 : ∀ w29 : fOm, w29 = (if m6 = 0 then w21 else (wu (f_tell w21 r r2) k 5 (((f_tell w21 r r2) k 5) + 1))) → Inv w29 → Vg X (MQ (xb X) (fQ G F (fP F G none (f_joinAct ω k r r2))) (xa X) (xs X) 0 0 (fA F)) G F 5 NC (cel F G w29) 0 0 88 [(4, .int m13), (3, .int m6), (0, .ref (F + k)), (1, .ref (F + r)), (2, .ref (F + r2))] [] := by
            intro w29 hw29 iw29
            refine g_iload h 0 dX2_actOn_88 rfl ?_
            refine g_if_eq (tgt := 108) h dX2_actOn_90 (by decide) (fun c31 => ?_) (fun c31 => ?_)
            · exact e_vret h iw29 dX2_actOn_108 (by subst hw29 hw21 hv20 hv19 hv17 hv15 hm13 hv9 hv8 hm6 hv2 hv1; first | rfl | contradiction | (unfold f_joinAct f_jgo f_lit; simp only [c16, c18, c31, ↓reduceIte] <;> rfl) | (unfold f_joinAct f_jgo f_lit; simp [c16, c18, c31]; done))
            · refine g_aload_n h 4 dX2_actOn_93 rfl ?_
              refine g_aload_n h 3 dX2_actOn_94 rfl ?_
              refine k_VN_v (st := []) h hX (tX5_tellCrossing (xl X) G F w29 iw29 r2 hr2 r hr) rfl ⟨kd_lt hr2, ob_6 hr2⟩ rfl miX5_tellCrossing tw_490 (by decide) (by decide) rfl (Nat.le_of_ble_eq_true rfl) (by rw [hX]; exact Nat.zero_le _) (by rw [hX]; exact Nat.zero_le _) dX2_actOn_95 (fun w32 hw32 iw32 => ?_)
              refine g_aload_n h 2 dX2_actOn_98 rfl ?_
              refine g_dup h dX2_actOn_99 rfl ?_
              refine q_2_passed h hk tw_128 dX2_actOn_100 (fun v33 hv33 => ?_)
              refine g_iconst (v := 1) h dX2_actOn_103 (by decide) ?_
              refine g_iadd h dX2_actOn_104 (g_name fun v34 hv34 => ?_)
              refine p_2_passed h iw32 hk tw_128 dX2_actOn_105 (fun w35 hw35 iw35 => ?_)
              exact e_vret h iw35 dX2_actOn_108 (by subst hw35 hv34 hv33 hw32 hw29 hw21 hv20 hv19 hv17 hv15 hm13 hv9 hv8 hm6 hv2 hv1; first | rfl | contradiction | (unfold f_joinAct f_jgo f_lit; simp only [c16, c18, c31, ↓reduceIte] <;> rfl) | (unfold f_joinAct f_jgo f_lit; simp [c16, c18, c31]; done))
          refine g_if_eq (tgt := 88) h dX2_actOn_70 (by decide) (fun c22 => ?_) (fun c22 => ?_)
          · exact hm88_30 _ (by subst hw21 hv20 hv19 hv17 hv15 hm13 hv9 hv8 hm6 hv2 hv1; rw [if_pos c22]) iw21
          · refine g_aload_n h 3 dX2_actOn_73 rfl ?_
            refine g_aload_n h 4 dX2_actOn_74 rfl ?_
            refine k_VN_v (st := []) h hX (tX5_tellCrossing (xl X) G F w21 iw21 r hr r2 hr2) rfl ⟨kd_lt hr, ob_6 hr⟩ rfl miX5_tellCrossing tw_490 (by decide) (by decide) rfl (Nat.le_of_ble_eq_true rfl) (by rw [hX]; exact Nat.zero_le _) (by rw [hX]; exact Nat.zero_le _) dX2_actOn_75 (fun w24 hw24 iw24 => ?_)
            refine g_aload_n h 2 dX2_actOn_78 rfl ?_
            refine g_dup h dX2_actOn_79 rfl ?_
            refine q_2_passed h hk tw_128 dX2_actOn_80 (fun v25 hv25 => ?_)
            refine g_iconst (v := 1) h dX2_actOn_83 (by decide) ?_
            refine g_iadd h dX2_actOn_84 (g_name fun v26 hv26 => ?_)
            refine p_2_passed h iw24 hk tw_128 dX2_actOn_85 (fun w27 hw27 iw27 => ?_)
            exact hm88_30 _ (by subst hw27 hv26 hv25 hw24 hw21 hv20 hv19 hv17 hv15 hm13 hv9 hv8 hm6 hv2 hv1; rw [if_neg c22]) iw27
        · refine g_iload h 0 dX2_actOn_50 rfl ?_
          refine g_if_eq (tgt := 56) h dX2_actOn_52 (by decide) (fun c36 => ?_) (fun c36 => ?_)
          · refine g_aload_n h 3 dX2_actOn_56 rfl ?_
            refine g_aload_n h 2 dX2_actOn_57 rfl ?_
            refine q_2_nearPlace h hk tw_118 dX2_actOn_58 (fun v37 hv37 => ?_)
            refine g_aload_n h 4 dX2_actOn_61 rfl ?_
            refine g_aload_n h 2 dX2_actOn_62 rfl ?_
            refine q_2_farPlace h hk tw_123 dX2_actOn_63 (fun v38 hv38 => ?_)
            refine k_VN_v (st := []) h hX (tX5_exchange (xl X) G F ω hI r hr v37 r2 hr2 v38) rfl ⟨kd_lt hr, ob_6 hr⟩ rfl miX5_exchange tw_486 (by decide) (by decide) rfl (Nat.le_of_ble_eq_true rfl) (by rw [hX]; exact Nat.zero_le _) (by rw [hX]; exact Nat.zero_le _) dX2_actOn_66 (fun w39 hw39 iw39 => ?_)
            refine g_iload_n h 1 dX2_actOn_69 rfl ?_
            have hm88_48 : ∀ w47 : fOm, w47 = (if m6 = 0 then w39 else (wu (f_tell w39 r r2) k 5 (((f_tell w39 r r2) k 5) + 1))) → Inv w47 → Vg X (MQ (xb X) (fQ G F (fP F G none (f_joinAct ω k r r2))) (xa X) (xs X) 0 0 (fA F)) G F 5 NC (cel F G w47) 0 0 88 [(4, .int m13), (3, .int m6), (0, .ref (F + k)), (1, .ref (F + r)), (2, .ref (F + r2))] [] := by
              intro w47 hw47 iw47
              refine g_iload h 0 dX2_actOn_88 rfl ?_
              refine g_if_eq (tgt := 108) h dX2_actOn_90 (by decide) (fun c49 => ?_) (fun c49 => ?_)
              · exact e_vret h iw47 dX2_actOn_108 (by subst hw47 hw39 hv38 hv37 hv17 hv15 hm13 hv9 hv8 hm6 hv2 hv1; first | rfl | contradiction | (unfold f_joinAct f_jgo f_lit; simp only [c16, c18, c36, c49, ↓reduceIte] <;> rfl) | (unfold f_joinAct f_jgo f_lit; simp [c16, c18, c36, c49]; done))
              · refine g_aload_n h 4 dX2_actOn_93 rfl ?_
                refine g_aload_n h 3 dX2_actOn_94 rfl ?_
                refine k_VN_v (st := []) h hX (tX5_tellCrossing (xl X) G F w47 iw47 r2 hr2 r hr) rfl ⟨kd_lt hr2, ob_6 hr2⟩ rfl miX5_tellCrossing tw_490 (by decide) (by decide) rfl (Nat.le_of_ble_eq_true rfl) (by rw [hX]; exact Nat.zero_le _) (by rw [hX]; exact Nat.zero_le _) dX2_actOn_95 (fun w50 hw50 iw50 => ?_)
                refine g_aload_n h 2 dX2_actOn_98 rfl ?_
                refine g_dup h dX2_actOn_99 rfl ?_
                refine q_2_passed h hk tw_128 dX2_actOn_100 (fun v51 hv51 => ?_)
                refine g_iconst (v := 1) h dX2_actOn_103 (by decide) ?_
                refine g_iadd h dX2_actOn_104 (g_name fun v52 hv52 => ?_)
                refine p_2_passed h iw50 hk tw_128 dX2_actOn_105 (fun w53 hw53 iw53 => ?_)
                exact e_vret h iw53 dX2_actOn_108 (by subst hw53 hv52 hv51 hw50 hw47 hw39 hv38 hv37 hv17 hv15 hm13 hv9 hv8 hm6 hv2 hv1; first | rfl | contradiction | (unfold f_joinAct f_jgo f_lit; simp only [c16, c18, c36, c49, ↓reduceIte] <;> rfl) | (unfold f_joinAct f_jgo f_lit; simp [c16, c18, c36, c49]; done))
            refine g_if_eq (tgt := 88) h dX2_actOn_70 (by decide) (fun c40 => ?_) (fun c40 => ?_)
            · exact hm88_48 _ (by subst hw39 hv38 hv37 hv17 hv15 hm13 hv9 hv8 hm6 hv2 hv1; rw [if_pos c40]) iw39
            · refine g_aload_n h 3 dX2_actOn_73 rfl ?_
              refine g_aload_n h 4 dX2_actOn_74 rfl ?_
              refine k_VN_v (st := []) h hX (tX5_tellCrossing (xl X) G F w39 iw39 r hr r2 hr2) rfl ⟨kd_lt hr, ob_6 hr⟩ rfl miX5_tellCrossing tw_490 (by decide) (by decide) rfl (Nat.le_of_ble_eq_true rfl) (by rw [hX]; exact Nat.zero_le _) (by rw [hX]; exact Nat.zero_le _) dX2_actOn_75 (fun w42 hw42 iw42 => ?_)
              refine g_aload_n h 2 dX2_actOn_78 rfl ?_
              refine g_dup h dX2_actOn_79 rfl ?_
              refine q_2_passed h hk tw_128 dX2_actOn_80 (fun v43 hv43 => ?_)
              refine g_iconst (v := 1) h dX2_actOn_83 (by decide) ?_
              refine g_iadd h dX2_actOn_84 (g_name fun v44 hv44 => ?_)
              refine p_2_passed h iw42 hk tw_128 dX2_actOn_85 (fun w45 hw45 iw45 => ?_)
              exact hm88_48 _ (by subst hw45 hv44 hv43 hw42 hw39 hv38 hv37 hv17 hv15 hm13 hv9 hv8 hm6 hv2 hv1; rw [if_neg c40]) iw45
          · exact e_vret h hI dX2_actOn_55 (by subst hv17 hv15 hm13 hv9 hv8 hm6 hv2 hv1; first | rfl | contradiction | (unfold f_joinAct f_jgo f_lit; simp only [c16, c18, c36, ↓reduceIte] <;> rfl) | (unfold f_joinAct f_jgo f_lit; simp [c16, c18, c36]; done))
    refine g_if_le (tgt := 32) h dX2_actOn_25 (by decide) (fun c10 => ?_) (fun c10 => ?_)
    · refine g_iconst (v := 0) h dX2_actOn_32 (by decide) ?_
      exact hm33_14 _ (by subst hv9 hv8 hm6 hv2 hv1; rw [if_pos c10])
    · refine g_iconst (v := 1) h dX2_actOn_28 (by decide) ?_
      refine g_goto (tgt := 33) h dX2_actOn_29 (by decide) ?_
      exact hm33_14 _ (by subst hv9 hv8 hm6 hv2 hv1; rw [if_neg c10])
  refine g_if_le (tgt := 15) h dX2_actOn_8 (by decide) (fun c3 => ?_) (fun c3 => ?_)
  · refine g_iconst (v := 0) h dX2_actOn_15 (by decide) ?_
    exact hm16_7 _ (by subst hv2 hv1; rw [if_pos c3])
  · refine g_iconst (v := 1) h dX2_actOn_11 (by decide) ?_
    refine g_goto (tgt := 16) h dX2_actOn_12 (by decide) ?_
    exact hm16_7 _ (by subst hv2 hv1; rw [if_neg c3])
