/-! ===== the constructors' walks ===== -/
section FCW
variable {X : xT} {Q : State → Prop} {G : fG} {F nL n : Nat} {cf : Nat → va_E} {cells slots pc : Nat} {loc : List (Nat × Value)} {st : List Value} {cc : ByteArray} {own : String} {ret : Option FieldType} {index : Nat}
theorem g_nm {n2 c2 s2 : Nat} (e : n = n2) (h1 : cells ≤ c2) (h2 : slots ≤ s2) (kk : Vg X Q G F nL n2 cf c2 s2 pc loc st) : Vg X Q G F nL n cf cells slots pc loc st := by
  subst e
  exact g_widen h1 h2 kk
theorem cz {k q : Nat} (h : kd k = q) (h2 : q ≠ 2 := by decide) (h14 : q ≠ 14 := by decide) (h22 : q ≠ 22 := by decide) : cel F G iW k = celr F G k (fun _ => 0) := by
  unfold cel
  rw [iW_0 h h2 h14 h22]
theorem cI_set {k : Nat} (h : kd k = 2) : cel F G iW k = .inl (G.2.2.1 0, 4, .inl (fun i => if i < 4 then sV 2 i else 0)) := by
  have e : iW k = fun i => if i < 4 then sV 2 i else 0 := by
    funext i
    unfold iW
    rw [h, if_pos rfl]
  unfold cel
  rw [e]
  exact cel_I h rfl
theorem kd_l1 : ∀ i, i < 7 → kd (118 + 1 + 58 * i) = 1 := by decide +kernel
theorem kd_l7 : ∀ i, i < 2 → kd (531 + 58 * i) = 1 := by decide +kernel
theorem cI_row (l : Launch) (G : fG) (F n k1 : Nat) (hk1 : k1 < n) (cf : Nat → va_E) (e : cf k1 = .inl (G.2.2.1 0, 4, .inl (fun _ => 0))) : Met l yX7_copyRow (.code yX7_copyRow cX7_copyRow 2 none :: Tg) (rmC 1 0 0) (va_Pc [.ref (G.2.2.2 2), .ref (F + k1)] (fB G F n cf)) (fQ G F (fun r n2 cf2 => r = none ∧ n2 = n ∧ cf2 k1 = .inl (G.2.2.1 0, 4, .inl (fun i => if i < 4 then sV 2 i else 0)) ∧ ∀ q, q ≠ k1 → cf2 q = cf q)) 0 0 (fA F) := by
  refine g_met (own := RX7) (by decide +kernel) rfl (Nat.le_of_ble_eq_true rfl) (fun X hXl hX h => ?_)
  subst hXl
  refine g_aload_n h 0 dX7_copyRow_0 rfl ?_
  refine g_iconst (v := 0) h dX7_copyRow_1 (by decide) ?_
  refine g_aload_n h 1 dX7_copyRow_2 rfl ?_
  refine g_iconst (v := 0) h dX7_copyRow_3 (by decide) ?_
  refine g_aload_n h 0 dX7_copyRow_4 rfl ?_
  refine g_slen (j := 2) h (by decide) dX7_copyRow_5 ?_
  refine g_aload_n h 1 dX7_copyRow_6 rfl ?_
  refine g_alen (ti := 0) (v := 4) h hk1 e rfl rfl dX7_copyRow_7 ?_
  refine g_mmin h tw_37 tw_38 tw_3 tw_39 (by rw [hX]; exact Nat.le_of_ble_eq_true rfl) (by rw [hX]; exact Nat.le_of_ble_eq_true rfl) (by rw [hX]; exact Nat.zero_le _) (by rw [hX]; exact Nat.zero_le _) dX7_copyRow_8 ?_
  rw [if_neg (show ¬ (4 : Int32) < 4 by decide)]
  refine g_copyS (j := 2) (m := 4) h (by decide) hk1 e (by decide) (by decide) (by decide) (by decide) (by decide) tw_40 tw_42 tw_41 tw_4 (by rw [hX]; exact Nat.le_of_ble_eq_true rfl) (by rw [hX]; exact Nat.le_of_ble_eq_true rfl) dX7_copyRow_11 (g_set fun cf2 e2 o2 => ?_)
  refine g_vret h dX7_copyRow_14 ⟨rfl, rfl, ?_, o2⟩
  rw [e2]
  congr 4
  funext i
  show va_cpy (sV 2) (fun _ => 0) 0 0 4 i = _
  unfold va_cpy
  by_cases z : i < 4
  · rw [if_pos ⟨Nat.zero_le _, by omega⟩, if_pos z, Nat.zero_add, Nat.sub_zero]
  · rw [if_neg (fun a => z (by omega)), if_neg z]
theorem dfX0 : ∀ j, j < 9 → defaultValue (tyX0 j) = vp_V [.int 0, .int 0, .int 0, .int 0, .int 0, .int 0, .int 0, .null, .int 0] j := by decide +kernel
theorem dfX1 : ∀ j, j < 2 → defaultValue (tyX1 j) = vp_V [.null, .int 0] j := by decide +kernel
theorem dfX2 : ∀ j, j < 6 → defaultValue (tyX2 j) = vp_V [.int 0, .int 0, .int 0, .int 0, .int 0, .int 0] j := by decide +kernel
theorem dfX3 : ∀ j, j < 5 → defaultValue (tyX3 j) = vp_V [.null, .int 0, .int 0, .null, .int 0] j := by decide +kernel
theorem dfX4 : ∀ j, j < 2 → defaultValue (tyX4 j) = vp_V [.null, .int 0] j := by decide +kernel
theorem dfX5 : ∀ j, j < 5 → defaultValue (tyX5 j) = vp_V [.int 0, .null, .null, .null, .null] j := by decide +kernel
theorem dfX6 : ∀ j, j < 8 → defaultValue (tyX6 j) = vp_V [.null, .null, .null, .null, .int 0, .int 0, .int 0, .int 0] j := by decide +kernel
theorem dfX7 : ∀ j, j < 7 → defaultValue (tyX7 j) = vp_V [.null, .null, .null, .null, .null, .null, .null] j := by decide +kernel
theorem dfX8 : ∀ j, j < 16 → defaultValue (tyX8 j) = vp_V [.null, .null, .int 0, .int 0, .null, .null, .null, .null, .int 0, .int 0, .int 0, .int 0, .int 0, .null, .null, .null] j := by decide +kernel
def mIv (f : Nat → Int32) (j : Nat) : Nat → Int32 := fun i => if 290 ≤ i ∧ i < 290 + 3 * j ∧ (i - 290) % 3 = 0 then -6 else f i
theorem mI_loop (h : Cx X G F 2 cX8_init own ret) (ho : own = RX8) {fs : List Value} {f0 : Nat → Int32} (e0 : cf 647 = .inr (8, .ref (F + 648) :: fs)) (e1 : cf 648 = .inl (G.2.2.1 0, 770, .inl f0)) (hn : 648 < n)
    (kx : ∀ cf2 : Nat → va_E, cf2 648 = .inl (G.2.2.1 0, 770, .inl (mIv f0 160)) → (∀ q, q ≠ 648 → cf2 q = cf q) → Vg X Q G F 2 n cf2 cells slots 137 [(1, .int (nI 770)), (0, .ref (F + 647))] []) : Vg X Q G F 2 n cf cells slots 116 [(1, .int (nI 290)), (0, .ref (F + 647))] [] := by
  have key : ∀ m j : Nat, ∀ cf1 : Nat → va_E, m + j = 160 → cf1 648 = .inl (G.2.2.1 0, 770, .inl (mIv f0 j)) → (∀ q, q ≠ 648 → cf1 q = cf q) → Vg X Q G F 2 n cf1 cells slots 116 [(1, .int (nI (290 + 3 * j))), (0, .ref (F + 647))] [] := by
    intro m
    induction m with
    | zero =>
      intro j cf1 hj x1 o1
      have hj : j = 160 := by omega
      subst hj
      refine g_iload_n h 0 dX8_init_116 rfl ?_
      refine g_sipush (v := nI 770) h dX8_init_117 (by decide) ?_
      exact g_icmp_ge (tgt := 137) h dX8_init_120 (by decide) (fun _ => kx cf1 x1 o1) (fun c => absurd (nI_le (a := 770) (Nat.le_refl _) (by decide)) c)
    | succ m ih =>
      intro j cf1 hj x1 o1
      refine g_iload_n h 0 dX8_init_116 rfl ?_
      refine g_sipush (v := nI 770) h dX8_init_117 (by decide) ?_
      refine g_icmp_ge (tgt := 137) h dX8_init_120 (by decide) (fun c => absurd c (nI_ge (by omega) (by decide))) (fun _ => ?_)
      refine g_aload_n h 1 dX8_init_123 rfl ?_
      refine g_get (v := .ref (F + 648)) (N := 16) h (by omega) ((o1 647 (by decide)).trans e0) rfl iw_8 0 (by decide) (by rw [ho]; exact tw_708) rfl rfl dX8_init_124 ?_
      refine g_iload_n h 0 dX8_init_127 rfl ?_
      refine g_bipush (v := -6) h dX8_init_128 (by decide) ?_
      refine g_iast h hn x1 (vp_n (by omega) (by decide)) dX8_init_130 (g_set fun cf2 x2 o2 => ?_)
      refine g_iinc (v := nI (290 + 3 * (j + 1))) h 0 dX8_init_131 rfl (nI_add (290 + 3 * j) 3) (by decide) rfl ?_
      refine g_goto (tgt := 116) h dX8_init_134 (by decide) ?_
      refine ih (j + 1) cf2 (by omega) ?_ (fun q hq => (o2 q hq).trans (o1 q hq))
      have ef : upd (mIv f0 j) (nI (290 + 3 * j)).toNatClampNeg (-6) = mIv f0 (j + 1) := by
        funext i
        rw [nI_clamp (by omega)]
        unfold upd mIv
        by_cases z : i = 290 + 3 * j
        · rw [if_pos z, if_pos (by omega)]
        · rw [if_neg z]
          by_cases z2 : 290 ≤ i ∧ i < 290 + 3 * j ∧ (i - 290) % 3 = 0
          · rw [if_pos z2, if_pos (by omega)]
          · rw [if_neg z2, if_neg (by omega)]
      rw [x2, ef]
  refine key 160 0 cf rfl ?_ (fun _ _ => rfl)
  rw [e1]
  have ef : f0 = mIv f0 0 := by
    funext i
    unfold mIv
    rw [if_neg (by omega)]
  rw [← ef]
theorem mI_at : cel F G iW 648 = .inl (G.2.2.1 0, 770, .inl (mIv (upd (upd (upd (upd (fun _ => 0) 0 10) 1 40) 2 20) 3 600) 160)) := by
  have e : iW 648 = mIv (upd (upd (upd (upd (fun _ => 0) 0 10) 1 40) 2 20) 3 600) 160 := by
    funext i
    show iAt i = _
    unfold iAt mIv upd
    by_cases z : 290 ≤ i ∧ i < 290 + 3 * 160 ∧ (i - 290) % 3 = 0
    · rw [if_pos z, if_neg (by omega), if_neg (by omega), if_neg (by omega), if_neg (by omega), if_pos (by omega)]
    · rw [if_neg z]
      by_cases z0 : i = 0
      · subst z0; rfl
      · by_cases z1 : i = 1
        · subst z1; rfl
        · by_cases z2 : i = 2
          · subst z2; rfl
          · by_cases z3 : i = 3
            · subst z3; rfl
            · rw [if_neg z0, if_neg z1, if_neg z2, if_neg z3, if_neg (by omega), if_neg z3, if_neg z2, if_neg z1, if_neg z0]
  unfold cel
  rw [e]
  exact cel_I (k := 648) rfl rfl
end FCW
theorem tX5_init (l : Launch) (G : fG) (F : Nat) (k : Nat) (hk : kd k = 6) (cf0 : Nat → va_E) (e0 : cf0 k = .inr (5, [.int 0, .null, .null, .null, .null])) : CI l G F yX5_init cX5_init 1 1 k 5 101 [] cf0 := by
  unfold CI
  refine g_meti (own := RX5) (by decide +kernel) rfl rfl (Nat.le_of_ble_eq_true rfl) (fun X hXl hX h hin => ?_)
  subst hXl
  refine g_aload_n h 0 dX5_init_0 rfl ?_
  refine g_objInit h tw_47 tw_18 tw_19 (by rw [hX]; exact Nat.le_of_ble_eq_true rfl) (by rw [hX]; exact Nat.le_of_ble_eq_true rfl) dX5_init_1 ?_
  refine g_aload_n h 0 dX5_init_4 rfl ?_
  refine g_bipush (v := 32) h dX5_init_5 (by decide) ?_
  refine g_newa (atype := .int) (ty := .int) (ti := 0) (N := 32) h rfl rfl (fun C e => by cases e) rfl tw_65 (by decide) (by decide) (Nat.le_of_ble_eq_true rfl) (by rw [hX]; exact Nat.le_of_ble_eq_true rfl) (by rw [hX]; exact Nat.le_of_ble_eq_true rfl) dX5_init_7 (g_set fun cf1 (e1 : cf1 (k + 1) = .inl (G.2.2.1 0, 32, .inl (fun _ => 0))) o1 => ?_)
  refine g_nm (n2 := k + 2) (c2 := 1) (s2 := 32) (by omega) (by omega) (by omega) ?_
  refine g_putF (N := 5) h (by omega) ((o1 k (by omega)).trans (e0)) rfl iw_5 tyX5 tyX5_ok nmX5 1 (by decide) tw_50 rfl rfl rfl hin rfl rfl rfl (by show 1 < 5; decide) dX5_init_9 (g_set fun cf2 (e2 : cf2 k = .inr (5, [.int 0, .ref (F + (k + 1)), .null, .null, .null])) o2 => ?_)
  refine g_aload_n h 0 dX5_init_12 rfl ?_
  refine g_bipush (v := 32) h dX5_init_13 (by decide) ?_
  refine g_newa (atype := .int) (ty := .int) (ti := 0) (N := 32) h rfl rfl (fun C e => by cases e) rfl tw_65 (by decide) (by decide) (Nat.le_of_ble_eq_true rfl) (by rw [hX]; exact Nat.le_of_ble_eq_true rfl) (by rw [hX]; exact Nat.le_of_ble_eq_true rfl) dX5_init_15 (g_set fun cf3 (e3 : cf3 (k + 2) = .inl (G.2.2.1 0, 32, .inl (fun _ => 0))) o3 => ?_)
  refine g_nm (n2 := k + 3) (c2 := 2) (s2 := 64) (by omega) (by omega) (by omega) ?_
  refine g_putF (N := 5) h (by omega) ((o3 k (by omega)).trans (e2)) rfl iw_5 tyX5 tyX5_ok nmX5 2 (by decide) tw_51 rfl rfl rfl hin rfl rfl rfl (by show 2 < 5; decide) dX5_init_17 (g_set fun cf4 (e4 : cf4 k = .inr (5, [.int 0, .ref (F + (k + 1)), .ref (F + (k + 2)), .null, .null])) o4 => ?_)
  refine g_aload_n h 0 dX5_init_20 rfl ?_
  refine g_bipush (v := 32) h dX5_init_21 (by decide) ?_
  refine g_newa (atype := .int) (ty := .int) (ti := 0) (N := 32) h rfl rfl (fun C e => by cases e) rfl tw_65 (by decide) (by decide) (Nat.le_of_ble_eq_true rfl) (by rw [hX]; exact Nat.le_of_ble_eq_true rfl) (by rw [hX]; exact Nat.le_of_ble_eq_true rfl) dX5_init_23 (g_set fun cf5 (e5 : cf5 (k + 3) = .inl (G.2.2.1 0, 32, .inl (fun _ => 0))) o5 => ?_)
  refine g_nm (n2 := k + 4) (c2 := 3) (s2 := 96) (by omega) (by omega) (by omega) ?_
  refine g_putF (N := 5) h (by omega) ((o5 k (by omega)).trans (e4)) rfl iw_5 tyX5 tyX5_ok nmX5 3 (by decide) tw_52 rfl rfl rfl hin rfl rfl rfl (by show 3 < 5; decide) dX5_init_25 (g_set fun cf6 (e6 : cf6 k = .inr (5, [.int 0, .ref (F + (k + 1)), .ref (F + (k + 2)), .ref (F + (k + 3)), .null])) o6 => ?_)
  refine g_aload_n h 0 dX5_init_28 rfl ?_
  refine g_iconst (v := 5) h dX5_init_29 (by decide) ?_
  refine g_newa (atype := .int) (ty := .int) (ti := 0) (N := 5) h rfl rfl (fun C e => by cases e) rfl tw_65 (by decide) (by decide) (Nat.le_of_ble_eq_true rfl) (by rw [hX]; exact Nat.le_of_ble_eq_true rfl) (by rw [hX]; exact Nat.le_of_ble_eq_true rfl) dX5_init_30 (g_set fun cf7 (e7 : cf7 (k + 4) = .inl (G.2.2.1 0, 5, .inl (fun _ => 0))) o7 => ?_)
  refine g_nm (n2 := k + 5) (c2 := 4) (s2 := 101) (by omega) (by omega) (by omega) ?_
  refine g_putF (N := 5) h (by omega) ((o7 k (by omega)).trans (e6)) rfl iw_5 tyX5 tyX5_ok nmX5 4 (by decide) tw_53 rfl rfl rfl hin rfl rfl rfl (by show 4 < 5; decide) dX5_init_32 (g_set fun cf8 (e8 : cf8 k = .inr (5, [.int 0, .ref (F + (k + 1)), .ref (F + (k + 2)), .ref (F + (k + 3)), .ref (F + (k + 4))])) o8 => ?_)
  refine g_vret h dX5_init_35 ⟨rfl, rfl, fun q hq => ?_⟩
  by_cases z : q < k
  · rw [if_pos z]
    exact (o8 q (by omega)).trans ((o7 q (by omega)).trans ((o6 q (by omega)).trans ((o5 q (by omega)).trans ((o4 q (by omega)).trans ((o3 q (by omega)).trans ((o2 q (by omega)).trans (o1 q (by omega))))))))
  rw [if_neg z]
  by_cases z0 : q = k
  · rw [z0]
    exact (e8).trans ((cz hk).trans (cel_6 hk)).symm
  by_cases z1 : q = k + 1
  · rw [z1]
    exact ((o8 (k + 1) (by omega)).trans ((o7 (k + 1) (by omega)).trans ((o6 (k + 1) (by omega)).trans ((o5 (k + 1) (by omega)).trans ((o4 (k + 1) (by omega)).trans ((o3 (k + 1) (by omega)).trans ((o2 (k + 1) (by omega)).trans (e1)))))))).trans ((cz (kr_1 hk)).trans (cel_I (kr_1 hk) rfl)).symm
  by_cases z2 : q = k + 2
  · rw [z2]
    exact ((o8 (k + 2) (by omega)).trans ((o7 (k + 2) (by omega)).trans ((o6 (k + 2) (by omega)).trans ((o5 (k + 2) (by omega)).trans ((o4 (k + 2) (by omega)).trans (e3)))))).trans ((cz (kr_2 hk)).trans (cel_I (kr_2 hk) rfl)).symm
  by_cases z3 : q = k + 3
  · rw [z3]
    exact ((o8 (k + 3) (by omega)).trans ((o7 (k + 3) (by omega)).trans ((o6 (k + 3) (by omega)).trans (e5)))).trans ((cz (kr_3 hk)).trans (cel_I (kr_3 hk) rfl)).symm
  by_cases z4 : q = k + 4
  · rw [z4]
    exact ((o8 (k + 4) (by omega)).trans (e7)).trans ((cz (kr_4 hk)).trans (cel_I (kr_4 hk) rfl)).symm
  omega
theorem tX0_init (l : Launch) (G : fG) (F : Nat) (k : Nat) (hk : kd k = 9) (cf0 : Nat → va_E) (e0 : cf0 k = .inr (0, [.int 0, .int 0, .int 0, .int 0, .int 0, .int 0, .int 0, .null, .int 0])) : CI l G F yX0_init cX0_init 1 1 k 2 12 [] cf0 := by
  unfold CI
  refine g_meti (own := RX0) (by decide +kernel) rfl rfl (Nat.le_of_ble_eq_true rfl) (fun X hXl hX h hin => ?_)
  subst hXl
  refine g_aload_n h 0 dX0_init_0 rfl ?_
  refine g_objInit h tw_70 tw_18 tw_19 (by rw [hX]; exact Nat.le_of_ble_eq_true rfl) (by rw [hX]; exact Nat.le_of_ble_eq_true rfl) dX0_init_1 ?_
  refine g_aload_n h 0 dX0_init_4 rfl ?_
  refine g_bipush (v := 12) h dX0_init_5 (by decide) ?_
  refine g_newa (atype := .int) (ty := .int) (ti := 0) (N := 12) h rfl rfl (fun C e => by cases e) rfl tw_65 (by decide) (by decide) (Nat.le_of_ble_eq_true rfl) (by rw [hX]; exact Nat.le_of_ble_eq_true rfl) (by rw [hX]; exact Nat.le_of_ble_eq_true rfl) dX0_init_7 (g_set fun cf1 (e1 : cf1 (k + 1) = .inl (G.2.2.1 0, 12, .inl (fun _ => 0))) o1 => ?_)
  refine g_nm (n2 := k + 2) (c2 := 1) (s2 := 12) (by omega) (by omega) (by omega) ?_
  refine g_putF (N := 9) h (by omega) ((o1 k (by omega)).trans (e0)) rfl iw_0 tyX0 tyX0_ok nmX0 7 (by decide) tw_87 rfl rfl rfl hin rfl rfl rfl (by show 7 < 9; decide) dX0_init_9 (g_set fun cf2 (e2 : cf2 k = .inr (0, [.int 0, .int 0, .int 0, .int 0, .int 0, .int 0, .int 0, .ref (F + (k + 1)), .int 0])) o2 => ?_)
  refine g_vret h dX0_init_12 ⟨rfl, rfl, fun q hq => ?_⟩
  by_cases z : q < k
  · rw [if_pos z]
    exact (o2 q (by omega)).trans (o1 q (by omega))
  rw [if_neg z]
  by_cases z0 : q = k
  · rw [z0]
    exact (e2).trans ((cz hk).trans (cel_9 hk)).symm
  by_cases z1 : q = k + 1
  · rw [z1]
    exact ((o2 (k + 1) (by omega)).trans (e1)).trans ((cz (kv_1 hk)).trans (cel_I (kv_1 hk) rfl)).symm
  omega
theorem tX2_init (l : Launch) (G : fG) (F : Nat) (k : Nat) (hk : kd k = 11) (cf0 : Nat → va_E) (e0 : cf0 k = .inr (2, [.int 0, .int 0, .int 0, .int 0, .int 0, .int 0])) : CI l G F yX2_init cX2_init 1 1 k 1 0 [] cf0 := by
  unfold CI
  refine g_meti (own := RX2) (by decide +kernel) rfl rfl (Nat.le_of_ble_eq_true rfl) (fun X hXl hX h hin => ?_)
  subst hXl
  refine g_aload_n h 0 dX2_init_0 rfl ?_
  refine g_objInit h tw_114 tw_18 tw_19 (by rw [hX]; exact Nat.le_of_ble_eq_true rfl) (by rw [hX]; exact Nat.le_of_ble_eq_true rfl) dX2_init_1 ?_
  refine g_vret h dX2_init_4 ⟨rfl, rfl, fun q hq => ?_⟩
  by_cases z : q < k
  · rw [if_pos z]
  rw [if_neg z]
  by_cases z0 : q = k
  · rw [z0]
    exact (e0).trans ((cz hk).trans (cel_11 hk)).symm
  omega
theorem tX4_init (l : Launch) (G : fG) (F : Nat) (cf0 : Nat → va_E) (e0 : cf0 527 = .inr (4, [.null, .int 0])) : CI l G F yX4_init cX4_init 1 1 527 2 80 [] cf0 := by
  unfold CI
  have hk : kd 527 = 17 := rfl
  refine g_meti (own := RX4) (by decide +kernel) rfl rfl (Nat.le_of_ble_eq_true rfl) (fun X hXl hX h hin => ?_)
  subst hXl
  refine g_aload_n h 0 dX4_init_0 rfl ?_
  refine g_objInit h tw_195 tw_18 tw_19 (by rw [hX]; exact Nat.le_of_ble_eq_true rfl) (by rw [hX]; exact Nat.le_of_ble_eq_true rfl) dX4_init_1 ?_
  refine g_aload_n h 0 dX4_init_4 rfl ?_
  refine g_bipush (v := 80) h dX4_init_5 (by decide) ?_
  refine g_newa (atype := .char) (ty := .char) (ti := 2) (N := 80) h rfl rfl (fun C e => by cases e) rfl tw_206 (by decide) (by decide) (Nat.le_of_ble_eq_true rfl) (by rw [hX]; exact Nat.le_of_ble_eq_true rfl) (by rw [hX]; exact Nat.le_of_ble_eq_true rfl) dX4_init_7 (g_set fun cf1 (e1 : cf1 528 = .inl (G.2.2.1 2, 80, .inl (fun _ => 0))) o1 => ?_)
  refine g_nm (n2 := 529) (c2 := 1) (s2 := 80) (by omega) (by omega) (by omega) ?_
  refine g_putF (N := 2) h (by omega) ((o1 527 (by omega)).trans (e0)) rfl iw_4 tyX4 tyX4_ok nmX4 0 (by decide) tw_196 rfl rfl rfl hin rfl rfl rfl (by show 0 < 2; decide) dX4_init_9 (g_set fun cf2 (e2 : cf2 527 = .inr (4, [.ref (F + 528), .int 0])) o2 => ?_)
  refine g_vret h dX4_init_12 ⟨rfl, rfl, fun q hq => ?_⟩
  by_cases z : q < 527
  · rw [if_pos z]
    exact (o2 q (by omega)).trans (o1 q (by omega))
  rw [if_neg z]
  by_cases z0 : q = 527
  · rw [z0]
    exact (e2).trans ((cz hk).trans (cel_17 hk)).symm
  by_cases z1 : q = 528
  · rw [z1]
    exact ((o2 528 (by omega)).trans (e1)).trans ((cz (k := 528) rfl).trans (cel_18 rfl)).symm
  omega
theorem tX3_init (l : Launch) (G : fG) (F : Nat) (cf0 : Nat → va_E) (e0 : cf0 529 = .inr (3, [.null, .int 0, .int 0, .null, .int 0])) : CI l G F yX3_init cX3_init 2 1 529 2 80 [.ref (F + 527)] cf0 := by
  unfold CI
  have hk : kd 529 = 19 := rfl
  refine g_meti (own := RX3) (by decide +kernel) rfl rfl (Nat.le_of_ble_eq_true rfl) (fun X hXl hX h hin => ?_)
  subst hXl
  refine g_aload_n h 0 dX3_init_0 rfl ?_
  refine g_objInit h tw_212 tw_18 tw_19 (by rw [hX]; exact Nat.le_of_ble_eq_true rfl) (by rw [hX]; exact Nat.le_of_ble_eq_true rfl) dX3_init_1 ?_
  refine g_aload_n h 0 dX3_init_4 rfl ?_
  refine g_bipush (v := 80) h dX3_init_5 (by decide) ?_
  refine g_newa (atype := .int) (ty := .int) (ti := 0) (N := 80) h rfl rfl (fun C e => by cases e) rfl tw_65 (by decide) (by decide) (Nat.le_of_ble_eq_true rfl) (by rw [hX]; exact Nat.le_of_ble_eq_true rfl) (by rw [hX]; exact Nat.le_of_ble_eq_true rfl) dX3_init_7 (g_set fun cf1 (e1 : cf1 530 = .inl (G.2.2.1 0, 80, .inl (fun _ => 0))) o1 => ?_)
  refine g_nm (n2 := 531) (c2 := 1) (s2 := 80) (by omega) (by omega) (by omega) ?_
  refine g_putF (N := 5) h (by omega) ((o1 529 (by omega)).trans (e0)) rfl iw_3 tyX3 tyX3_ok nmX3 3 (by decide) tw_217 rfl rfl rfl hin rfl rfl rfl (by show 3 < 5; decide) dX3_init_9 (g_set fun cf2 (e2 : cf2 529 = .inr (3, [.null, .int 0, .int 0, .ref (F + 530), .int 0])) o2 => ?_)
  refine g_aload_n h 0 dX3_init_12 rfl ?_
  refine g_aload_n h 1 dX3_init_13 rfl ?_
  refine g_putF (N := 5) h (by omega) (e2) rfl iw_3 tyX3 tyX3_ok nmX3 0 (by decide) tw_213 rfl rfl rfl hin rfl rfl rfl (by show 0 < 5; decide) dX3_init_14 (g_set fun cf3 (e3 : cf3 529 = .inr (3, [.ref (F + 527), .int 0, .int 0, .ref (F + 530), .int 0])) o3 => ?_)
  refine g_vret h dX3_init_17 ⟨rfl, rfl, fun q hq => ?_⟩
  by_cases z : q < 529
  · rw [if_pos z]
    exact (o3 q (by omega)).trans ((o2 q (by omega)).trans (o1 q (by omega)))
  rw [if_neg z]
  by_cases z0 : q = 529
  · rw [z0]
    exact (e3).trans ((cz hk).trans (cel_19 hk)).symm
  by_cases z1 : q = 530
  · rw [z1]
    exact ((o3 530 (by omega)).trans ((o2 530 (by omega)).trans (e1))).trans ((cz (k := 530) rfl).trans (cel_I (k := 530) rfl rfl)).symm
  omega
theorem tX6_init (l : Launch) (G : fG) (F : Nat) (k : Nat) (hk : kd k = 1) (cf0 : Nat → va_E) (e0 : cf0 k = .inr (6, [.null, .null, .null, .null, .int 0, .int 0, .int 0, .int 0])) : CI l G F yX6_init cX6_init 2 2 k 58 831 [] cf0 := by
  unfold CI
  refine g_meti (own := RX6) (by decide +kernel) rfl rfl (Nat.le_of_ble_eq_true rfl) (fun X hXl hX h hin => ?_)
  subst hXl
  refine g_aload_n h 0 dX6_init_0 rfl ?_
  refine g_objInit h tw_25 tw_18 tw_19 (by rw [hX]; exact Nat.le_of_ble_eq_true rfl) (by rw [hX]; exact Nat.le_of_ble_eq_true rfl) dX6_init_1 ?_
  refine g_aload_n h 0 dX6_init_4 rfl ?_
  refine g_iconst (v := 4) h dX6_init_5 (by decide) ?_
  refine g_newa (atype := .int) (ty := .int) (ti := 0) (N := 4) h rfl rfl (fun C e => by cases e) rfl tw_65 (by decide) (by decide) (Nat.le_of_ble_eq_true rfl) (by rw [hX]; exact Nat.le_of_ble_eq_true rfl) (by rw [hX]; exact Nat.le_of_ble_eq_true rfl) dX6_init_6 (g_set fun cf1 (e1 : cf1 (k + 1) = .inl (G.2.2.1 0, 4, .inl (fun _ => 0))) o1 => ?_)
  refine g_nm (n2 := k + 2) (c2 := 1) (s2 := 4) (by omega) (by omega) (by omega) ?_
  refine g_putF (N := 8) h (by omega) ((o1 k (by omega)).trans (e0)) rfl iw_6 tyX6 tyX6_ok nmX6 0 (by decide) tw_143 rfl rfl rfl hin rfl rfl rfl (by show 0 < 8; decide) dX6_init_8 (g_set fun cf2 (e2 : cf2 k = .inr (6, [.ref (F + (k + 1)), .null, .null, .null, .int 0, .int 0, .int 0, .int 0])) o2 => ?_)
  refine g_aload_n h 0 dX6_init_11 rfl ?_
  refine g_iconst (v := 5) h dX6_init_12 (by decide) ?_
  refine g_newq (ti := 3) (C := RX5) (N := 5) h rfl h.2.2.2.2.2.2.2.1.2.1 tw_26 (by decide) (by decide) (Nat.le_of_ble_eq_true rfl) (by rw [hX]; exact Nat.le_of_ble_eq_true rfl) (by rw [hX]; exact Nat.le_of_ble_eq_true rfl) dX6_init_13 (g_set fun cf3 (e3 : cf3 (k + 2) = rfa (fun _ => none) G 3 5) o3 => ?_)
  refine g_nm (n2 := k + 3) (c2 := 2) (s2 := 9) (by omega) (by omega) (by omega) ?_
  refine g_putF (N := 8) h (by omega) ((o3 k (by omega)).trans (e2)) rfl iw_6 tyX6 tyX6_ok nmX6 1 (by decide) tw_144 rfl rfl rfl hin rfl rfl rfl (by show 1 < 8; decide) dX6_init_16 (g_set fun cf4 (e4 : cf4 k = .inr (6, [.ref (F + (k + 1)), .ref (F + (k + 2)), .null, .null, .int 0, .int 0, .int 0, .int 0])) o4 => ?_)
  refine g_aload_n h 0 dX6_init_19 rfl ?_
  refine g_bipush (v := 12) h dX6_init_20 (by decide) ?_
  refine g_newq (ti := 4) (C := RX0) (N := 12) h rfl h.2.2.2.2.2.2.2.1.2.2.1 tw_28 (by decide) (by decide) (Nat.le_of_ble_eq_true rfl) (by rw [hX]; exact Nat.le_of_ble_eq_true rfl) (by rw [hX]; exact Nat.le_of_ble_eq_true rfl) dX6_init_22 (g_set fun cf5 (e5 : cf5 (k + 3) = rfa (fun _ => none) G 4 12) o5 => ?_)
  refine g_nm (n2 := k + 4) (c2 := 3) (s2 := 21) (by omega) (by omega) (by omega) ?_
  refine g_putF (N := 8) h (by omega) ((o5 k (by omega)).trans (e4)) rfl iw_6 tyX6 tyX6_ok nmX6 2 (by decide) tw_145 rfl rfl rfl hin rfl rfl rfl (by show 2 < 8; decide) dX6_init_25 (g_set fun cf6 (e6 : cf6 k = .inr (6, [.ref (F + (k + 1)), .ref (F + (k + 2)), .ref (F + (k + 3)), .null, .int 0, .int 0, .int 0, .int 0])) o6 => ?_)
  refine g_aload_n h 0 dX6_init_28 rfl ?_
  refine g_iconst (v := 4) h dX6_init_29 (by decide) ?_
  refine g_newq (ti := 5) (C := RX2) (N := 4) h rfl h.2.2.2.2.2.2.2.1.2.2.2.1 tw_30 (by decide) (by decide) (Nat.le_of_ble_eq_true rfl) (by rw [hX]; exact Nat.le_of_ble_eq_true rfl) (by rw [hX]; exact Nat.le_of_ble_eq_true rfl) dX6_init_30 (g_set fun cf7 (e7 : cf7 (k + 4) = rfa (fun _ => none) G 5 4) o7 => ?_)
  refine g_nm (n2 := k + 5) (c2 := 4) (s2 := 25) (by omega) (by omega) (by omega) ?_
  refine g_putF (N := 8) h (by omega) ((o7 k (by omega)).trans (e6)) rfl iw_6 tyX6 tyX6_ok nmX6 3 (by decide) tw_146 rfl rfl rfl hin rfl rfl rfl (by show 3 < 8; decide) dX6_init_33 (g_set fun cf8 (e8 : cf8 k = .inr (6, [.ref (F + (k + 1)), .ref (F + (k + 2)), .ref (F + (k + 3)), .ref (F + (k + 4)), .int 0, .int 0, .int 0, .int 0])) o8 => ?_)
  refine g_getsN (j := 2) h (by decide) rfl tw_32 dX6_init_36 ?_
  refine g_aload_n h 0 dX6_init_39 rfl ?_
  refine g_get (v := .ref (F + (k + 1))) (N := 8) h (by omega) (e8) rfl iw_6 0 (by decide) tw_143 rfl rfl dX6_init_40 ?_
  refine g_callSN (As := [.ref (G.2.2.2 2), .ref (F + (k + 1))]) (st := []) h (cI_row (xl X) G F (k + 5) (k + 1) (by omega) cf8 ((o8 (k + 1) (by omega)).trans ((o7 (k + 1) (by omega)).trans ((o6 (k + 1) (by omega)).trans ((o5 (k + 1) (by omega)).trans ((o4 (k + 1) (by omega)).trans ((o3 (k + 1) (by omega)).trans ((o2 (k + 1) (by omega)).trans (e1))))))))) rfl tw_36 tw_34 tw_35 tw_1 rfl rfl mhX7_copyRow rfl ⟨(by rw [hX]; exact Nat.le_of_ble_eq_true rfl), (by rw [hX]; exact Nat.le_of_ble_eq_true rfl)⟩ (Nat.le_of_ble_eq_true rfl) ⟨(by rw [hX]; exact Nat.le_of_ble_eq_true rfl), (by rw [hX]; exact Nat.le_of_ble_eq_true rfl)⟩ dX6_init_43 (fun r9 n9 cf9 hp9 => ?_)
  obtain ⟨rfl, rfl, e9, o9⟩ := hp9
  show Vg X _ G F 2 _ cf9 _ _ _ _ []
  refine g_nm (n2 := k + 5) (c2 := 4) (s2 := 25) (by omega) (by omega) (by omega) ?_
  refine g_iconst (v := 0) h dX6_init_46 (by decide) ?_
  refine g_istore_n (loc2 := [(1, .int (nI 0)), (0, .ref (F + k))]) h dX6_init_47 (by decide) rfl ?_
  refine g_fill (N := 5) (k0 := k) (a0 := k + 2) (c0 := k + 5) (s := 5) (wI := 101) (wN := 106) (ti := 3) (ci := 6) (ciE := 5) (jF := 1) (p0 := 48) (pb := 53) (pe := 72) (dE := 1) (NE := 5) (fsE := [.int 0, .null, .null, .null, .null]) h hX tyX5 (by decide) (by decide) (by omega) (by omega) (by omega)
    ((o9 k (by omega)).trans (e8)) rfl iw_6 (by decide) tw_144 rfl rfl ((o9 (k + 2) (by omega)).trans ((o8 (k + 2) (by omega)).trans ((o7 (k + 2) (by omega)).trans ((o6 (k + 2) (by omega)).trans ((o5 (k + 2) (by omega)).trans ((o4 (k + 2) (by omega)).trans (e3))))))) rfl rfl iw_5 tyX5_ok tw_26 tw_43 tw_5 dfX5
    (fun i cfi hi ei => tX5_init (xl X) G F (k + 5 + 5 * i) (ks_r hk hi) cfi ei) tw_46 tw_44 tw_45 rfl mhX5_init (Nat.le_of_ble_eq_true rfl) (Nat.le_of_ble_eq_true rfl)
    (fun i hi => ob_6 (ks_r hk hi)) rfl (Nat.le_of_ble_eq_true rfl) (Nat.le_of_ble_eq_true rfl)
    dX6_init_53 dX6_init_54 dX6_init_57 dX6_init_58 dX6_init_61 dX6_init_62 dX6_init_65 dX6_init_66 dX6_init_69 (by decide)
    (fun i n cf cells slots hi kt kf => by
      refine g_iload_n h 0 dX6_init_48 rfl ?_
      refine g_iconst (v := nI 5) h dX6_init_49 (by decide) ?_
      exact g_icmp_ge (tgt := 72) h dX6_init_50 (by decide) (fun c => kt ((fun (c : nI 5 ≤ nI i) => Nat.le_antisymm hi ((nI_leI (by decide) (by omega)).mp c)) c)) (fun c => kf (Nat.lt_of_not_le fun x => c (nI_le x (by omega)))))
    (fun cf10 e10 o10 => ?_)
  refine g_nm (n2 := k + 30) (c2 := 29) (s2 := 555) (by omega) (by omega) (by omega) ?_
  refine g_rf (f2 := fun j => some (F + (k + 2 + 3 + 5 * j))) e10 (fun j hj => by rw [if_pos hj, show k + 5 + 5 * j = k + 2 + 3 + 5 * j by omega]) (g_set fun cf11 (e11 : cf11 (k + 2) = rfa (fun j => some (F + (k + 2 + 3 + 5 * j))) G 3 5) o11 => ?_)
  refine g_loc (loc2 := [(0, .ref (F + k))]) [1] rfl ?_
  refine g_iconst (v := 0) h dX6_init_72 (by decide) ?_
  refine g_istore_n (loc2 := [(1, .int (nI 0)), (0, .ref (F + k))]) h dX6_init_73 (by decide) rfl ?_
  refine g_fill (N := 12) (k0 := k) (a0 := k + 3) (c0 := k + 30) (s := 2) (wI := 12) (wN := 21) (ti := 4) (ci := 6) (ciE := 0) (jF := 2) (p0 := 74) (pb := 80) (pe := 99) (dE := 1) (NE := 9) (fsE := [.int 0, .int 0, .int 0, .int 0, .int 0, .int 0, .int 0, .null, .int 0]) h hX tyX0 (by decide) (by decide) (by omega) (by omega) (by omega)
    ((o11 k (by omega)).trans (((o10 k (by omega) (by omega)).trans (if_pos (by omega))).trans ((o9 k (by omega)).trans (e8)))) rfl iw_6 (by decide) tw_145 rfl rfl ((o11 (k + 3) (by omega)).trans (((o10 (k + 3) (by omega) (by omega)).trans (if_pos (by omega))).trans ((o9 (k + 3) (by omega)).trans ((o8 (k + 3) (by omega)).trans ((o7 (k + 3) (by omega)).trans ((o6 (k + 3) (by omega)).trans (e5))))))) rfl rfl iw_0 tyX0_ok tw_28 tw_66 tw_6 dfX0
    (fun i cfi hi ei => tX0_init (xl X) G F (k + 30 + 2 * i) (ks_d hk hi) cfi ei) tw_69 tw_67 tw_68 rfl mhX0_init (Nat.le_of_ble_eq_true rfl) (Nat.le_of_ble_eq_true rfl)
    (fun i hi => ob_9 (ks_d hk hi)) rfl (Nat.le_of_ble_eq_true rfl) (Nat.le_of_ble_eq_true rfl)
    dX6_init_80 dX6_init_81 dX6_init_84 dX6_init_85 dX6_init_88 dX6_init_89 dX6_init_92 dX6_init_93 dX6_init_96 (by decide)
    (fun i n cf cells slots hi kt kf => by
      refine g_iload_n h 0 dX6_init_74 rfl ?_
      refine g_bipush (v := nI 12) h dX6_init_75 (by decide) ?_
      exact g_icmp_ge (tgt := 99) h dX6_init_77 (by decide) (fun c => kt ((fun (c : nI 12 ≤ nI i) => Nat.le_antisymm hi ((nI_leI (by decide) (by omega)).mp c)) c)) (fun c => kf (Nat.lt_of_not_le fun x => c (nI_le x (by omega)))))
    (fun cf12 e12 o12 => ?_)
  refine g_nm (n2 := k + 54) (c2 := 53) (s2 := 807) (by omega) (by omega) (by omega) ?_
  refine g_rf (f2 := fun j => some (F + (k + 3 + 27 + 2 * j))) e12 (fun j hj => by rw [if_pos hj, show k + 30 + 2 * j = k + 3 + 27 + 2 * j by omega]) (g_set fun cf13 (e13 : cf13 (k + 3) = rfa (fun j => some (F + (k + 3 + 27 + 2 * j))) G 4 12) o13 => ?_)
  refine g_loc (loc2 := [(0, .ref (F + k))]) [1] rfl ?_
  refine g_iconst (v := 0) h dX6_init_99 (by decide) ?_
  refine g_istore_n (loc2 := [(1, .int (nI 0)), (0, .ref (F + k))]) h dX6_init_100 (by decide) rfl ?_
  refine g_fill (N := 4) (k0 := k) (a0 := k + 4) (c0 := k + 54) (s := 1) (wI := 0) (wN := 6) (ti := 5) (ci := 6) (ciE := 2) (jF := 3) (p0 := 101) (pb := 106) (pe := 125) (dE := 1) (NE := 6) (fsE := [.int 0, .int 0, .int 0, .int 0, .int 0, .int 0]) h hX tyX2 (by decide) (by decide) (by omega) (by omega) (by omega)
    ((o13 k (by omega)).trans (((o12 k (by omega) (by omega)).trans (if_pos (by omega))).trans ((o11 k (by omega)).trans (((o10 k (by omega) (by omega)).trans (if_pos (by omega))).trans ((o9 k (by omega)).trans (e8)))))) rfl iw_6 (by decide) tw_146 rfl rfl ((o13 (k + 4) (by omega)).trans (((o12 (k + 4) (by omega) (by omega)).trans (if_pos (by omega))).trans ((o11 (k + 4) (by omega)).trans (((o10 (k + 4) (by omega) (by omega)).trans (if_pos (by omega))).trans ((o9 (k + 4) (by omega)).trans ((o8 (k + 4) (by omega)).trans (e7))))))) rfl rfl iw_2 tyX2_ok tw_30 tw_110 tw_7 dfX2
    (fun i cfi hi ei => tX2_init (xl X) G F (k + 54 + 1 * i) (by rw [Nat.one_mul]; exact ks_j hk hi) cfi ei) tw_113 tw_111 tw_112 rfl mhX2_init (Nat.le_of_ble_eq_true rfl) (Nat.le_of_ble_eq_true rfl)
    (fun i hi => ob_11 (by rw [Nat.one_mul]; exact ks_j hk hi)) rfl (Nat.le_of_ble_eq_true rfl) (Nat.le_of_ble_eq_true rfl)
    dX6_init_106 dX6_init_107 dX6_init_110 dX6_init_111 dX6_init_114 dX6_init_115 dX6_init_118 dX6_init_119 dX6_init_122 (by decide)
    (fun i n cf cells slots hi kt kf => by
      refine g_iload_n h 0 dX6_init_101 rfl ?_
      refine g_iconst (v := nI 4) h dX6_init_102 (by decide) ?_
      exact g_icmp_ge (tgt := 125) h dX6_init_103 (by decide) (fun c => kt ((fun (c : nI 4 ≤ nI i) => Nat.le_antisymm hi ((nI_leI (by decide) (by omega)).mp c)) c)) (fun c => kf (Nat.lt_of_not_le fun x => c (nI_le x (by omega)))))
    (fun cf14 e14 o14 => ?_)
  refine g_nm (n2 := k + 58) (c2 := 57) (s2 := 831) (by omega) (by omega) (by omega) ?_
  refine g_rf (f2 := fun j => some (F + (k + 4 + 50 + j))) e14 (fun j hj => by rw [if_pos hj, show k + 54 + 1 * j = k + 4 + 50 + j by omega]) (g_set fun cf15 (e15 : cf15 (k + 4) = rfa (fun j => some (F + (k + 4 + 50 + j))) G 5 4) o15 => ?_)
  refine g_loc (loc2 := [(0, .ref (F + k))]) [1] rfl ?_
  refine g_vret h dX6_init_125 ⟨rfl, rfl, fun q hq => ?_⟩
  by_cases z : q < k
  · rw [if_pos z]
    exact (o15 q (by omega)).trans (((o14 q (by omega) (by omega)).trans (if_pos (by omega))).trans ((o13 q (by omega)).trans (((o12 q (by omega) (by omega)).trans (if_pos (by omega))).trans ((o11 q (by omega)).trans (((o10 q (by omega) (by omega)).trans (if_pos (by omega))).trans ((o9 q (by omega)).trans ((o8 q (by omega)).trans ((o7 q (by omega)).trans ((o6 q (by omega)).trans ((o5 q (by omega)).trans ((o4 q (by omega)).trans ((o3 q (by omega)).trans ((o2 q (by omega)).trans (o1 q (by omega)))))))))))))))
  rw [if_neg z]
  by_cases z0 : q = k
  · rw [z0]
    exact ((o15 k (by omega)).trans (((o14 k (by omega) (by omega)).trans (if_pos (by omega))).trans ((o13 k (by omega)).trans (((o12 k (by omega) (by omega)).trans (if_pos (by omega))).trans ((o11 k (by omega)).trans (((o10 k (by omega) (by omega)).trans (if_pos (by omega))).trans ((o9 k (by omega)).trans (e8)))))))).trans ((cz hk).trans (cel_1 hk)).symm
  by_cases z1 : q = k + 1
  · rw [z1]
    exact ((o15 (k + 1) (by omega)).trans (((o14 (k + 1) (by omega) (by omega)).trans (if_pos (by omega))).trans ((o13 (k + 1) (by omega)).trans (((o12 (k + 1) (by omega) (by omega)).trans (if_pos (by omega))).trans ((o11 (k + 1) (by omega)).trans (((o10 (k + 1) (by omega) (by omega)).trans (if_pos (by omega))).trans (e9))))))).trans (cI_set (ks_1 hk)).symm
  by_cases z2 : q = k + 2
  · rw [z2]
    exact ((o15 (k + 2) (by omega)).trans (((o14 (k + 2) (by omega) (by omega)).trans (if_pos (by omega))).trans ((o13 (k + 2) (by omega)).trans (((o12 (k + 2) (by omega) (by omega)).trans (if_pos (by omega))).trans (e11))))).trans ((cz (ks_2 hk)).trans (cel_3 (ks_2 hk))).symm
  by_cases z3 : q = k + 3
  · rw [z3]
    exact ((o15 (k + 3) (by omega)).trans (((o14 (k + 3) (by omega) (by omega)).trans (if_pos (by omega))).trans (e13))).trans ((cz (ks_3 hk)).trans (cel_4 (ks_3 hk))).symm
  by_cases z4 : q = k + 4
  · rw [z4]
    exact (e15).trans ((cz (ks_4 hk)).trans (cel_5 (ks_4 hk))).symm
  by_cases z5 : q < k + 30
  · exact (o15 q (by omega)).trans (((o14 q (by omega) (by omega)).trans (if_pos (by omega))).trans ((o13 q (by omega)).trans (((o12 q (by omega) (by omega)).trans (if_pos (by omega))).trans ((o11 q (by omega)).trans ((o10 q (by omega) (by omega)).trans (if_neg (by omega)))))))
  by_cases z30 : q < k + 54
  · exact (o15 q (by omega)).trans (((o14 q (by omega) (by omega)).trans (if_pos (by omega))).trans ((o13 q (by omega)).trans ((o12 q (by omega) (by omega)).trans (if_neg (by omega)))))
  by_cases z54 : q < k + 58
  · exact (o15 q (by omega)).trans ((o14 q (by omega) (by omega)).trans (if_neg (by omega)))
  omega
theorem tX1_init (l : Launch) (G : fG) (F : Nat) (cf0 : Nat → va_E) (e0 : cf0 117 = .inr (1, [.null, .int 0])) : CI l G F yX1_init cX1_init 2 3 117 408 5880 [] cf0 := by
  unfold CI
  have hk : kd 117 = 13 := rfl
  refine g_meti (own := RX1) (by decide +kernel) rfl rfl (Nat.le_of_ble_eq_true rfl) (fun X hXl hX h hin => ?_)
  subst hXl
  refine g_aload_n h 0 dX1_init_0 rfl ?_
  refine g_objInit h tw_178 tw_18 tw_19 (by rw [hX]; exact Nat.le_of_ble_eq_true rfl) (by rw [hX]; exact Nat.le_of_ble_eq_true rfl) dX1_init_1 ?_
  refine g_aload_n h 0 dX1_init_4 rfl ?_
  refine g_bipush (v := 7) h dX1_init_5 (by decide) ?_
  refine g_newq (ti := 6) (C := RX6) (N := 7) h rfl h.2.2.2.2.2.2.2.1.2.2.2.2 tw_179 (by decide) (by decide) (Nat.le_of_ble_eq_true rfl) (by rw [hX]; exact Nat.le_of_ble_eq_true rfl) (by rw [hX]; exact Nat.le_of_ble_eq_true rfl) dX1_init_7 (g_set fun cf1 (e1 : cf1 118 = rfa (fun _ => none) G 6 7) o1 => ?_)
  refine g_nm (n2 := 119) (c2 := 1) (s2 := 7) (by omega) (by omega) (by omega) ?_
  refine g_putF (N := 2) h (by omega) ((o1 117 (by omega)).trans (e0)) rfl iw_1 tyX1 tyX1_ok nmX1 0 (by decide) tw_182 rfl rfl rfl hin rfl rfl rfl (by show 0 < 2; decide) dX1_init_10 (g_set fun cf2 (e2 : cf2 117 = .inr (1, [.ref (F + 118), .int 0])) o2 => ?_)
  refine g_iconst (v := 0) h dX1_init_13 (by decide) ?_
  refine g_istore_n (loc2 := [(1, .int (nI 0)), (0, .ref (F + 117))]) h dX1_init_14 (by decide) rfl ?_
  refine g_fill (N := 7) (k0 := 117) (a0 := 118) (c0 := 119) (s := 58) (wI := 831) (wN := 839) (ti := 6) (ci := 1) (ciE := 6) (jF := 0) (p0 := 15) (pb := 21) (pe := 40) (dE := 2) (NE := 8) (fsE := [.null, .null, .null, .null, .int 0, .int 0, .int 0, .int 0]) h hX tyX6 (by decide) (by decide) (by omega) (by omega) (by omega)
    (e2) rfl iw_1 (by decide) tw_182 rfl rfl ((o2 118 (by omega)).trans (e1)) rfl rfl iw_6 tyX6_ok tw_179 tw_21 tw_2 dfX6
    (fun i cfi hi ei => tX6_init (xl X) G F (119 + 58 * i) (kd_l1 i hi) cfi ei) tw_24 tw_181 tw_23 rfl mhX6_init (Nat.le_of_ble_eq_true rfl) (Nat.le_of_ble_eq_true rfl)
    (fun i hi => ob_1 (kd_l1 i hi)) rfl (Nat.le_of_ble_eq_true rfl) (Nat.le_of_ble_eq_true rfl)
    dX1_init_21 dX1_init_22 dX1_init_25 dX1_init_26 dX1_init_29 dX1_init_30 dX1_init_33 dX1_init_34 dX1_init_37 (by decide)
    (fun i n cf cells slots hi kt kf => by
      refine g_iload_n h 0 dX1_init_15 rfl ?_
      refine g_bipush (v := nI 6) h dX1_init_16 (by decide) ?_
      exact g_icmp_gt (tgt := 40) h dX1_init_18 (by decide) (fun c => kt (Nat.le_antisymm hi ((nI_ltI (a := 6) (by decide) (by omega)).mp c))) (fun c => kf (Nat.lt_succ_of_le (Nat.le_of_not_lt fun x => c (nI_lt (a := 6) x (by omega))))))
    (fun cf3 e3 o3 => ?_)
  refine g_nm (n2 := 525) (c2 := 407) (s2 := 5880) (by omega) (by omega) (by omega) ?_
  refine g_rf (f2 := fun j => some (F + ((iW 118 j).toNatClampNeg))) e3 (fun j hj => by rw [if_pos hj, show iW 118 j = nI (119 + 58 * j) from rfl, nI_clamp (by omega)]) (g_set fun cf4 (e4 : cf4 118 = rfa (fun j => some (F + ((iW 118 j).toNatClampNeg))) G 6 7) o4 => ?_)
  refine g_loc (loc2 := [(0, .ref (F + 117))]) [1] rfl ?_
  refine g_vret h dX1_init_40 ⟨rfl, rfl, fun q hq => ?_⟩
  by_cases z : q < 117
  · rw [if_pos z]
    exact (o4 q (by omega)).trans (((o3 q (by omega) (by omega)).trans (if_pos (by omega))).trans ((o2 q (by omega)).trans (o1 q (by omega))))
  rw [if_neg z]
  by_cases z0 : q = 117
  · rw [z0]
    exact ((o4 117 (by omega)).trans (((o3 117 (by omega) (by omega)).trans (if_pos (by omega))).trans (e2))).trans ((cz hk).trans (cel_13 hk)).symm
  by_cases z1 : q = 118
  · rw [z1]
    exact (e4).trans (cel_14 rfl).symm
  by_cases z2 : q < 525
  · exact (o4 q (by omega)).trans ((o3 q (by omega) (by omega)).trans (if_neg (by omega)))
  omega
theorem tX7_init (l : Launch) (G : fG) (F : Nat) (cf0 : Nat → va_E) (e0 : cf0 0 = .inr (7, [.null, .null, .null, .null, .null, .null, .null])) : CI l G F yX7_init cX7_init 2 4 0 647 9409 [] cf0 := by
  unfold CI
  have hk : kd 0 = 12 := rfl
  refine g_meti (own := RX7) (by decide +kernel) rfl rfl (Nat.le_of_ble_eq_true rfl) (fun X hXl hX h hin => ?_)
  subst hXl
  refine g_aload_n h 0 dX7_init_0 rfl ?_
  refine g_objInit h tw_17 tw_18 tw_19 (by rw [hX]; exact Nat.le_of_ble_eq_true rfl) (by rw [hX]; exact Nat.le_of_ble_eq_true rfl) dX7_init_1 ?_
  refine g_aload_n h 0 dX7_init_4 rfl ?_
  refine g_new (fs := [.null, .null, .null, .null, .int 0, .int 0, .int 0, .int 0]) (N := 8) h rfl iw_6 tyX6 tyX6_ok tw_20 tw_21 tw_2 (dfX6) (by rw [hX]; exact Nat.le_of_ble_eq_true rfl) (by rw [hX]; exact Nat.le_of_ble_eq_true rfl) dX7_init_5 (g_set fun cf1 (e1 : cf1 1 = .inr (6, [.null, .null, .null, .null, .int 0, .int 0, .int 0, .int 0])) o1 => ?_)
  refine g_nm (n2 := 2) (c2 := 1) (s2 := 8) (by omega) (by omega) (by omega) ?_
  refine g_dup h dX7_init_8 rfl ?_
  refine g_callIN (np := 0) (As := []) (st := [.ref (F + 1), .ref (F + 0)]) h (tX6_init (xl X) G F 1 rfl cf1 (e1)) rfl tw_24 tw_22 tw_23 tw_2 rfl rfl rfl mhX6_init rfl ⟨(by rw [hX]; exact Nat.le_of_ble_eq_true rfl), (by rw [hX]; exact Nat.le_of_ble_eq_true rfl)⟩ (Nat.le_of_ble_eq_true rfl) ⟨(by rw [hX]; exact Nat.le_of_ble_eq_true rfl), (by rw [hX]; exact Nat.le_of_ble_eq_true rfl)⟩ dX7_init_9 (fun r2 n2 cf2 hp2 => ?_)
  obtain ⟨rfl, rfl, o2⟩ := hp2
  refine g_nm (n2 := 59) (c2 := 58) (s2 := 839) (by omega) (by omega) (by omega) ?_
  show Vg X _ G F 2 _ cf2 _ _ _ _ [.ref (F + 1), .ref (F + 0)]
  refine g_putF (N := 7) h (by omega) (((o2 0 (by omega)).trans (if_pos (by omega))).trans ((o1 0 (by omega)).trans (e0))) rfl iw_7 tyX7 tyX7_ok nmX7 0 (by decide) tw_231 rfl rfl rfl hin rfl rfl rfl (by show 0 < 7; decide) dX7_init_12 (g_set fun cf3 (e3 : cf3 0 = .inr (7, [.ref (F + 1), .null, .null, .null, .null, .null, .null])) o3 => ?_)
  refine g_aload_n h 0 dX7_init_15 rfl ?_
  refine g_new (fs := [.null, .null, .null, .null, .int 0, .int 0, .int 0, .int 0]) (N := 8) h rfl iw_6 tyX6 tyX6_ok tw_20 tw_21 tw_2 (dfX6) (by rw [hX]; exact Nat.le_of_ble_eq_true rfl) (by rw [hX]; exact Nat.le_of_ble_eq_true rfl) dX7_init_16 (g_set fun cf4 (e4 : cf4 59 = .inr (6, [.null, .null, .null, .null, .int 0, .int 0, .int 0, .int 0])) o4 => ?_)
  refine g_nm (n2 := 60) (c2 := 59) (s2 := 847) (by omega) (by omega) (by omega) ?_
  refine g_dup h dX7_init_19 rfl ?_
  refine g_callIN (np := 0) (As := []) (st := [.ref (F + 59), .ref (F + 0)]) h (tX6_init (xl X) G F 59 rfl cf4 (e4)) rfl tw_24 tw_22 tw_23 tw_2 rfl rfl rfl mhX6_init rfl ⟨(by rw [hX]; exact Nat.le_of_ble_eq_true rfl), (by rw [hX]; exact Nat.le_of_ble_eq_true rfl)⟩ (Nat.le_of_ble_eq_true rfl) ⟨(by rw [hX]; exact Nat.le_of_ble_eq_true rfl), (by rw [hX]; exact Nat.le_of_ble_eq_true rfl)⟩ dX7_init_20 (fun r5 n5 cf5 hp5 => ?_)
  obtain ⟨rfl, rfl, o5⟩ := hp5
  refine g_nm (n2 := 117) (c2 := 116) (s2 := 1678) (by omega) (by omega) (by omega) ?_
  show Vg X _ G F 2 _ cf5 _ _ _ _ [.ref (F + 59), .ref (F + 0)]
  refine g_putF (N := 7) h (by omega) (((o5 0 (by omega)).trans (if_pos (by omega))).trans ((o4 0 (by omega)).trans (e3))) rfl iw_7 tyX7 tyX7_ok nmX7 1 (by decide) tw_232 rfl rfl rfl hin rfl rfl rfl (by show 1 < 7; decide) dX7_init_23 (g_set fun cf6 (e6 : cf6 0 = .inr (7, [.ref (F + 1), .ref (F + 59), .null, .null, .null, .null, .null])) o6 => ?_)
  refine g_aload_n h 0 dX7_init_26 rfl ?_
  refine g_new (fs := [.null, .int 0]) (N := 2) h rfl iw_1 tyX1 tyX1_ok tw_173 tw_174 tw_8 (dfX1) (by rw [hX]; exact Nat.le_of_ble_eq_true rfl) (by rw [hX]; exact Nat.le_of_ble_eq_true rfl) dX7_init_27 (g_set fun cf7 (e7 : cf7 117 = .inr (1, [.null, .int 0])) o7 => ?_)
  refine g_nm (n2 := 118) (c2 := 117) (s2 := 1680) (by omega) (by omega) (by omega) ?_
  refine g_dup h dX7_init_30 rfl ?_
  refine g_callIN (np := 0) (As := []) (st := [.ref (F + 117), .ref (F + 0)]) h (tX1_init (xl X) G F  cf7 (e7)) rfl tw_177 tw_175 tw_176 tw_8 rfl rfl rfl mhX1_init rfl ⟨(by rw [hX]; exact Nat.le_of_ble_eq_true rfl), (by rw [hX]; exact Nat.le_of_ble_eq_true rfl)⟩ (Nat.le_of_ble_eq_true rfl) ⟨(by rw [hX]; exact Nat.le_of_ble_eq_true rfl), (by rw [hX]; exact Nat.le_of_ble_eq_true rfl)⟩ dX7_init_31 (fun r8 n8 cf8 hp8 => ?_)
  obtain ⟨rfl, rfl, o8⟩ := hp8
  refine g_nm (n2 := 525) (c2 := 524) (s2 := 7560) (by omega) (by omega) (by omega) ?_
  show Vg X _ G F 2 _ cf8 _ _ _ _ [.ref (F + 117), .ref (F + 0)]
  refine g_putF (N := 7) h (by omega) (((o8 0 (by omega)).trans (if_pos (by omega))).trans ((o7 0 (by omega)).trans (e6))) rfl iw_7 tyX7 tyX7_ok nmX7 2 (by decide) tw_233 rfl rfl rfl hin rfl rfl rfl (by show 2 < 7; decide) dX7_init_34 (g_set fun cf9 (e9 : cf9 0 = .inr (7, [.ref (F + 1), .ref (F + 59), .ref (F + 117), .null, .null, .null, .null])) o9 => ?_)
  refine g_aload_n h 0 dX7_init_37 rfl ?_
  refine g_iconst (v := 2) h dX7_init_38 (by decide) ?_
  refine g_newq (ti := 6) (C := RX6) (N := 2) h rfl h.2.2.2.2.2.2.2.1.2.2.2.2 tw_20 (by decide) (by decide) (Nat.le_of_ble_eq_true rfl) (by rw [hX]; exact Nat.le_of_ble_eq_true rfl) (by rw [hX]; exact Nat.le_of_ble_eq_true rfl) dX7_init_39 (g_set fun cf10 (e10 : cf10 525 = rfa (fun _ => none) G 6 2) o10 => ?_)
  refine g_nm (n2 := 526) (c2 := 525) (s2 := 7562) (by omega) (by omega) (by omega) ?_
  refine g_putF (N := 7) h (by omega) ((o10 0 (by omega)).trans (e9)) rfl iw_7 tyX7 tyX7_ok nmX7 3 (by decide) tw_234 rfl rfl rfl hin rfl rfl rfl (by show 3 < 7; decide) dX7_init_42 (g_set fun cf11 (e11 : cf11 0 = .inr (7, [.ref (F + 1), .ref (F + 59), .ref (F + 117), .ref (F + 525), .null, .null, .null])) o11 => ?_)
  refine g_aload_n h 0 dX7_init_45 rfl ?_
  refine g_iconst (v := 2) h dX7_init_46 (by decide) ?_
  refine g_newa (atype := .boolean) (ty := .boolean) (ti := 1) (N := 2) h rfl rfl (fun C e => by cases e) rfl tw_205 (by decide) (by decide) (Nat.le_of_ble_eq_true rfl) (by rw [hX]; exact Nat.le_of_ble_eq_true rfl) (by rw [hX]; exact Nat.le_of_ble_eq_true rfl) dX7_init_47 (g_set fun cf12 (e12 : cf12 526 = .inl (G.2.2.1 1, 2, .inl (fun _ => 0))) o12 => ?_)
  refine g_nm (n2 := 527) (c2 := 526) (s2 := 7564) (by omega) (by omega) (by omega) ?_
  refine g_putF (N := 7) h (by omega) ((o12 0 (by omega)).trans (e11)) rfl iw_7 tyX7 tyX7_ok nmX7 4 (by decide) tw_235 rfl rfl rfl hin rfl rfl rfl (by show 4 < 7; decide) dX7_init_49 (g_set fun cf13 (e13 : cf13 0 = .inr (7, [.ref (F + 1), .ref (F + 59), .ref (F + 117), .ref (F + 525), .ref (F + 526), .null, .null])) o13 => ?_)
  refine g_aload_n h 0 dX7_init_52 rfl ?_
  refine g_new (fs := [.null, .int 0]) (N := 2) h rfl iw_4 tyX4 tyX4_ok tw_190 tw_191 tw_9 (dfX4) (by rw [hX]; exact Nat.le_of_ble_eq_true rfl) (by rw [hX]; exact Nat.le_of_ble_eq_true rfl) dX7_init_53 (g_set fun cf14 (e14 : cf14 527 = .inr (4, [.null, .int 0])) o14 => ?_)
  refine g_nm (n2 := 528) (c2 := 527) (s2 := 7566) (by omega) (by omega) (by omega) ?_
  refine g_dup h dX7_init_56 rfl ?_
  refine g_callIN (np := 0) (As := []) (st := [.ref (F + 527), .ref (F + 0)]) h (tX4_init (xl X) G F  cf14 (e14)) rfl tw_194 tw_192 tw_193 tw_9 rfl rfl rfl mhX4_init rfl ⟨(by rw [hX]; exact Nat.le_of_ble_eq_true rfl), (by rw [hX]; exact Nat.le_of_ble_eq_true rfl)⟩ (Nat.le_of_ble_eq_true rfl) ⟨(by rw [hX]; exact Nat.le_of_ble_eq_true rfl), (by rw [hX]; exact Nat.le_of_ble_eq_true rfl)⟩ dX7_init_57 (fun r15 n15 cf15 hp15 => ?_)
  obtain ⟨rfl, rfl, o15⟩ := hp15
  refine g_nm (n2 := 529) (c2 := 528) (s2 := 7646) (by omega) (by omega) (by omega) ?_
  show Vg X _ G F 2 _ cf15 _ _ _ _ [.ref (F + 527), .ref (F + 0)]
  refine g_putF (N := 7) h (by omega) (((o15 0 (by omega)).trans (if_pos (by omega))).trans ((o14 0 (by omega)).trans (e13))) rfl iw_7 tyX7 tyX7_ok nmX7 5 (by decide) tw_236 rfl rfl rfl hin rfl rfl rfl (by show 5 < 7; decide) dX7_init_60 (g_set fun cf16 (e16 : cf16 0 = .inr (7, [.ref (F + 1), .ref (F + 59), .ref (F + 117), .ref (F + 525), .ref (F + 526), .ref (F + 527), .null])) o16 => ?_)
  refine g_aload_n h 0 dX7_init_63 rfl ?_
  refine g_new (fs := [.null, .int 0, .int 0, .null, .int 0]) (N := 5) h rfl iw_3 tyX3 tyX3_ok tw_207 tw_208 tw_10 (dfX3) (by rw [hX]; exact Nat.le_of_ble_eq_true rfl) (by rw [hX]; exact Nat.le_of_ble_eq_true rfl) dX7_init_64 (g_set fun cf17 (e17 : cf17 529 = .inr (3, [.null, .int 0, .int 0, .null, .int 0])) o17 => ?_)
  refine g_nm (n2 := 530) (c2 := 529) (s2 := 7651) (by omega) (by omega) (by omega) ?_
  refine g_dup h dX7_init_67 rfl ?_
  refine g_aload_n h 0 dX7_init_68 rfl ?_
  refine g_get (v := .ref (F + 527)) (N := 7) h (by omega) ((o17 0 (by omega)).trans (e16)) rfl iw_7 5 (by decide) tw_236 rfl rfl dX7_init_69 ?_
  refine g_callIN (np := 1) (As := [.ref (F + 527)]) (st := [.ref (F + 529), .ref (F + 0)]) h (tX3_init (xl X) G F  cf17 (e17)) rfl tw_211 tw_209 tw_210 tw_10 rfl rfl rfl mhX3_init rfl ⟨(by rw [hX]; exact Nat.le_of_ble_eq_true rfl), (by rw [hX]; exact Nat.le_of_ble_eq_true rfl)⟩ (Nat.le_of_ble_eq_true rfl) ⟨(by rw [hX]; exact Nat.le_of_ble_eq_true rfl), (by rw [hX]; exact Nat.le_of_ble_eq_true rfl)⟩ dX7_init_72 (fun r18 n18 cf18 hp18 => ?_)
  obtain ⟨rfl, rfl, o18⟩ := hp18
  refine g_nm (n2 := 531) (c2 := 530) (s2 := 7731) (by omega) (by omega) (by omega) ?_
  show Vg X _ G F 2 _ cf18 _ _ _ _ [.ref (F + 529), .ref (F + 0)]
  refine g_putF (N := 7) h (by omega) (((o18 0 (by omega)).trans (if_pos (by omega))).trans ((o17 0 (by omega)).trans (e16))) rfl iw_7 tyX7 tyX7_ok nmX7 6 (by decide) tw_237 rfl rfl rfl hin rfl rfl rfl (by show 6 < 7; decide) dX7_init_75 (g_set fun cf19 (e19 : cf19 0 = .inr (7, [.ref (F + 1), .ref (F + 59), .ref (F + 117), .ref (F + 525), .ref (F + 526), .ref (F + 527), .ref (F + 529)])) o19 => ?_)
  refine g_iconst (v := 0) h dX7_init_78 (by decide) ?_
  refine g_istore_n (loc2 := [(1, .int (nI 0)), (0, .ref (F + 0))]) h dX7_init_79 (by decide) rfl ?_
  refine g_fill (N := 2) (k0 := 0) (a0 := 525) (c0 := 531) (s := 58) (wI := 831) (wN := 839) (ti := 6) (ci := 7) (ciE := 6) (jF := 3) (p0 := 80) (pb := 85) (pe := 104) (dE := 2) (NE := 8) (fsE := [.null, .null, .null, .null, .int 0, .int 0, .int 0, .int 0]) h hX tyX6 (by decide) (by decide) (by omega) (by omega) (by omega)
    (e19) rfl iw_7 (by decide) tw_234 rfl rfl ((o19 525 (by omega)).trans (((o18 525 (by omega)).trans (if_pos (by omega))).trans ((o17 525 (by omega)).trans ((o16 525 (by omega)).trans (((o15 525 (by omega)).trans (if_pos (by omega))).trans ((o14 525 (by omega)).trans ((o13 525 (by omega)).trans ((o12 525 (by omega)).trans ((o11 525 (by omega)).trans (e10)))))))))) rfl rfl iw_6 tyX6_ok tw_20 tw_21 tw_2 dfX6
    (fun i cfi hi ei => tX6_init (xl X) G F (531 + 58 * i) (kd_l7 i hi) cfi ei) tw_24 tw_22 tw_23 rfl mhX6_init (Nat.le_of_ble_eq_true rfl) (Nat.le_of_ble_eq_true rfl)
    (fun i hi => ob_1 (kd_l7 i hi)) rfl (Nat.le_of_ble_eq_true rfl) (Nat.le_of_ble_eq_true rfl)
    dX7_init_85 dX7_init_86 dX7_init_89 dX7_init_90 dX7_init_93 dX7_init_94 dX7_init_97 dX7_init_98 dX7_init_101 (by decide)
    (fun i n cf cells slots hi kt kf => by
      refine g_iload_n h 0 dX7_init_80 rfl ?_
      refine g_iconst (v := nI 2) h dX7_init_81 (by decide) ?_
      exact g_icmp_ge (tgt := 104) h dX7_init_82 (by decide) (fun c => kt ((fun (c : nI 2 ≤ nI i) => Nat.le_antisymm hi ((nI_leI (by decide) (by omega)).mp c)) c)) (fun c => kf (Nat.lt_of_not_le fun x => c (nI_le x (by omega)))))
    (fun cf20 e20 o20 => ?_)
  refine g_nm (n2 := 647) (c2 := 646) (s2 := 9409) (by omega) (by omega) (by omega) ?_
  refine g_rf (f2 := fun j => some (F + (531 + 58 * j))) e20 (fun j hj => by rw [if_pos hj]) (g_set fun cf21 (e21 : cf21 525 = rfa (fun j => some (F + (531 + 58 * j))) G 6 2) o21 => ?_)
  refine g_loc (loc2 := [(0, .ref (F + 0))]) [1] rfl ?_
  refine g_vret h dX7_init_104 ⟨rfl, rfl, fun q hq => ?_⟩
  by_cases z : q < 0
  · omega
  rw [if_neg z]
  by_cases z0 : q = 0
  · rw [z0]
    exact ((o21 0 (by omega)).trans (((o20 0 (by omega) (by omega)).trans (if_pos (by omega))).trans (e19))).trans ((cz hk).trans (cel_12 hk)).symm
  by_cases z1 : q < 59
  · exact (o21 q (by omega)).trans (((o20 q (by omega) (by omega)).trans (if_pos (by omega))).trans ((o19 q (by omega)).trans (((o18 q (by omega)).trans (if_pos (by omega))).trans ((o17 q (by omega)).trans ((o16 q (by omega)).trans (((o15 q (by omega)).trans (if_pos (by omega))).trans ((o14 q (by omega)).trans ((o13 q (by omega)).trans ((o12 q (by omega)).trans ((o11 q (by omega)).trans ((o10 q (by omega)).trans ((o9 q (by omega)).trans (((o8 q (by omega)).trans (if_pos (by omega))).trans ((o7 q (by omega)).trans ((o6 q (by omega)).trans (((o5 q (by omega)).trans (if_pos (by omega))).trans ((o4 q (by omega)).trans ((o3 q (by omega)).trans ((o2 q (by omega)).trans (if_neg (by omega)))))))))))))))))))))
  by_cases z59 : q < 117
  · exact (o21 q (by omega)).trans (((o20 q (by omega) (by omega)).trans (if_pos (by omega))).trans ((o19 q (by omega)).trans (((o18 q (by omega)).trans (if_pos (by omega))).trans ((o17 q (by omega)).trans ((o16 q (by omega)).trans (((o15 q (by omega)).trans (if_pos (by omega))).trans ((o14 q (by omega)).trans ((o13 q (by omega)).trans ((o12 q (by omega)).trans ((o11 q (by omega)).trans ((o10 q (by omega)).trans ((o9 q (by omega)).trans (((o8 q (by omega)).trans (if_pos (by omega))).trans ((o7 q (by omega)).trans ((o6 q (by omega)).trans ((o5 q (by omega)).trans (if_neg (by omega))))))))))))))))))
  by_cases z117 : q < 525
  · exact (o21 q (by omega)).trans (((o20 q (by omega) (by omega)).trans (if_pos (by omega))).trans ((o19 q (by omega)).trans (((o18 q (by omega)).trans (if_pos (by omega))).trans ((o17 q (by omega)).trans ((o16 q (by omega)).trans (((o15 q (by omega)).trans (if_pos (by omega))).trans ((o14 q (by omega)).trans ((o13 q (by omega)).trans ((o12 q (by omega)).trans ((o11 q (by omega)).trans ((o10 q (by omega)).trans ((o9 q (by omega)).trans ((o8 q (by omega)).trans (if_neg (by omega)))))))))))))))
  by_cases z525 : q = 525
  · rw [z525]
    exact (e21).trans ((cz (k := 525) rfl).trans (cel_15 rfl)).symm
  by_cases z526 : q = 526
  · rw [z526]
    exact ((o21 526 (by omega)).trans (((o20 526 (by omega) (by omega)).trans (if_pos (by omega))).trans ((o19 526 (by omega)).trans (((o18 526 (by omega)).trans (if_pos (by omega))).trans ((o17 526 (by omega)).trans ((o16 526 (by omega)).trans (((o15 526 (by omega)).trans (if_pos (by omega))).trans ((o14 526 (by omega)).trans ((o13 526 (by omega)).trans (e12)))))))))).trans ((cz (k := 526) rfl).trans (cel_16 rfl)).symm
  by_cases z527 : q < 529
  · exact (o21 q (by omega)).trans (((o20 q (by omega) (by omega)).trans (if_pos (by omega))).trans ((o19 q (by omega)).trans (((o18 q (by omega)).trans (if_pos (by omega))).trans ((o17 q (by omega)).trans ((o16 q (by omega)).trans ((o15 q (by omega)).trans (if_neg (by omega))))))))
  by_cases z529 : q < 531
  · exact (o21 q (by omega)).trans (((o20 q (by omega) (by omega)).trans (if_pos (by omega))).trans ((o19 q (by omega)).trans ((o18 q (by omega)).trans (if_neg (by omega)))))
  by_cases z531 : q < 647
  · exact (o21 q (by omega)).trans ((o20 q (by omega) (by omega)).trans (if_neg (by omega)))
  omega
theorem tX8_init (l : Launch) (G : fG) (F : Nat) (cf0 : Nat → va_E) (e0 : cf0 647 = .inr (8, [.null, .null, .int 0, .int 0, .null, .null, .null, .null, .int 0, .int 0, .int 0, .int 0, .int 0, .null, .null, .null])) : CI l G F yX8_init cX8_init 2 1 647 10 7922 [] cf0 := by
  unfold CI
  have hk : kd 647 = 21 := rfl
  refine g_meti (own := RX8) (by decide +kernel) rfl rfl (Nat.le_of_ble_eq_true rfl) (fun X hXl hX h hin => ?_)
  subst hXl
  refine g_aload_n h 0 dX8_init_0 rfl ?_
  refine g_objInit h tw_707 tw_18 tw_19 (by rw [hX]; exact Nat.le_of_ble_eq_true rfl) (by rw [hX]; exact Nat.le_of_ble_eq_true rfl) dX8_init_1 ?_
  refine g_aload_n h 0 dX8_init_4 rfl ?_
  refine g_sipush (v := 770) h dX8_init_5 (by decide) ?_
  refine g_newa (atype := .int) (ty := .int) (ti := 0) (N := 770) h rfl rfl (fun C e => by cases e) rfl tw_65 (by decide) (by decide) (Nat.le_of_ble_eq_true rfl) (by rw [hX]; exact Nat.le_of_ble_eq_true rfl) (by rw [hX]; exact Nat.le_of_ble_eq_true rfl) dX8_init_8 (g_set fun cf1 (e1 : cf1 648 = .inl (G.2.2.1 0, 770, .inl (fun _ => 0))) o1 => ?_)
  refine g_nm (n2 := 649) (c2 := 1) (s2 := 770) (by omega) (by omega) (by omega) ?_
  refine g_putF (N := 16) h (by omega) ((o1 647 (by omega)).trans (e0)) rfl iw_8 tyX8 tyX8_ok nmX8 0 (by decide) tw_708 rfl rfl rfl hin rfl rfl rfl (by show 0 < 16; decide) dX8_init_10 (g_set fun cf2 (e2 : cf2 647 = .inr (8, [.ref (F + 648), .null, .int 0, .int 0, .null, .null, .null, .null, .int 0, .int 0, .int 0, .int 0, .int 0, .null, .null, .null])) o2 => ?_)
  refine g_aload_n h 0 dX8_init_13 rfl ?_
  refine g_sipush (v := 4620) h dX8_init_14 (by decide) ?_
  refine g_newa (atype := .int) (ty := .int) (ti := 0) (N := 4620) h rfl rfl (fun C e => by cases e) rfl tw_65 (by decide) (by decide) (Nat.le_of_ble_eq_true rfl) (by rw [hX]; exact Nat.le_of_ble_eq_true rfl) (by rw [hX]; exact Nat.le_of_ble_eq_true rfl) dX8_init_17 (g_set fun cf3 (e3 : cf3 649 = .inl (G.2.2.1 0, 4620, .inl (fun _ => 0))) o3 => ?_)
  refine g_nm (n2 := 650) (c2 := 2) (s2 := 5390) (by omega) (by omega) (by omega) ?_
  refine g_putF (N := 16) h (by omega) ((o3 647 (by omega)).trans (e2)) rfl iw_8 tyX8 tyX8_ok nmX8 1 (by decide) tw_709 rfl rfl rfl hin rfl rfl rfl (by show 1 < 16; decide) dX8_init_19 (g_set fun cf4 (e4 : cf4 647 = .inr (8, [.ref (F + 648), .ref (F + 649), .int 0, .int 0, .null, .null, .null, .null, .int 0, .int 0, .int 0, .int 0, .int 0, .null, .null, .null])) o4 => ?_)
  refine g_aload_n h 0 dX8_init_22 rfl ?_
  refine g_sipush (v := 1540) h dX8_init_23 (by decide) ?_
  refine g_newa (atype := .int) (ty := .int) (ti := 0) (N := 1540) h rfl rfl (fun C e => by cases e) rfl tw_65 (by decide) (by decide) (Nat.le_of_ble_eq_true rfl) (by rw [hX]; exact Nat.le_of_ble_eq_true rfl) (by rw [hX]; exact Nat.le_of_ble_eq_true rfl) dX8_init_26 (g_set fun cf5 (e5 : cf5 650 = .inl (G.2.2.1 0, 1540, .inl (fun _ => 0))) o5 => ?_)
  refine g_nm (n2 := 651) (c2 := 3) (s2 := 6930) (by omega) (by omega) (by omega) ?_
  refine g_putF (N := 16) h (by omega) ((o5 647 (by omega)).trans (e4)) rfl iw_8 tyX8 tyX8_ok nmX8 4 (by decide) tw_712 rfl rfl rfl hin rfl rfl rfl (by show 4 < 16; decide) dX8_init_28 (g_set fun cf6 (e6 : cf6 647 = .inr (8, [.ref (F + 648), .ref (F + 649), .int 0, .int 0, .ref (F + 650), .null, .null, .null, .int 0, .int 0, .int 0, .int 0, .int 0, .null, .null, .null])) o6 => ?_)
  refine g_aload_n h 0 dX8_init_31 rfl ?_
  refine g_iconst (v := 2) h dX8_init_32 (by decide) ?_
  refine g_newa (atype := .boolean) (ty := .boolean) (ti := 1) (N := 2) h rfl rfl (fun C e => by cases e) rfl tw_205 (by decide) (by decide) (Nat.le_of_ble_eq_true rfl) (by rw [hX]; exact Nat.le_of_ble_eq_true rfl) (by rw [hX]; exact Nat.le_of_ble_eq_true rfl) dX8_init_33 (g_set fun cf7 (e7 : cf7 651 = .inl (G.2.2.1 1, 2, .inl (fun _ => 0))) o7 => ?_)
  refine g_nm (n2 := 652) (c2 := 4) (s2 := 6932) (by omega) (by omega) (by omega) ?_
  refine g_putF (N := 16) h (by omega) ((o7 647 (by omega)).trans (e6)) rfl iw_8 tyX8 tyX8_ok nmX8 5 (by decide) tw_713 rfl rfl rfl hin rfl rfl rfl (by show 5 < 16; decide) dX8_init_35 (g_set fun cf8 (e8 : cf8 647 = .inr (8, [.ref (F + 648), .ref (F + 649), .int 0, .int 0, .ref (F + 650), .ref (F + 651), .null, .null, .int 0, .int 0, .int 0, .int 0, .int 0, .null, .null, .null])) o8 => ?_)
  refine g_aload_n h 0 dX8_init_38 rfl ?_
  refine g_sipush (v := 770) h dX8_init_39 (by decide) ?_
  refine g_newa (atype := .int) (ty := .int) (ti := 0) (N := 770) h rfl rfl (fun C e => by cases e) rfl tw_65 (by decide) (by decide) (Nat.le_of_ble_eq_true rfl) (by rw [hX]; exact Nat.le_of_ble_eq_true rfl) (by rw [hX]; exact Nat.le_of_ble_eq_true rfl) dX8_init_42 (g_set fun cf9 (e9 : cf9 652 = .inl (G.2.2.1 0, 770, .inl (fun _ => 0))) o9 => ?_)
  refine g_nm (n2 := 653) (c2 := 5) (s2 := 7702) (by omega) (by omega) (by omega) ?_
  refine g_putF (N := 16) h (by omega) ((o9 647 (by omega)).trans (e8)) rfl iw_8 tyX8 tyX8_ok nmX8 6 (by decide) tw_714 rfl rfl rfl hin rfl rfl rfl (by show 6 < 16; decide) dX8_init_44 (g_set fun cf10 (e10 : cf10 647 = .inr (8, [.ref (F + 648), .ref (F + 649), .int 0, .int 0, .ref (F + 650), .ref (F + 651), .ref (F + 652), .null, .int 0, .int 0, .int 0, .int 0, .int 0, .null, .null, .null])) o10 => ?_)
  refine g_aload_n h 0 dX8_init_47 rfl ?_
  refine g_bipush (v := 80) h dX8_init_48 (by decide) ?_
  refine g_newa (atype := .int) (ty := .int) (ti := 0) (N := 80) h rfl rfl (fun C e => by cases e) rfl tw_65 (by decide) (by decide) (Nat.le_of_ble_eq_true rfl) (by rw [hX]; exact Nat.le_of_ble_eq_true rfl) (by rw [hX]; exact Nat.le_of_ble_eq_true rfl) dX8_init_50 (g_set fun cf11 (e11 : cf11 653 = .inl (G.2.2.1 0, 80, .inl (fun _ => 0))) o11 => ?_)
  refine g_nm (n2 := 654) (c2 := 6) (s2 := 7782) (by omega) (by omega) (by omega) ?_
  refine g_putF (N := 16) h (by omega) ((o11 647 (by omega)).trans (e10)) rfl iw_8 tyX8 tyX8_ok nmX8 7 (by decide) tw_715 rfl rfl rfl hin rfl rfl rfl (by show 7 < 16; decide) dX8_init_52 (g_set fun cf12 (e12 : cf12 647 = .inr (8, [.ref (F + 648), .ref (F + 649), .int 0, .int 0, .ref (F + 650), .ref (F + 651), .ref (F + 652), .ref (F + 653), .int 0, .int 0, .int 0, .int 0, .int 0, .null, .null, .null])) o12 => ?_)
  refine g_aload_n h 0 dX8_init_55 rfl ?_
  refine g_bipush (v := 29) h dX8_init_56 (by decide) ?_
  refine g_newa (atype := .int) (ty := .int) (ti := 0) (N := 29) h rfl rfl (fun C e => by cases e) rfl tw_65 (by decide) (by decide) (Nat.le_of_ble_eq_true rfl) (by rw [hX]; exact Nat.le_of_ble_eq_true rfl) (by rw [hX]; exact Nat.le_of_ble_eq_true rfl) dX8_init_58 (g_set fun cf13 (e13 : cf13 654 = .inl (G.2.2.1 0, 29, .inl (fun _ => 0))) o13 => ?_)
  refine g_nm (n2 := 655) (c2 := 7) (s2 := 7811) (by omega) (by omega) (by omega) ?_
  refine g_putF (N := 16) h (by omega) ((o13 647 (by omega)).trans (e12)) rfl iw_8 tyX8 tyX8_ok nmX8 13 (by decide) tw_721 rfl rfl rfl hin rfl rfl rfl (by show 13 < 16; decide) dX8_init_60 (g_set fun cf14 (e14 : cf14 647 = .inr (8, [.ref (F + 648), .ref (F + 649), .int 0, .int 0, .ref (F + 650), .ref (F + 651), .ref (F + 652), .ref (F + 653), .int 0, .int 0, .int 0, .int 0, .int 0, .ref (F + 654), .null, .null])) o14 => ?_)
  refine g_aload_n h 0 dX8_init_63 rfl ?_
  refine g_bipush (v := 30) h dX8_init_64 (by decide) ?_
  refine g_newa (atype := .int) (ty := .int) (ti := 0) (N := 30) h rfl rfl (fun C e => by cases e) rfl tw_65 (by decide) (by decide) (Nat.le_of_ble_eq_true rfl) (by rw [hX]; exact Nat.le_of_ble_eq_true rfl) (by rw [hX]; exact Nat.le_of_ble_eq_true rfl) dX8_init_66 (g_set fun cf15 (e15 : cf15 655 = .inl (G.2.2.1 0, 30, .inl (fun _ => 0))) o15 => ?_)
  refine g_nm (n2 := 656) (c2 := 8) (s2 := 7841) (by omega) (by omega) (by omega) ?_
  refine g_putF (N := 16) h (by omega) ((o15 647 (by omega)).trans (e14)) rfl iw_8 tyX8 tyX8_ok nmX8 14 (by decide) tw_722 rfl rfl rfl hin rfl rfl rfl (by show 14 < 16; decide) dX8_init_68 (g_set fun cf16 (e16 : cf16 647 = .inr (8, [.ref (F + 648), .ref (F + 649), .int 0, .int 0, .ref (F + 650), .ref (F + 651), .ref (F + 652), .ref (F + 653), .int 0, .int 0, .int 0, .int 0, .int 0, .ref (F + 654), .ref (F + 655), .null])) o16 => ?_)
  refine g_aload_n h 0 dX8_init_71 rfl ?_
  refine g_bipush (v := 81) h dX8_init_72 (by decide) ?_
  refine g_newa (atype := .int) (ty := .int) (ti := 0) (N := 81) h rfl rfl (fun C e => by cases e) rfl tw_65 (by decide) (by decide) (Nat.le_of_ble_eq_true rfl) (by rw [hX]; exact Nat.le_of_ble_eq_true rfl) (by rw [hX]; exact Nat.le_of_ble_eq_true rfl) dX8_init_74 (g_set fun cf17 (e17 : cf17 656 = .inl (G.2.2.1 0, 81, .inl (fun _ => 0))) o17 => ?_)
  refine g_nm (n2 := 657) (c2 := 9) (s2 := 7922) (by omega) (by omega) (by omega) ?_
  refine g_putF (N := 16) h (by omega) ((o17 647 (by omega)).trans (e16)) rfl iw_8 tyX8 tyX8_ok nmX8 15 (by decide) tw_723 rfl rfl rfl hin rfl rfl rfl (by show 15 < 16; decide) dX8_init_76 (g_set fun cf18 (e18 : cf18 647 = .inr (8, [.ref (F + 648), .ref (F + 649), .int 0, .int 0, .ref (F + 650), .ref (F + 651), .ref (F + 652), .ref (F + 653), .int 0, .int 0, .int 0, .int 0, .int 0, .ref (F + 654), .ref (F + 655), .ref (F + 656)])) o18 => ?_)
  refine g_aload_n h 0 dX8_init_79 rfl ?_
  refine g_get (v := .ref (F + 648)) (N := 16) h (by omega) (e18) rfl iw_8 0 (by decide) tw_708 rfl rfl dX8_init_80 ?_
  refine g_iconst (v := 0) h dX8_init_83 (by decide) ?_
  refine g_bipush (v := 10) h dX8_init_84 (by decide) ?_
  refine g_iast h (by omega) ((o18 648 (by omega)).trans ((o17 648 (by omega)).trans ((o16 648 (by omega)).trans ((o15 648 (by omega)).trans ((o14 648 (by omega)).trans ((o13 648 (by omega)).trans ((o12 648 (by omega)).trans ((o11 648 (by omega)).trans ((o10 648 (by omega)).trans ((o9 648 (by omega)).trans ((o8 648 (by omega)).trans ((o7 648 (by omega)).trans ((o6 648 (by omega)).trans ((o5 648 (by omega)).trans ((o4 648 (by omega)).trans ((o3 648 (by omega)).trans ((o2 648 (by omega)).trans (e1)))))))))))))))))) (vp_n (j := 0) (by decide) (by decide)) dX8_init_86 (g_set fun cf19 (e19 : cf19 648 = .inl (G.2.2.1 0, 770, .inl (upd (fun _ => 0) 0 10))) o19 => ?_)
  refine g_aload_n h 0 dX8_init_87 rfl ?_
  refine g_get (v := .ref (F + 648)) (N := 16) h (by omega) ((o19 647 (by omega)).trans (e18)) rfl iw_8 0 (by decide) tw_708 rfl rfl dX8_init_88 ?_
  refine g_iconst (v := 1) h dX8_init_91 (by decide) ?_
  refine g_bipush (v := 40) h dX8_init_92 (by decide) ?_
  refine g_iast h (by omega) (e19) (vp_n (j := 1) (by decide) (by decide)) dX8_init_94 (g_set fun cf20 (e20 : cf20 648 = .inl (G.2.2.1 0, 770, .inl (upd (upd (fun _ => 0) 0 10) 1 40))) o20 => ?_)
  refine g_aload_n h 0 dX8_init_95 rfl ?_
  refine g_get (v := .ref (F + 648)) (N := 16) h (by omega) ((o20 647 (by omega)).trans ((o19 647 (by omega)).trans (e18))) rfl iw_8 0 (by decide) tw_708 rfl rfl dX8_init_96 ?_
  refine g_iconst (v := 2) h dX8_init_99 (by decide) ?_
  refine g_bipush (v := 20) h dX8_init_100 (by decide) ?_
  refine g_iast h (by omega) (e20) (vp_n (j := 2) (by decide) (by decide)) dX8_init_102 (g_set fun cf21 (e21 : cf21 648 = .inl (G.2.2.1 0, 770, .inl (upd (upd (upd (fun _ => 0) 0 10) 1 40) 2 20))) o21 => ?_)
  refine g_aload_n h 0 dX8_init_103 rfl ?_
  refine g_get (v := .ref (F + 648)) (N := 16) h (by omega) ((o21 647 (by omega)).trans ((o20 647 (by omega)).trans ((o19 647 (by omega)).trans (e18)))) rfl iw_8 0 (by decide) tw_708 rfl rfl dX8_init_104 ?_
  refine g_iconst (v := 3) h dX8_init_107 (by decide) ?_
  refine g_sipush (v := 600) h dX8_init_108 (by decide) ?_
  refine g_iast h (by omega) (e21) (vp_n (j := 3) (by decide) (by decide)) dX8_init_111 (g_set fun cf22 (e22 : cf22 648 = .inl (G.2.2.1 0, 770, .inl (upd (upd (upd (upd (fun _ => 0) 0 10) 1 40) 2 20) 3 600))) o22 => ?_)
  refine g_sipush (v := 290) h dX8_init_112 (by decide) ?_
  refine g_istore_n (loc2 := [(1, .int (nI 290)), (0, .ref (F + 647))]) h dX8_init_115 (by decide) rfl ?_
  have l0 : cf22 647 = .inr (8, [.ref (F + 648), .ref (F + 649), .int 0, .int 0, .ref (F + 650), .ref (F + 651), .ref (F + 652), .ref (F + 653), .int 0, .int 0, .int 0, .int 0, .int 0, .ref (F + 654), .ref (F + 655), .ref (F + 656)]) := (o22 647 (by omega)).trans ((o21 647 (by omega)).trans ((o20 647 (by omega)).trans ((o19 647 (by omega)).trans (e18))))
  refine mI_loop h rfl l0 (f0 := (upd (upd (upd (upd (fun _ => 0) 0 10) 1 40) 2 20) 3 600)) (e22) (by omega) (fun cf23 e23 o23 => ?_)
  refine g_loc (loc2 := [(0, .ref (F + 647))]) [1] rfl ?_
  refine g_vret h dX8_init_137 ⟨rfl, rfl, fun q hq => ?_⟩
  by_cases z : q < 647
  · rw [if_pos z]
    exact (o23 q (by omega)).trans ((o22 q (by omega)).trans ((o21 q (by omega)).trans ((o20 q (by omega)).trans ((o19 q (by omega)).trans ((o18 q (by omega)).trans ((o17 q (by omega)).trans ((o16 q (by omega)).trans ((o15 q (by omega)).trans ((o14 q (by omega)).trans ((o13 q (by omega)).trans ((o12 q (by omega)).trans ((o11 q (by omega)).trans ((o10 q (by omega)).trans ((o9 q (by omega)).trans ((o8 q (by omega)).trans ((o7 q (by omega)).trans ((o6 q (by omega)).trans ((o5 q (by omega)).trans ((o4 q (by omega)).trans ((o3 q (by omega)).trans ((o2 q (by omega)).trans (o1 q (by omega)))))))))))))))))))))))
  rw [if_neg z]
  by_cases z0 : q = 647
  · rw [z0]
    exact ((o23 647 (by omega)).trans ((o22 647 (by omega)).trans ((o21 647 (by omega)).trans ((o20 647 (by omega)).trans ((o19 647 (by omega)).trans (e18)))))).trans ((cz hk).trans (cel_21 hk)).symm
  by_cases z1 : q = 648
  · rw [z1]
    exact (e23).trans mI_at.symm
  by_cases z2 : q = 649
  · rw [z2]
    exact ((o23 649 (by omega)).trans ((o22 649 (by omega)).trans ((o21 649 (by omega)).trans ((o20 649 (by omega)).trans ((o19 649 (by omega)).trans ((o18 649 (by omega)).trans ((o17 649 (by omega)).trans ((o16 649 (by omega)).trans ((o15 649 (by omega)).trans ((o14 649 (by omega)).trans ((o13 649 (by omega)).trans ((o12 649 (by omega)).trans ((o11 649 (by omega)).trans ((o10 649 (by omega)).trans ((o9 649 (by omega)).trans ((o8 649 (by omega)).trans ((o7 649 (by omega)).trans ((o6 649 (by omega)).trans ((o5 649 (by omega)).trans ((o4 649 (by omega)).trans (e3))))))))))))))))))))).trans ((cz (k := 649) rfl).trans (cel_I (k := 649) rfl rfl)).symm
  by_cases z3 : q = 650
  · rw [z3]
    exact ((o23 650 (by omega)).trans ((o22 650 (by omega)).trans ((o21 650 (by omega)).trans ((o20 650 (by omega)).trans ((o19 650 (by omega)).trans ((o18 650 (by omega)).trans ((o17 650 (by omega)).trans ((o16 650 (by omega)).trans ((o15 650 (by omega)).trans ((o14 650 (by omega)).trans ((o13 650 (by omega)).trans ((o12 650 (by omega)).trans ((o11 650 (by omega)).trans ((o10 650 (by omega)).trans ((o9 650 (by omega)).trans ((o8 650 (by omega)).trans ((o7 650 (by omega)).trans ((o6 650 (by omega)).trans (e5))))))))))))))))))).trans ((cz (k := 650) rfl).trans (cel_I (k := 650) rfl rfl)).symm
  by_cases z4 : q = 651
  · rw [z4]
    exact ((o23 651 (by omega)).trans ((o22 651 (by omega)).trans ((o21 651 (by omega)).trans ((o20 651 (by omega)).trans ((o19 651 (by omega)).trans ((o18 651 (by omega)).trans ((o17 651 (by omega)).trans ((o16 651 (by omega)).trans ((o15 651 (by omega)).trans ((o14 651 (by omega)).trans ((o13 651 (by omega)).trans ((o12 651 (by omega)).trans ((o11 651 (by omega)).trans ((o10 651 (by omega)).trans ((o9 651 (by omega)).trans ((o8 651 (by omega)).trans (e7))))))))))))))))).trans ((cz (k := 651) rfl).trans (cel_25 rfl)).symm
  by_cases z5 : q = 652
  · rw [z5]
    exact ((o23 652 (by omega)).trans ((o22 652 (by omega)).trans ((o21 652 (by omega)).trans ((o20 652 (by omega)).trans ((o19 652 (by omega)).trans ((o18 652 (by omega)).trans ((o17 652 (by omega)).trans ((o16 652 (by omega)).trans ((o15 652 (by omega)).trans ((o14 652 (by omega)).trans ((o13 652 (by omega)).trans ((o12 652 (by omega)).trans ((o11 652 (by omega)).trans ((o10 652 (by omega)).trans (e9))))))))))))))).trans ((cz (k := 652) rfl).trans (cel_I (k := 652) rfl rfl)).symm
  by_cases z6 : q = 653
  · rw [z6]
    exact ((o23 653 (by omega)).trans ((o22 653 (by omega)).trans ((o21 653 (by omega)).trans ((o20 653 (by omega)).trans ((o19 653 (by omega)).trans ((o18 653 (by omega)).trans ((o17 653 (by omega)).trans ((o16 653 (by omega)).trans ((o15 653 (by omega)).trans ((o14 653 (by omega)).trans ((o13 653 (by omega)).trans ((o12 653 (by omega)).trans (e11))))))))))))).trans ((cz (k := 653) rfl).trans (cel_I (k := 653) rfl rfl)).symm
  by_cases z7 : q = 654
  · rw [z7]
    exact ((o23 654 (by omega)).trans ((o22 654 (by omega)).trans ((o21 654 (by omega)).trans ((o20 654 (by omega)).trans ((o19 654 (by omega)).trans ((o18 654 (by omega)).trans ((o17 654 (by omega)).trans ((o16 654 (by omega)).trans ((o15 654 (by omega)).trans ((o14 654 (by omega)).trans (e13))))))))))).trans ((cz (k := 654) rfl).trans (cel_I (k := 654) rfl rfl)).symm
  by_cases z8 : q = 655
  · rw [z8]
    exact ((o23 655 (by omega)).trans ((o22 655 (by omega)).trans ((o21 655 (by omega)).trans ((o20 655 (by omega)).trans ((o19 655 (by omega)).trans ((o18 655 (by omega)).trans ((o17 655 (by omega)).trans ((o16 655 (by omega)).trans (e15))))))))).trans ((cz (k := 655) rfl).trans (cel_I (k := 655) rfl rfl)).symm
  by_cases z9 : q = 656
  · rw [z9]
    exact ((o23 656 (by omega)).trans ((o22 656 (by omega)).trans ((o21 656 (by omega)).trans ((o20 656 (by omega)).trans ((o19 656 (by omega)).trans ((o18 656 (by omega)).trans (e17))))))).trans ((cz (k := 656) rfl).trans (cel_I (k := 656) rfl rfl)).symm
  omega
