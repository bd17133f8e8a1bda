/-! ===== the beginning: both sides agree ===== -/
theorem iW_648 : iW 648 = iAt := by
  funext i
  unfold iW
  rw [show kd 648 = 22 from rfl, if_neg (by decide), if_neg (by decide), if_pos rfl, if_pos rfl]
theorem iAt_z {i : Nat} (h4 : 4 ≤ i) (h : i < 290) : iAt i = 0 := by
  unfold iAt
  rw [if_neg (by omega), if_neg (by omega), if_neg (by omega), if_neg (by omega), if_neg (by omega)]
theorem iAt_0 {i : Nat} (h4 : 290 ≤ i) (h : i % 3 ≠ 2) : iAt i = 0 := by
  unfold iAt
  rw [if_neg (by omega), if_neg (by omega), if_neg (by omega), if_neg (by omega), if_neg (by omega)]
theorem iAt_6 {i : Nat} (h4 : 290 ≤ i) (h1 : i < 770) (h : i % 3 = 2) : iAt i = -6 := by
  unfold iAt
  rw [if_neg (by omega), if_neg (by omega), if_neg (by omega), if_neg (by omega), if_pos (by omega)]
theorem iW_118 (j : Nat) : iW 118 j = nI (119 + 58 * j) := by
  unfold iW
  rw [show kd 118 = 14 from rfl, if_neg (by decide), if_pos rfl]
theorem Inv_iW : Inv iW := by
  intro k j
  unfold okv
  refine ⟨fun h _ => ?_, fun h _ => ?_, fun h _ => ?_, fun h _ => ?_, fun h _ => ?_, fun h _ => ?_, fun h _ => ?_, fun h _ => ?_, fun h hj => ?_, fun h => ?_⟩
  · rw [iW_0 h]; exact ⟨show (0 : Int32) ≤ 0 by decide, show (0 : Int32) ≤ _ by decide⟩
  · rw [iW_0 h]; exact ⟨show (0 : Int32) ≤ 0 by decide, show (0 : Int32) ≤ _ by decide⟩
  · rw [iW_0 h]; exact ⟨show (0 : Int32) ≤ 0 by decide, show (0 : Int32) ≤ _ by decide⟩
  · rw [iW_0 h]; exact ⟨show (0 : Int32) ≤ 0 by decide, show (0 : Int32) ≤ _ by decide⟩
  · rw [iW_0 h]; exact ⟨show (0 : Int32) ≤ 0 by decide, show (0 : Int32) ≤ _ by decide⟩
  · rw [iW_0 h]; exact ⟨show (0 : Int32) ≤ 0 by decide, show (0 : Int32) ≤ _ by decide⟩
  · rw [iW_0 h]; exact ⟨show (0 : Int32) ≤ 0 by decide, show (0 : Int32) ≤ _ by decide⟩
  · rw [iW_0 h]; exact ⟨show (0 : Int32) ≤ 0 by decide, show (0 : Int32) ≤ _ by decide⟩
  · have e : iW k j = nI (119 + 58 * j) := by
      unfold iW
      rw [h, if_neg (by decide), if_pos rfl]
    rw [e, nI_clamp (by omega)]
    exact kd_l1 j hj
  · rw [iW_0 h]; exact ⟨show (0 : Int32) ≤ 0 by decide, show (0 : Int32) ≤ _ by decide⟩
theorem SR_iW : SR iW 1 iAt := by
  refine ⟨?_, fun i h4 h8 => ?_, ?_, ?_, fun r hr => ?_, fun r hr _ => ⟨fun t ht => iAt_z (by omega) (by omega), fun p hp => ⟨iAt_6 (by omega) (by omega) (by omega), iAt_0 (by omega) (by omega), iAt_0 (by omega) (by omega)⟩⟩, fun d hd => ?_, fun j hj => ?_⟩
  · decide +kernel
  · rw [iAt_z h4 (by omega), iW_0 (k := 1) (q := 1) rfl]
  · unfold SB; decide +kernel
  · unfold SN; decide +kernel
  · rw [show (iAt 5).toNatClampNeg = 0 by decide +kernel] at hr; omega
  · rw [show (iAt 6).toNatClampNeg = 0 by decide +kernel] at hd; omega
  · rw [show (iAt 7).toNatClampNeg = 0 by decide +kernel] at hj; omega
theorem MW_iAt : MW iAt := by
  have z : (0 : Int32) ≤ 0 ∧ (0 : Int32) ≤ 4 := by decide
  have z1 : (0 : Int32) ≤ 0 ∧ (0 : Int32) ≤ 31 := by decide
  refine ⟨by decide +kernel, by decide +kernel, by decide +kernel, fun l hl => ?_, fun d hd => ?_, fun j hj => ?_, fun d hd _ => ?_⟩
  · rw [iAt_z (by omega) (by omega)]; decide
  · rw [iAt_z (by omega) (by omega), iAt_z (by omega) (by omega)]; exact ⟨z, z1⟩
  · rw [iAt_z (by omega) (by omega), iAt_z (by omega) (by omega), iAt_z (by omega) (by omega), iAt_z (by omega) (by omega)]; exact ⟨z, z1, z, z1⟩
  · rw [iAt_z (by omega) (by omega)]; decide
theorem RR_iW : RR iW iW 0 := by
  refine ⟨?_, ⟨0, 0, by omega, by omega, ?_, ?_, ?_, fun i hi => ⟨i, hi, ?_⟩, fun i j hi hj hne => ?_, fun i hi => absurd hi (Nat.not_lt_zero i)⟩, fun s hs => ⟨?_, fun c => absurd ?_ c⟩, 0, by omega, ?_, ?_, fun i hi => absurd hi (Nat.not_lt_zero i)⟩
  · rw [iW_648]
    exact ⟨SR_iW, MW_iAt, 0, Nat.le_refl 0, iAt_z (by omega) (by omega), fun r hr => ⟨0, by omega, iAt_z (by omega) (by omega)⟩⟩
  · rw [iW_0 (k := 117) (q := 13) rfl]; rfl
  · rw [iW_0 (k := 647) (q := 21) rfl]; rfl
  · rw [iW_0 (k := 647) (q := 21) rfl]; rfl
  · rw [iW_118, nI_clamp (by omega)]
  · rw [iW_118, nI_clamp (by omega), iW_118, nI_clamp (by omega)]; omega
  · rw [iW_0 (k := 526) (q := 16) rfl, iW_0 (k := 651) (q := 25) rfl]
  · rw [iW_0 (k := 526) (q := 16) rfl]
  · rw [iW_0 (k := 527) (q := 17) rfl]; rfl
  · rw [iW_0 (k := 647) (q := 21) rfl]; rfl
