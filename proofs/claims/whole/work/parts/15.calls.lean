/-! ===== the class itself: what each call answers and does ===== -/
def f_at (ω : fOm) (l p wh : Int32) : Int32 := match f_ringWith ω 1 l p with
  | none => (-1)
  | some k => if wh = 0 then f_valueAt ω k p else if wh = 1 then f_strengthAt ω k p else if wh = 2 then (if f_strengthAt ω k p ≤ 0 then (-6) else ω 1 4 - f_birthAt ω k p) else if wh = 3 then ω k 0 - p else (-2)
def f_ofLoop (ω : fOm) (l wh : Int32) : Int32 := match f_ringOf ω 1 l with
  | none => (-1)
  | some k => if wh = 0 then ω k 0 else if wh = 1 then f_flashes ω k else if wh = 2 then f_strengths ω k else if wh = 3 then f_faintest ω k else if wh = 4 then f_tally ω k 0 else if wh = 5 then f_tally ω k 1 else if wh = 6 then f_tally ω k 2 else if wh = 7 then f_tally ω k 3 else if wh = 8 then f_tally ω k 4 else (-2)
def f_ofDev (ω : fOm) (d wh : Int32) : Int32 := match f_devOf ω 1 d with
  | none => (-1)
  | some k => if wh = 0 then ω k 0 else if wh = 1 then ω k 1 else if wh = 2 then ω k 2 else if wh = 3 then ω k 3 else if wh = 4 then ω k 4 else if wh = 5 then (if ω k 0 = 0 then ω k 5 else ω k 8) else if wh = 6 then ω k 6 else (-2)
def f_noted (ω : fOm) (d b : Int32) : Int32 := match f_devOf ω 1 d with
  | none => (-1)
  | some k => if ω k 0 = 1 then f_keptAt ω k b else (-1)
def f_ofJoin (ω : fOm) (j wh : Int32) : Int32 := match f_joinOf ω 1 j with
  | none => (-1)
  | some k => if wh = 0 then ω k 0 else if wh = 1 then ω k 1 else if wh = 2 then ω k 2 else if wh = 3 then ω k 3 else if wh = 4 then ω k 4 else if wh = 5 then ω k 5 else (-2)
def f_count (ω : fOm) (wh : Int32) : Int32 := if wh = 0 then ω 1 4 else if wh = 1 then ω 1 5 else if wh = 2 then ω 1 6 else if wh = 3 then ω 1 7 else if wh = 4 then f_flAll ω 1 else if wh = 5 then f_taAll ω 1 0 else if wh = 6 then f_taAll ω 1 1 else if wh = 7 then f_taAll ω 1 2 else if wh = 8 then f_setting ω 1 0 else if wh = 9 then f_setting ω 1 1 else if wh = 10 then f_setting ω 1 2 else if wh = 11 then f_setting ω 1 3 else if wh = 12 then ω 527 1 else if wh = 13 then ω 117 1 else (-2)
def f_valInW (ω : fOm) (l p t : Int32) : fOm := match f_ringWith ω 1 l p with
  | none => ω
  | some _ => if f_btw t 1 200 = 0 then ω else f_passTW (f_scopy ω 59 1) 59 t
def f_valIn (ω : fOm) (l p t : Int32) : Int32 := match f_ringWith ω 1 l p with
  | none => (-1)
  | some _ => if f_btw t 1 200 = 0 then (-2) else match f_ringOf (f_passTW (f_scopy ω 59 1) 59 t) 59 l with
    | none => (-6)
    | some k => f_valueAt (f_passTW (f_scopy ω 59 1) 59 t) k p
def f_leftW (ω : fOm) (t : Int32) : fOm := if f_btw t 1 200 = 0 then ω else f_passTW (f_scopy ω 59 1) 59 t
def f_left (ω : fOm) (t : Int32) : Int32 := if f_btw t 1 200 = 0 then (-2) else f_flAll (f_passTW (f_scopy ω 59 1) 59 t) 59
def f_slotOf (s : Int32) : Option Nat := if f_btw s 0 1 = 0 then none else some (531 + 58 * s.toNatClampNeg)
theorem slotOf_of {s : Int32} {k : Nat} (e : f_slotOf s = some k) : (s = 0 ∧ k = 531) ∨ (s = 1 ∧ k = 589) := by
  unfold f_slotOf at e
  split at e
  · cases e
  · rename_i h
    have h2 := btw_pl h
    obtain ⟨n, hn, rfl⟩ := nI_of2 (M := 1) (n := 1) rfl (Int32.not_lt.mpr h2.1) h2.2
    rw [nI_clamp (by omega)] at e
    rcases (show n = 0 ∨ n = 1 by omega) with rfl | rfl
    · exact Or.inl ⟨rfl, (Option.some.inj e).symm⟩
    · exact Or.inr ⟨rfl, (Option.some.inj e).symm⟩
theorem slotOf_kd {s : Int32} {k : Nat} (e : f_slotOf s = some k) : kd k = 1 := by
  rcases slotOf_of e with ⟨-, rfl⟩ | ⟨-, rfl⟩ <;> rfl
theorem slotOf_in {s : Int32} {k : Nat} (e : f_slotOf s = some k) : vp_in s 2 := by
  rcases slotOf_of e with ⟨rfl, -⟩ | ⟨rfl, -⟩
  · exact vp_n (j := 0) (by decide) (by decide)
  · exact vp_n (j := 1) (by decide) (by decide)
def f_undoW (ω : fOm) : fOm := match f_takeL ω with
  | none => f_takeW ω
  | some k => f_scopy (f_takeW ω) 1 k
def f_undo (ω : fOm) : Int32 := match f_takeL ω with
  | none => (-5)
  | some k => f_scopy (f_takeW ω) 1 k 117 1
def f_saveW (ω : fOm) (s : Int32) : fOm := match f_slotOf s with
  | none => ω
  | some k => wu (f_scopy ω k 1) 526 s.toNatClampNeg 1
def f_save (ω : fOm) (s : Int32) : Int32 := match f_slotOf s with
  | none => (-2)
  | some k => wu (f_scopy ω k 1) 526 s.toNatClampNeg 1 1 4
def f_rest0 (ω : fOm) (k : Nat) : fOm := f_scopy (f_hold ω 1) 1 k
def f_restW (ω : fOm) (s : Int32) : fOm := match f_slotOf s with
  | none => ω
  | some k => if ω 526 s.toNatClampNeg = 0 then ω else f_keepD (f_rest0 ω k) (f_rest0 ω k 1 4)
def f_restR (ω : fOm) (s : Int32) : Int32 := match f_slotOf s with
  | none => (-2)
  | some k => if ω 526 s.toNatClampNeg = 0 then (-5) else f_rest0 ω k 1 4
def f_signIn (c : Int64) (b : Int32) : Int32 := (((((c.toUInt64 >>> ((8 * b).toInt64.toUInt64 &&& Int64.toUInt64 63)).toInt64 &&& 255).toInt32).toUInt32 % 65536).toInt32)
abbrev sS (b : Nat) : Nat → Prop := fun q => b ≤ q ∧ q < b + 58
def cB (ω : fOm) (b : Nat) : Prop := (0 ≤ ω b 5 ∧ ω b 5 ≤ 5) ∧ (0 ≤ ω b 6 ∧ ω b 6 ≤ 12) ∧ (0 ≤ ω b 7 ∧ ω b 7 ≤ 4)
theorem cB_of {ω : fOm} {b : Nat} (hI : Inv ω) (hb : kd b = 1) : cB ω b := ⟨Inv_1_5 hI hb, Inv_1_6 hI hb, Inv_1_7 hI hb⟩
theorem bS_sS {b : Nat} : ∀ q, bS b q → sS b q := fun q h => by have h : b + 5 ≤ q ∧ q < b + 58 := h; show b ≤ q ∧ q < b + 58; omega
theorem passOne_e {ω : fOm} {b : Nat} (h : cB ω b) : f_passOne ω b = wu (f_p4 b (f_p3 b (f_p2 b (f_p1 b ω (ω b 5).toNatClampNeg) (ω b 6).toNatClampNeg) (ω b 7).toNatClampNeg) (ω b 6).toNatClampNeg) b 4 (ω b 4 + 1) := by
  have n5 := tn_le (n := 5) h.1 rfl
  have n6 := tn_le (n := 12) h.2.1 rfl
  have n7 := tn_le (n := 4) h.2.2 rfl
  have e1 : f_p1 b ω (ω b 5).toNatClampNeg b = ω b := p1_b n5
  have e2 : f_p2 b (f_p1 b ω (ω b 5).toNatClampNeg) (ω b 6).toNatClampNeg b = ω b := (p2_b n6 (by rw [e1]; exact h.1.2)).trans e1
  have e3 : f_p3 b (f_p2 b (f_p1 b ω (ω b 5).toNatClampNeg) (ω b 6).toNatClampNeg) (ω b 7).toNatClampNeg b = ω b := (p3_b n7 (by rw [e2]; exact h.1.2)).trans e2
  have e4 : f_p4 b (f_p3 b (f_p2 b (f_p1 b ω (ω b 5).toNatClampNeg) (ω b 6).toNatClampNeg) (ω b 7).toNatClampNeg) (ω b 6).toNatClampNeg b = ω b := (p4_b n6).trans e3
  unfold f_passOne
  dsimp only
  rw [e1, e2, e3, e4]
theorem passOne_M {ω : fOm} {b : Nat} (h : cB ω b) : Mod (sS b) ω (f_passOne ω b) := by
  have n5 := tn_le (n := 5) h.1 rfl
  have n6 := tn_le (n := 12) h.2.1 rfl
  have n7 := tn_le (n := 4) h.2.2 rfl
  have e1 : f_p1 b ω (ω b 5).toNatClampNeg b = ω b := p1_b n5
  have e2 : f_p2 b (f_p1 b ω (ω b 5).toNatClampNeg) (ω b 6).toNatClampNeg b = ω b := (p2_b n6 (by rw [e1]; exact h.1.2)).trans e1
  rw [passOne_e h]
  exact Mod.wu (Mod.tr (Mod.tr (Mod.tr ((p1_M n5).mo bS_sS) ((p2_M n6 (by rw [e1]; exact h.1.2)).mo bS_sS)) ((p3_M n7 (by rw [e2]; exact h.1.2)).mo bS_sS)) ((p4_M n6).mo bS_sS)) ⟨Nat.le_refl b, by omega⟩
theorem passOne_b {ω : fOm} {b : Nat} (h : cB ω b) : f_passOne ω b b = upd (ω b) 4 (ω b 4 + 1) := by
  have n5 := tn_le (n := 5) h.1 rfl
  have n6 := tn_le (n := 12) h.2.1 rfl
  have n7 := tn_le (n := 4) h.2.2 rfl
  have e1 : f_p1 b ω (ω b 5).toNatClampNeg b = ω b := p1_b n5
  have e2 : f_p2 b (f_p1 b ω (ω b 5).toNatClampNeg) (ω b 6).toNatClampNeg b = ω b := (p2_b n6 (by rw [e1]; exact h.1.2)).trans e1
  have e3 : f_p3 b (f_p2 b (f_p1 b ω (ω b 5).toNatClampNeg) (ω b 6).toNatClampNeg) (ω b 7).toNatClampNeg b = ω b := (p3_b n7 (by rw [e2]; exact h.1.2)).trans e2
  have e4 : f_p4 b (f_p3 b (f_p2 b (f_p1 b ω (ω b 5).toNatClampNeg) (ω b 6).toNatClampNeg) (ω b 7).toNatClampNeg) (ω b 6).toNatClampNeg b = ω b := (p4_b n6).trans e3
  rw [passOne_e h]
  unfold wu
  rw [if_pos rfl, e4]
theorem cB_up {ω w : fOm} {b : Nat} {v : Int32} (h : cB ω b) (e : w b = upd (ω b) 4 v) : cB w b := by
  unfold cB
  rw [e]
  simpa [upd, cB] using h
theorem passN_MB {ω : fOm} {b : Nat} (h : cB ω b) (n : Nat) : Mod (sS b) ω (f_passN b ω n) ∧ cB (f_passN b ω n) b := by
  induction n with
  | zero => exact ⟨Mod.rf, h⟩
  | succ n ih => exact ⟨ih.1.tr (passOne_M ih.2), cB_up ih.2 (passOne_b ih.2)⟩
theorem passTW_M {ω : fOm} {b : Nat} {t : Int32} (h : cB ω b) : Mod (sS b) ω (f_passTW ω b t) := by
  unfold f_passTW
  split
  · exact Mod.rf
  · exact (passN_MB h _).1
theorem tlW_M {ω : fOm} {b : Nat} {t : Int32} (h : cB ω b) : Mod (sS b) ω (f_tlW ω b t) := by
  unfold f_tlW
  split
  · exact (passN_MB h _).1
  · exact (passN_MB h _).1
theorem cp0_M {ω : fOm} {b b2 : Nat} : Mod (fun q => q = b ∨ q = b + 1) ω (f_cp0 ω b b2) := by
  unfold f_cp0
  exact Mod.wu (Mod.wu (Mod.wu (Mod.wu (Mod.mo cp_M (fun q h => Or.inr h)) (Or.inl rfl)) (Or.inl rfl)) (Or.inl rfl)) (Or.inl rfl)
theorem cp0_b {ω : fOm} {b b2 : Nat} (hne : b2 ≠ b + 1) : f_cp0 ω b b2 b = upd (upd (upd (upd (ω b) 4 (ω b2 4)) 5 (ω b2 5)) 6 (ω b2 6)) 7 (ω b2 7) := by
  have e0 : f_cp ω (b2 + 1) (b + 1) 2 b2 = ω b2 := cp_M b2 hne
  have e1 : f_cp ω (b2 + 1) (b + 1) 2 b = ω b := cp_M b (by show ¬ (b = b + 1); omega)
  unfold f_cp0
  try dsimp only
  generalize f_cp ω (b2 + 1) (b + 1) 2 = w at e0 e1
  funext j
  by_cases hb : b2 = b
  · subst hb
    simp only [wu, if_pos, upd, e1]
    by_cases h4 : j = 4
    · subst h4; simp
    · by_cases h5 : j = 5
      · subst h5; simp
      · by_cases h6 : j = 6
        · subst h6; simp
        · by_cases h7 : j = 7
          · subst h7; simp
          · simp [h4, h5, h6, h7]
  · simp only [wu, if_neg hb, if_pos, upd, e0, e1]
theorem scopy_e {ω : fOm} {b b2 : Nat} (h : cB ω b2) (hne : b2 ≠ b + 1) : f_scopy ω b b2 = f_cpJ b b2 (f_cpD b b2 (f_cpR b b2 (f_cp0 ω b b2) (ω b2 5).toNatClampNeg) (ω b2 6).toNatClampNeg) (ω b2 7).toNatClampNeg := by
  have n5 := tn_le (n := 5) h.1 rfl
  have n6 := tn_le (n := 12) h.2.1 rfl
  have e0 := cp0_b (ω := ω) hne
  have e1 : f_cpR b b2 (f_cp0 ω b b2) (ω b2 5).toNatClampNeg b = f_cp0 ω b b2 b := cpR_b n5
  have e2 : f_cpD b b2 (f_cpR b b2 (f_cp0 ω b b2) (ω b2 5).toNatClampNeg) (ω b2 6).toNatClampNeg b = f_cp0 ω b b2 b := (cpD_b n6).trans e1
  have g5 : f_cp0 ω b b2 b 5 = ω b2 5 := by rw [e0]; simp [upd]
  have g6 : f_cp0 ω b b2 b 6 = ω b2 6 := by rw [e0]; simp [upd]
  have g7 : f_cp0 ω b b2 b 7 = ω b2 7 := by rw [e0]; simp [upd]
  unfold f_scopy
  dsimp only
  rw [g5, e1, g6, e2, g7]
theorem scopy_M {ω : fOm} {b b2 : Nat} (h : cB ω b2) (hne : b2 ≠ b + 1) : Mod (sS b) ω (f_scopy ω b b2) := by
  have n5 := tn_le (n := 5) h.1 rfl
  have n6 := tn_le (n := 12) h.2.1 rfl
  have n7 := tn_le (n := 4) h.2.2 rfl
  rw [scopy_e h hne]
  exact Mod.tr (Mod.tr (Mod.tr (cp0_M.mo (fun q h => by have h : q = b ∨ q = b + 1 := h; show b ≤ q ∧ q < b + 58; omega)) ((cpR_M n5).mo bS_sS)) ((cpD_M n6).mo bS_sS)) ((cpJ_M n7).mo bS_sS)
theorem scopy_b {ω : fOm} {b b2 : Nat} (h : cB ω b2) (hne : b2 ≠ b + 1) : f_scopy ω b b2 b = upd (upd (upd (upd (ω b) 4 (ω b2 4)) 5 (ω b2 5)) 6 (ω b2 6)) 7 (ω b2 7) := by
  have n5 := tn_le (n := 5) h.1 rfl
  have n6 := tn_le (n := 12) h.2.1 rfl
  have n7 := tn_le (n := 4) h.2.2 rfl
  rw [scopy_e h hne, cpJ_b n7, cpD_b n6, cpR_b n5, cp0_b hne]
theorem scopy_cB {ω : fOm} {b b2 : Nat} (h : cB ω b2) (hne : b2 ≠ b + 1) : cB (f_scopy ω b b2) b := by
  unfold cB
  rw [scopy_b h hne]
  simpa [upd, cB] using h
theorem chSetW_M {ω : fOm} {b : Nat} {s v : Int32} : Mod (fun q => q = b + 1) ω (f_chSetW ω b s v) := by
  unfold f_chSetW
  split
  · exact Mod.rf
  · split
    · exact Mod.rf
    · exact Mod.wu Mod.rf rfl
theorem addDevW_M {ω : fOm} {b : Nat} {l p ki on tw : Int32} (h : cB ω b) : Mod (sS b) ω (f_addDevW ω b l p ki on tw) := by
  unfold f_addDevW
  split
  · exact Mod.rf
  · split
    · exact Mod.rf
    · split
      · have n6 := tn_le (n := 12) h.2.1 rfl
        exact Mod.wu (dbegin_M.mo (fun q hq => by have hq : q = b + 30 + 2 * (ω b 6).toNatClampNeg := hq; show b ≤ q ∧ q < b + 58; omega)) ⟨Nat.le_refl b, by omega⟩
      · exact Mod.rf
theorem feedW_M {ω : fOm} {b : Nat} {d v : Int32} (h : cB ω b) : Mod (bS b) ω (f_feedW ω b d v) := by
  unfold f_feedW
  split
  · exact Mod.rf
  · rename_i k hk
    obtain ⟨i, hi, -, rfl, -⟩ := devOf_rg h.2.1.2 hk
    split
    · split
      · exact Mod.rf
      · split
        · exact keepLast_M.mo (fun q hq => by have hq : q = b + 30 + 2 * i ∨ q = b + 30 + 2 * i + 1 := hq; show b + 5 ≤ q ∧ q < b + 58; omega)
        · exact Mod.rf
    · exact Mod.rf
theorem addDevW_b {ω : fOm} {b : Nat} {l p ki on tw : Int32} (h : cB ω b) : cB (f_addDevW ω b l p ki on tw) b := by
  unfold f_addDevW
  split
  · exact h
  · split
    · exact h
    · split
      · rename_i c9
        have e : f_dbegin ω (b + 30 + 2 * (ω b 6).toNatClampNeg) l p ki on tw b = ω b := dbegin_M b (by show ¬ (b = _); omega)
        unfold cB
        unfold wu
        rw [if_pos rfl, e]
        have h6 := inc_le h.2.1.1 c9
        refine ⟨by simpa [upd] using h.1, by simpa [upd] using h6, by simpa [upd] using h.2.2⟩
      · exact h
abbrev f3 : Type := Int32 × Int32 × Int32
def f_fi1 (ω : fOm) (k : Nat) (v l : Int32) (t : f3) : Nat → f3
  | 0 => t
  | j + 1 => if f_valueAt ω k (nI j) = v then (if (f_fi1 ω k v l t j).2.2 = 0 then l else (f_fi1 ω k v l t j).1, if (f_fi1 ω k v l t j).2.2 = 0 then nI j else (f_fi1 ω k v l t j).2.1, (f_fi1 ω k v l t j).2.2 + 1) else f_fi1 ω k v l t j
def f_fi2 (ω : fOm) (v : Int32) : Nat → f3
  | 0 => (-6, -6, 0)
  | j + 1 => match f_ringOf ω 1 (nI j) with
    | none => f_fi2 ω v j
    | some k => f_fi1 ω k v (nI j) (f_fi2 ω v j) (ω k 0).toNatClampNeg
theorem fi1_p {ω : fOm} {k : Nat} {v l : Int32} {t : f3} {j : Nat} (h : f_valueAt ω k (nI j) = v) : f_fi1 ω k v l t (j + 1) = (if (f_fi1 ω k v l t j).2.2 = 0 then l else (f_fi1 ω k v l t j).1, if (f_fi1 ω k v l t j).2.2 = 0 then nI j else (f_fi1 ω k v l t j).2.1, (f_fi1 ω k v l t j).2.2 + 1) := if_pos h
theorem fi1_n {ω : fOm} {k : Nat} {v l : Int32} {t : f3} {j : Nat} (h : ¬ f_valueAt ω k (nI j) = v) : f_fi1 ω k v l t (j + 1) = f_fi1 ω k v l t j := if_neg h
theorem fi2_p {ω : fOm} {v : Int32} {j k : Nat} (h : f_ringOf ω 1 (nI j) = some k) : f_fi2 ω v (j + 1) = f_fi1 ω k v (nI j) (f_fi2 ω v j) (ω k 0).toNatClampNeg := by
  conv => lhs; unfold f_fi2
  rw [h]
theorem fi2_n {ω : fOm} {v : Int32} {j : Nat} (h : f_ringOf ω 1 (nI j) = none) : f_fi2 ω v (j + 1) = f_fi2 ω v j := by
  conv => lhs; unfold f_fi2
  rw [h]
def f_find (ω : fOm) (v wh : Int32) : Int32 := if f_isV v = 0 then (-2) else if f_btw wh 0 2 = 0 then (-2) else
  if (f_fi2 ω v (ω 1 5).toNatClampNeg).2.2 = 0 then (-6) else if wh = 0 then (f_fi2 ω v (ω 1 5).toNatClampNeg).1 else if wh = 1 then (f_fi2 ω v (ω 1 5).toNatClampNeg).2.1 else (f_fi2 ω v (ω 1 5).toNatClampNeg).2.2
abbrev f2w : Type := Int32 × Int32 × fOm
def f_bpS (l g s : Int32) (w : fOm) (p : Int32) : fOm := f_passTW (f_addDevW (f_scopy w 59 1) 59 l p 0 g s) 59 100
def f_bp (l g s : Int32) (ω : fOm) : Nat → f2w
  | 0 => (0, -1, ω)
  | j + 1 => (if f_flAll (f_bpS l g s (f_bp l g s ω j).2.2 (nI j)) 59 ≤ (f_bp l g s ω j).2.1 then (f_bp l g s ω j).1 else nI j, if f_flAll (f_bpS l g s (f_bp l g s ω j).2.2 (nI j)) 59 ≤ (f_bp l g s ω j).2.1 then (f_bp l g s ω j).2.1 else f_flAll (f_bpS l g s (f_bp l g s ω j).2.2 (nI j)) 59, f_bpS l g s (f_bp l g s ω j).2.2 (nI j))
def f_best (ω : fOm) (l g s wh : Int32) : Int32 × fOm := match f_ringOf ω 1 l with
  | none => (-1, ω)
  | some k => if f_fits 0 g s = 0 then (-2, ω) else if f_btw wh 0 1 = 0 then (-2, ω) else if ω 1 6 < 12 then (if wh = 0 then (f_bp l g s ω (ω k 0).toNatClampNeg).1 else (f_bp l g s ω (ω k 0).toNatClampNeg).2.1, (f_bp l g s ω (ω k 0).toNatClampNeg).2.2) else (-4, ω)
theorem bpS_M {l g s p : Int32} {w : fOm} (h : cB w 1) : Mod (sS 59) w (f_bpS l g s w p) := by
  have h2 := scopy_M (b := 59) h (by decide)
  have h3 := scopy_cB (b := 59) h (by decide)
  exact (h2.tr (addDevW_M h3)).tr (passTW_M (addDevW_b h3))
theorem bp_M {l g s : Int32} {ω : fOm} (h : cB ω 1) (j : Nat) : Mod (sS 59) ω (f_bp l g s ω j).2.2 := by
  induction j with
  | zero => exact Mod.rf
  | succ j ih =>
    refine ih.tr (bpS_M ?_)
    unfold cB
    rw [ih 1 (by show ¬ (59 ≤ 1 ∧ _); omega)]
    exact h
theorem bp_k {l g s : Int32} {ω : fOm} {k : Nat} (h : cB ω 1) (j : Nat) (e : f_ringOf ω 1 l = some k) : (f_bp l g s ω j).2.2 k = ω k := by
  obtain ⟨i, hi, -, rfl, -⟩ := ringOf_rg h.1.2 e
  exact bp_M h j _ (by show ¬ (59 ≤ 1 + 5 + 5 * i ∧ _); omega)
def f_beI (ω : fOm) : Nat → fOm
  | 0 => ω
  | j + 1 => f_tlW (f_chSetW (f_scopy (f_beI ω j) 59 1) 59 0 (50 - nI j)) 59 100
def f_beF : Nat → Nat → fOm → Int32 × fOm
  | 0, _, w => (-6, w)
  | n + 1, j, w => if f_tlR (f_chSetW (f_scopy w 59 1) 59 0 (50 - nI j)) 59 100 = -6 then (50 - nI j, f_tlW (f_chSetW (f_scopy w 59 1) 59 0 (50 - nI j)) 59 100) else f_beF n (j + 1) (f_tlW (f_chSetW (f_scopy w 59 1) 59 0 (50 - nI j)) 59 100)
theorem beF_s {n j : Nat} {w : fOm} : f_beF (n + 1) j w = if f_tlR (f_chSetW (f_scopy w 59 1) 59 0 (50 - nI j)) 59 100 = -6 then (50 - nI j, f_tlW (f_chSetW (f_scopy w 59 1) 59 0 (50 - nI j)) 59 100) else f_beF n (j + 1) (f_tlW (f_chSetW (f_scopy w 59 1) 59 0 (50 - nI j)) 59 100) := rfl
def f_be (ω : fOm) : Int32 × fOm := f_beF 51 0 ω
theorem be_a {ω : fOm} {j : Nat} (hP : f_be ω = f_beF (51 - j) j (f_beI ω j)) (h : j = 51) : (-6) = (f_be ω).1 ∧ f_beI ω j = (f_be ω).2 := pr_eq (by rw [hP, show 51 - j = 0 by omega]; rfl)
theorem be_b {ω : fOm} {j : Nat} (hP : f_be ω = f_beF (51 - j) j (f_beI ω j)) (h : j < 51) (c : f_tlR (f_chSetW (f_scopy (f_beI ω j) 59 1) 59 0 (50 - nI j)) 59 100 = -6) : 50 - nI j = (f_be ω).1 ∧ f_tlW (f_chSetW (f_scopy (f_beI ω j) 59 1) 59 0 (50 - nI j)) 59 100 = (f_be ω).2 := pr_eq (by rw [hP, sub_s h, beF_s, if_pos c])
theorem be_c {ω : fOm} {j : Nat} (hP : f_be ω = f_beF (51 - j) j (f_beI ω j)) (h : j < 51) (c : ¬ f_tlR (f_chSetW (f_scopy (f_beI ω j) 59 1) 59 0 (50 - nI j)) 59 100 = -6) : f_be ω = f_beF (51 - (j + 1)) (j + 1) (f_beI ω (j + 1)) := by
  rw [hP, sub_s h, beF_s, if_neg c]
  rfl
theorem sb_ge : ∀ j : Nat, j ≤ 51 → (50 : Int32) - nI j < 0 → j = 51 := by decide +kernel
theorem sb_lt : ∀ j : Nat, j ≤ 51 → ¬ (50 : Int32) - nI j < 0 → j < 51 := by decide +kernel
theorem sb_n : ∀ j : Nat, j < 51 → (50 : Int32) - nI j + (-1) = 50 - nI (j + 1) := by decide +kernel
def f_siF (c : Int64) : Nat → Nat → Nat
  | 0, j => j
  | n + 1, j => if f_btw (f_signIn c (nI j)) 33 126 = 0 then j else f_siF c n (j + 1)
theorem siF_s {c : Int64} {n j : Nat} : f_siF c (n + 1) j = if f_btw (f_signIn c (nI j)) 33 126 = 0 then j else f_siF c n (j + 1) := rfl
theorem siF_le {c : Int64} : ∀ n j : Nat, j ≤ f_siF c n j ∧ f_siF c n j ≤ j + n := by
  intro n
  induction n with
  | zero => intro j; exact ⟨Nat.le_refl j, Nat.le_refl j⟩
  | succ n ih =>
    intro j
    rw [siF_s]
    split
    · omega
    · have := ih (j + 1)
      omega
def f_si (c : Int64) : Nat := f_siF c 8 0
def f_signs (c : Int64) : Int32 := if 8 ≤ nI (f_si c) then nI (f_si c) else if lg_cmp ((c.toUInt64 >>> ((8 * nI (f_si c)).toInt64.toUInt64 &&& Int64.toUInt64 63)).toInt64) 0 = 0 then nI (f_si c) else 0
theorem si_le (c : Int64) : f_si c ≤ 8 := by have := siF_le (c := c) 8 0; unfold f_si; omega
theorem signs_rg (c : Int64) : f_signs c = 0 ∨ f_signs c = nI (f_si c) := by
  unfold f_signs
  split
  · exact Or.inr rfl
  · split
    · exact Or.inr rfl
    · exact Or.inl rfl
theorem signs_n (c : Int64) : ∃ n, n ≤ 8 ∧ f_signs c = nI n := by
  rcases signs_rg c with h | h
  · exact ⟨0, by omega, h⟩
  · exact ⟨_, si_le c, h⟩
def f_apL (c : Int64) (ω : fOm) : Nat → fOm
  | 0 => ω
  | j + 1 => f_append (f_apL c ω j) (f_signIn c (f_signs c - 1 - nI j))
def f_put (ω : fOm) (c : Int64) : Int32 × fOm := if f_signs c = 0 then (-2, ω) else if ω 527 1 + f_signs c ≤ 80 then (f_apL c ω (f_signs c).toNatClampNeg 527 1, f_apL c ω (f_signs c).toNatClampNeg) else (-4, ω)
theorem ap_k : ∀ n : Nat, n ≤ 8 → ∀ j : Nat, j ≤ n → (nI n - 1 - nI j < 0 → j = n) ∧ (¬ nI n - 1 - nI j < 0 → j < n) ∧ nI n - 1 - nI j + (-1) = nI n - 1 - nI (j + 1) := by decide +kernel
theorem ap_ge {c : Int64} {j : Nat} (h : f_signs c - 1 - nI j < 0) (hj : j ≤ (f_signs c).toNatClampNeg) : j = (f_signs c).toNatClampNeg := by
  obtain ⟨n, hn, e⟩ := signs_n c
  rw [e] at h hj ⊢
  rw [nI_clamp (by omega)] at hj ⊢
  exact (ap_k n hn j hj).1 h
theorem ap_lt {c : Int64} {j : Nat} (h : ¬ f_signs c - 1 - nI j < 0) (hj : j ≤ (f_signs c).toNatClampNeg) : j < (f_signs c).toNatClampNeg := by
  obtain ⟨n, hn, e⟩ := signs_n c
  rw [e] at h hj ⊢
  rw [nI_clamp (by omega)] at hj ⊢
  exact (ap_k n hn j hj).2.1 h
theorem ap_n {c : Int64} {j : Nat} (hj : j ≤ (f_signs c).toNatClampNeg) : f_signs c - 1 - nI j + (-1) = f_signs c - 1 - nI (j + 1) := by
  obtain ⟨n, hn, e⟩ := signs_n c
  rw [e] at hj ⊢
  rw [nI_clamp (by omega)] at hj
  exact (ap_k n hn j hj).2.2
theorem ap_0 {c : Int64} : f_signs c - 1 = f_signs c - 1 - nI 0 := by
  obtain ⟨n, hn, e⟩ := signs_n c
  have key : ∀ n : Nat, n ≤ 8 → nI n - 1 = nI n - 1 - nI 0 := by decide +kernel
  rw [e]
  exact key n hn
theorem signIn_c (c : Int64) (b : Int32) : 0 ≤ vp_nar .char (f_signIn c b) ∧ vp_nar .char (f_signIn c b) ≤ 65535 := by
  unfold f_signIn
  rw [pk_vc, pk_char]
  have h1 : (65535 : Int32) = nI 65535 := rfl
  rw [h1]
  have h2 : ∀ n : Nat, n % 65536 < 65536 := fun n => Nat.mod_lt _ (by decide)
  exact ⟨nI_pos' (Nat.lt_trans (h2 _) (by decide)), nI_le (Nat.le_of_lt_succ (h2 _)) (by decide)⟩
theorem si_a {c : Int64} {j : Nat} (hP : f_si c = f_siF c (8 - j) j) (h : j = 8) : f_si c = j := by
  rw [hP, show 8 - j = 0 by omega]
  rfl
theorem si_b {c : Int64} {j : Nat} (hP : f_si c = f_siF c (8 - j) j) (h : j < 8) (e : f_btw (f_signIn c (nI j)) 33 126 = 0) : f_si c = j := by rw [hP, sub_s h, siF_s, if_pos e]
theorem si_c {c : Int64} {j : Nat} (hP : f_si c = f_siF c (8 - j) j) (h : j < 8) (e : ¬ f_btw (f_signIn c (nI j)) 33 126 = 0) : f_si c = f_siF c (8 - (j + 1)) (j + 1) := by rw [hP, sub_s h, siF_s, if_neg e]
def f_faF (d : Int32) : Nat → Nat → fOm → fB2
  | 0, _, w => (1, w)
  | n + 1, j, w => if 0 ≤ f_feedR w 1 d (f_number w (nI (j + 1))) then f_faF d n (j + 1) (f_feedW w 1 d (f_number w (nI (j + 1)))) else (0, f_feedW w 1 d (f_number w (nI (j + 1))))
def f_faI (d : Int32) (ω : fOm) : Nat → fOm
  | 0 => ω
  | j + 1 => f_feedW (f_faI d ω j) 1 d (f_number (f_faI d ω j) (nI (j + 1)))
theorem faF_s {d : Int32} {n j : Nat} {w : fOm} : f_faF d (n + 1) j w = if 0 ≤ f_feedR w 1 d (f_number w (nI (j + 1))) then f_faF d n (j + 1) (f_feedW w 1 d (f_number w (nI (j + 1)))) else (0, f_feedW w 1 d (f_number w (nI (j + 1)))) := rfl
def f_fd (ω : fOm) (d : Int32) : fB2 := f_faF d ((ω 529 4).toNatClampNeg - 1) 0 ω
theorem fa_a {d : Int32} {ω : fOm} {j : Nat} (hP : f_fd ω d = f_faF d ((ω 529 4).toNatClampNeg - 1 - j) j (f_faI d ω j)) (h : j = (ω 529 4).toNatClampNeg - 1) : 1 = (f_fd ω d).1 ∧ f_faI d ω j = (f_fd ω d).2 := pr_eq (by rw [hP, show (ω 529 4).toNatClampNeg - 1 - j = 0 by omega]; rfl)
theorem fa_b {d : Int32} {ω : fOm} {j : Nat} (hP : f_fd ω d = f_faF d ((ω 529 4).toNatClampNeg - 1 - j) j (f_faI d ω j)) (h : j < (ω 529 4).toNatClampNeg - 1) (c : ¬ 0 ≤ f_feedR (f_faI d ω j) 1 d (f_number (f_faI d ω j) (nI (j + 1)))) : 0 = (f_fd ω d).1 ∧ f_feedW (f_faI d ω j) 1 d (f_number (f_faI d ω j) (nI (j + 1))) = (f_fd ω d).2 := pr_eq (by rw [hP, sub_s h, faF_s, if_neg c])
theorem fa_c {d : Int32} {ω : fOm} {j : Nat} (hP : f_fd ω d = f_faF d ((ω 529 4).toNatClampNeg - 1 - j) j (f_faI d ω j)) (h : j < (ω 529 4).toNatClampNeg - 1) (c : 0 ≤ f_feedR (f_faI d ω j) 1 d (f_number (f_faI d ω j) (nI (j + 1)))) : f_fd ω d = f_faF d ((ω 529 4).toNatClampNeg - 1 - (j + 1)) (j + 1) (f_faI d ω (j + 1)) := by
  rw [hP, sub_s h, faF_s, if_pos c]
  rfl
theorem fa_01F {d : Int32} (n : Nat) : ∀ j (w : fOm), (f_faF d n j w).1 = 0 ∨ (f_faF d n j w).1 = 1 := by
  induction n with
  | zero => intro j w; exact o01
  | succ n ih =>
    intro j w
    rw [faF_s]
    split
    · exact ih _ _
    · exact z01
theorem fa_01 (ω : fOm) (d : Int32) : (f_fd ω d).1 = 0 ∨ (f_fd ω d).1 = 1 := fa_01F _ _ _
theorem faI_M {d : Int32} {ω : fOm} (h : cB ω 1) (j : Nat) : Mod (bS 1) ω (f_faI d ω j) := by
  induction j with
  | zero => exact Mod.rf
  | succ j ih =>
    refine ih.tr (feedW_M ?_)
    unfold cB
    rw [ih 1 (by show ¬ (6 ≤ 1 ∧ _); omega)]
    exact h
theorem faI_529 {d : Int32} {ω : fOm} (h : cB ω 1) (j : Nat) : f_faI d ω j 529 = ω 529 := faI_M h j 529 (by show ¬ (_ ∧ 529 < 59); omega)
theorem fa_ge {x : Int32} {j : Nat} (h : 0 ≤ x ∧ x ≤ 80) (c : x ≤ nI (j + 1)) (hj : j ≤ x.toNatClampNeg - 1) : j = x.toNatClampNeg - 1 := by
  have h2 := tn_le (n := 80) h rfl
  have h1 := Int32.le_iff_toInt_le.mp c
  rw [nI_toInt (by omega), tn_toInt h.1] at h1
  omega
theorem fa_lt {x : Int32} {j : Nat} (h : 0 ≤ x ∧ x ≤ 80) (c : ¬ x ≤ nI (j + 1)) (hj : j ≤ x.toNatClampNeg - 1) : j < x.toNatClampNeg - 1 := by
  have h2 := tn_le (n := 80) h rfl
  have h1 := Int32.lt_iff_toInt_lt.mp (Int32.not_le.mp c)
  rw [nI_toInt (by omega), tn_toInt h.1] at h1
  omega
def bz (r : Int32) : Int32 := if r < 0 then 0 else 1
theorem bz_01 (r : Int32) : bz r = 0 ∨ bz r = 1 := if01 z01 o01
def f_co (ω : fOm) : fB2 := if ω 529 2 = 102 then f_fd ω (f_number ω 0) else if ω 529 2 = 106 then (bz (f_turnJR ω 1 (f_number ω 0) (f_number ω 1)), f_turnJW ω 1 (f_number ω 0) (f_number ω 1)) else if ω 529 2 = 108 then (bz (f_lightR ω 1 (f_number ω 0) (f_number ω 1) (f_number ω 2)), f_lightW ω 1 (f_number ω 0) (f_number ω 1) (f_number ω 2)) else (bz (f_passTR ω 1 (f_number ω 0)), f_passTW ω 1 (f_number ω 0))
theorem co_01 (ω : fOm) : (f_co ω).1 = 0 ∨ (f_co ω).1 = 1 := by
  unfold f_co
  split
  · exact fa_01 _ _
  · split
    · exact bz_01 _
    · split
      · exact bz_01 _
      · exact bz_01 _
def f_caI (w0 : fOm) : Nat → fOm
  | 0 => w0
  | j + 1 => (f_co (f_rx (f_caI w0 j)).2).2
def f_caF : Nat → Nat → fOm → Nat × fOm
  | 0, j, w => (j, w)
  | n + 1, j, w => if (f_rx w).1 = 0 then (j, (f_rx w).2) else if (f_co (f_rx w).2).1 = 0 then (j, (f_co (f_rx w).2).2) else f_caF n (j + 1) (f_co (f_rx w).2).2
theorem caF_s {n j : Nat} {w : fOm} : f_caF (n + 1) j w = if (f_rx w).1 = 0 then (j, (f_rx w).2) else if (f_co (f_rx w).2).1 = 0 then (j, (f_co (f_rx w).2).2) else f_caF n (j + 1) (f_co (f_rx w).2).2 := rfl
def f_ca0 (ω : fOm) : fOm := f_f0 (f_hold (f_ff ω).2 1)
def f_ca (ω : fOm) : Nat × fOm := f_caF 80 0 (f_ca0 ω)
theorem ca_0 {ω : fOm} : f_ca ω = f_caF (80 - 0) 0 (f_caI (f_ca0 ω) 0) := rfl
theorem ca_a {ω : fOm} {j : Nat} (hP : f_ca ω = f_caF (80 - j) j (f_caI (f_ca0 ω) j)) (h : j = 80) : f_ca ω = (j, f_caI (f_ca0 ω) j) := by rw [hP, show 80 - j = 0 by omega]; rfl
theorem ca_b {ω : fOm} {j : Nat} (hP : f_ca ω = f_caF (80 - j) j (f_caI (f_ca0 ω) j)) (h : j < 80) (c : (f_rx (f_caI (f_ca0 ω) j)).1 = 0) : f_ca ω = (j, (f_rx (f_caI (f_ca0 ω) j)).2) := by rw [hP, sub_s h, caF_s, if_pos c]
theorem ca_c {ω : fOm} {j : Nat} (hP : f_ca ω = f_caF (80 - j) j (f_caI (f_ca0 ω) j)) (h : j < 80) (c : ¬ (f_rx (f_caI (f_ca0 ω) j)).1 = 0) (c2 : (f_co (f_rx (f_caI (f_ca0 ω) j)).2).1 = 0) : f_ca ω = (j, (f_co (f_rx (f_caI (f_ca0 ω) j)).2).2) := by rw [hP, sub_s h, caF_s, if_neg c, if_pos c2]
theorem ca_d {ω : fOm} {j : Nat} (hP : f_ca ω = f_caF (80 - j) j (f_caI (f_ca0 ω) j)) (h : j < 80) (c : ¬ (f_rx (f_caI (f_ca0 ω) j)).1 = 0) (c2 : ¬ (f_co (f_rx (f_caI (f_ca0 ω) j)).2).1 = 0) : f_ca ω = f_caF (80 - (j + 1)) (j + 1) (f_caI (f_ca0 ω) (j + 1)) := by
  rw [hP, sub_s h, caF_s, if_neg c, if_neg c2]
  rfl
def f_carryW (ω : fOm) : fOm := if (f_ff ω).1 = -6 then f_keepD (wu (f_ca ω).2 527 1 0) (nI (f_ca ω).1) else (f_ff ω).2
def f_carryR (ω : fOm) : Int32 := if (f_ff ω).1 = -6 then nI (f_ca ω).1 else (-3)
theorem carry_l {ω w : fOm} {j : Nat} (c : (f_ff ω).1 = -6) (h : f_ca ω = (j, w)) : nI j = f_carryR ω ∧ f_keepD (wu w 527 1 0) (nI j) = f_carryW ω := by
  unfold f_carryR f_carryW
  rw [if_pos c, if_pos c, h]
  exact ⟨rfl, rfl⟩
set_option maxHeartbeats 4000000 in
set_option maxRecDepth 100000 in
theorem tX7_set (l0 : Launch) (G : fG) (F : Nat) (ω : fOm) (hI : Inv ω) (s : Int32) (v : Int32) : CT l0 G F yX7_set cX7_set 3 (some .int) 5 [.ref (F + 0), .int s, .int v] ω (some (.int (f_chSetR (f_hold ω 1) 1 s v))) (f_keepD (f_chSetW (f_hold ω 1) 1 s v) (f_chSetR (f_hold ω 1) 1 s v)) := by
  refine ct_met (own := RX7) (by decide +kernel) rfl (Nat.le_of_ble_eq_true rfl) (fun X hXl hX h => ?_)
  subst hXl
  refine g_aload_n h 0 dX7_set_0 rfl ?_
  refine q_7_history h rfl tw_233 dX7_set_1 ?_
  refine g_aload_n h 0 dX7_set_4 rfl ?_
  refine q_7_now h rfl tw_231 dX7_set_5 ?_
  refine k_VN_v (st := []) h hX (tX1_holdBack (xl X) G F ω hI 1 rfl) rfl ⟨kd_lt rfl, ob_13 rfl⟩ rfl miX1_holdBack tw_257 (by decide) (by decide) rfl (Nat.le_of_ble_eq_true rfl) (by rw [hX]; exact Nat.zero_le _) (by rw [hX]; exact Nat.zero_le _) dX7_set_8 (fun w1 hw1 iw1 => ?_)
  refine g_aload_n h 0 dX7_set_11 rfl ?_
  refine q_7_history h rfl tw_233 dX7_set_12 ?_
  refine g_aload_n h 0 dX7_set_15 rfl ?_
  refine q_7_now h rfl tw_231 dX7_set_16 ?_
  refine g_iload_n h 1 dX7_set_19 rfl ?_
  refine g_iload_n h 2 dX7_set_20 rfl ?_
  refine k_VN_j (st := [.ref (F + 117)]) h hX (tX6_changeSetting (xl X) G F w1 iw1 1 rfl s v) rfl ⟨kd_lt rfl, ob_1 rfl⟩ rfl miX6_changeSetting tw_279 (by decide) (by decide) rfl (Nat.le_of_ble_eq_true rfl) (by rw [hX]; exact Nat.zero_le _) (by rw [hX]; exact Nat.zero_le _) dX7_set_21 (fun v2 w3 hv2 hw3 iw3 => ?_)
  refine k_VN_j (st := []) h hX (tX1_keepIfDone (xl X) G F w3 iw3 v2) rfl ⟨kd_lt rfl, ob_13 rfl⟩ rfl miX1_keepIfDone tw_290 (by decide) (by decide) rfl (Nat.le_of_ble_eq_true rfl) (by rw [hX]; exact Nat.zero_le _) (by rw [hX]; exact Nat.zero_le _) dX7_set_24 (fun v4 w5 hv4 hw5 iw5 => ?_)
  exact e_iret h iw5 dX7_set_27 (by clear iw1 iw3 iw5; replace hw1 := hw1.symm; replace hv2 := hv2.symm; replace hw3 := hw3.symm; replace hv4 := hv4.symm; replace hw5 := hw5.symm; subst hw5 hv4 hw3 hv2 hw1; rfl) (by clear iw1 iw3 iw5; replace hw1 := hw1.symm; replace hv2 := hv2.symm; replace hw3 := hw3.symm; replace hv4 := hv4.symm; replace hw5 := hw5.symm; subst hw5 hv4 hw3 hv2 hw1; rfl)
set_option maxHeartbeats 4000000 in
set_option maxRecDepth 100000 in
theorem tX7_loop (l0 : Launch) (G : fG) (F : Nat) (ω : fOm) (hI : Inv ω) (pl : Int32) : CT l0 G F yX7_loop cX7_loop 2 (some .int) 5 [.ref (F + 0), .int pl] ω (some (.int (f_addRingR (f_hold ω 1) 1 pl))) (f_keepD (f_addRingW (f_hold ω 1) 1 pl) (f_addRingR (f_hold ω 1) 1 pl)) := by
  refine ct_met (own := RX7) (by decide +kernel) rfl (Nat.le_of_ble_eq_true rfl) (fun X hXl hX h => ?_)
  subst hXl
  refine g_aload_n h 0 dX7_loop_0 rfl ?_
  refine q_7_history h rfl tw_233 dX7_loop_1 ?_
  refine g_aload_n h 0 dX7_loop_4 rfl ?_
  refine q_7_now h rfl tw_231 dX7_loop_5 ?_
  refine k_VN_v (st := []) h hX (tX1_holdBack (xl X) G F ω hI 1 rfl) rfl ⟨kd_lt rfl, ob_13 rfl⟩ rfl miX1_holdBack tw_257 (by decide) (by decide) rfl (Nat.le_of_ble_eq_true rfl) (by rw [hX]; exact Nat.zero_le _) (by rw [hX]; exact Nat.zero_le _) dX7_loop_8 (fun w1 hw1 iw1 => ?_)
  refine g_aload_n h 0 dX7_loop_11 rfl ?_
  refine q_7_history h rfl tw_233 dX7_loop_12 ?_
  refine g_aload_n h 0 dX7_loop_15 rfl ?_
  refine q_7_now h rfl tw_231 dX7_loop_16 ?_
  refine g_iload_n h 1 dX7_loop_19 rfl ?_
  refine k_VN_j (st := [.ref (F + 117)]) h hX (tX6_addRing (xl X) G F w1 iw1 1 rfl pl) rfl ⟨kd_lt rfl, ob_1 rfl⟩ rfl miX6_addRing tw_302 (by decide) (by decide) rfl (Nat.le_of_ble_eq_true rfl) (by rw [hX]; exact Nat.zero_le _) (by rw [hX]; exact Nat.zero_le _) dX7_loop_20 (fun v2 w3 hv2 hw3 iw3 => ?_)
  refine k_VN_j (st := []) h hX (tX1_keepIfDone (xl X) G F w3 iw3 v2) rfl ⟨kd_lt rfl, ob_13 rfl⟩ rfl miX1_keepIfDone tw_290 (by decide) (by decide) rfl (Nat.le_of_ble_eq_true rfl) (by rw [hX]; exact Nat.zero_le _) (by rw [hX]; exact Nat.zero_le _) dX7_loop_23 (fun v4 w5 hv4 hw5 iw5 => ?_)
  exact e_iret h iw5 dX7_loop_26 (by clear iw1 iw3 iw5; replace hw1 := hw1.symm; replace hv2 := hv2.symm; replace hw3 := hw3.symm; replace hv4 := hv4.symm; replace hw5 := hw5.symm; subst hw5 hv4 hw3 hv2 hw1; rfl) (by clear iw1 iw3 iw5; replace hw1 := hw1.symm; replace hv2 := hv2.symm; replace hw3 := hw3.symm; replace hv4 := hv4.symm; replace hw5 := hw5.symm; subst hw5 hv4 hw3 hv2 hw1; rfl)
set_option maxHeartbeats 4000000 in
set_option maxRecDepth 100000 in
theorem tX7_device (l0 : Launch) (G : fG) (F : Nat) (ω : fOm) (hI : Inv ω) (l : Int32) (p : Int32) (ki : Int32) (on : Int32) (tw : Int32) : CT l0 G F yX7_device cX7_device 6 (some .int) 5 [.ref (F + 0), .int l, .int p, .int ki, .int on, .int tw] ω (some (.int (f_addDevR (f_hold ω 1) 1 l p ki on tw))) (f_keepD (f_addDevW (f_hold ω 1) 1 l p ki on tw) (f_addDevR (f_hold ω 1) 1 l p ki on tw)) := by
  refine ct_met (own := RX7) (by decide +kernel) rfl (Nat.le_of_ble_eq_true rfl) (fun X hXl hX h => ?_)
  subst hXl
  refine g_aload_n h 0 dX7_device_0 rfl ?_
  refine q_7_history h rfl tw_233 dX7_device_1 ?_
  refine g_aload_n h 0 dX7_device_4 rfl ?_
  refine q_7_now h rfl tw_231 dX7_device_5 ?_
  refine k_VN_v (st := []) h hX (tX1_holdBack (xl X) G F ω hI 1 rfl) rfl ⟨kd_lt rfl, ob_13 rfl⟩ rfl miX1_holdBack tw_257 (by decide) (by decide) rfl (Nat.le_of_ble_eq_true rfl) (by rw [hX]; exact Nat.zero_le _) (by rw [hX]; exact Nat.zero_le _) dX7_device_8 (fun w1 hw1 iw1 => ?_)
  refine g_aload_n h 0 dX7_device_11 rfl ?_
  refine q_7_history h rfl tw_233 dX7_device_12 ?_
  refine g_aload_n h 0 dX7_device_15 rfl ?_
  refine q_7_now h rfl tw_231 dX7_device_16 ?_
  refine g_iload_n h 1 dX7_device_19 rfl ?_
  refine g_iload_n h 2 dX7_device_20 rfl ?_
  refine g_iload_n h 3 dX7_device_21 rfl ?_
  refine g_iload h 4 dX7_device_22 rfl ?_
  refine g_iload h 5 dX7_device_24 rfl ?_
  refine k_VN_j (st := [.ref (F + 117)]) h hX (tX6_addDevice (xl X) G F w1 iw1 1 rfl l p ki on tw) rfl ⟨kd_lt rfl, ob_1 rfl⟩ rfl miX6_addDevice tw_314 (by decide) (by decide) rfl (Nat.le_of_ble_eq_true rfl) (by rw [hX]; exact Nat.zero_le _) (by rw [hX]; exact Nat.zero_le _) dX7_device_26 (fun v2 w3 hv2 hw3 iw3 => ?_)
  refine k_VN_j (st := []) h hX (tX1_keepIfDone (xl X) G F w3 iw3 v2) rfl ⟨kd_lt rfl, ob_13 rfl⟩ rfl miX1_keepIfDone tw_290 (by decide) (by decide) rfl (Nat.le_of_ble_eq_true rfl) (by rw [hX]; exact Nat.zero_le _) (by rw [hX]; exact Nat.zero_le _) dX7_device_29 (fun v4 w5 hv4 hw5 iw5 => ?_)
  exact e_iret h iw5 dX7_device_32 (by clear iw1 iw3 iw5; replace hw1 := hw1.symm; replace hv2 := hv2.symm; replace hw3 := hw3.symm; replace hv4 := hv4.symm; replace hw5 := hw5.symm; subst hw5 hv4 hw3 hv2 hw1; rfl) (by clear iw1 iw3 iw5; replace hw1 := hw1.symm; replace hv2 := hv2.symm; replace hw3 := hw3.symm; replace hv4 := hv4.symm; replace hw5 := hw5.symm; subst hw5 hv4 hw3 hv2 hw1; rfl)
set_option maxHeartbeats 4000000 in
set_option maxRecDepth 100000 in
theorem tX7_join (l0 : Launch) (G : fG) (F : Nat) (ω : fOm) (hI : Inv ω) (l : Int32) (p : Int32) (l2 : Int32) (p2 : Int32) : CT l0 G F yX7_join cX7_join 5 (some .int) 5 [.ref (F + 0), .int l, .int p, .int l2, .int p2] ω (some (.int (f_addJoinR (f_hold ω 1) 1 l p l2 p2))) (f_keepD (f_addJoinW (f_hold ω 1) 1 l p l2 p2) (f_addJoinR (f_hold ω 1) 1 l p l2 p2)) := by
  refine ct_met (own := RX7) (by decide +kernel) rfl (Nat.le_of_ble_eq_true rfl) (fun X hXl hX h => ?_)
  subst hXl
  refine g_aload_n h 0 dX7_join_0 rfl ?_
  refine q_7_history h rfl tw_233 dX7_join_1 ?_
  refine g_aload_n h 0 dX7_join_4 rfl ?_
  refine q_7_now h rfl tw_231 dX7_join_5 ?_
  refine k_VN_v (st := []) h hX (tX1_holdBack (xl X) G F ω hI 1 rfl) rfl ⟨kd_lt rfl, ob_13 rfl⟩ rfl miX1_holdBack tw_257 (by decide) (by decide) rfl (Nat.le_of_ble_eq_true rfl) (by rw [hX]; exact Nat.zero_le _) (by rw [hX]; exact Nat.zero_le _) dX7_join_8 (fun w1 hw1 iw1 => ?_)
  refine g_aload_n h 0 dX7_join_11 rfl ?_
  refine q_7_history h rfl tw_233 dX7_join_12 ?_
  refine g_aload_n h 0 dX7_join_15 rfl ?_
  refine q_7_now h rfl tw_231 dX7_join_16 ?_
  refine g_iload_n h 1 dX7_join_19 rfl ?_
  refine g_iload_n h 2 dX7_join_20 rfl ?_
  refine g_iload_n h 3 dX7_join_21 rfl ?_
  refine g_iload h 4 dX7_join_22 rfl ?_
  refine k_VN_j (st := [.ref (F + 117)]) h hX (tX6_addJoin (xl X) G F w1 iw1 1 rfl l p l2 p2) rfl ⟨kd_lt rfl, ob_1 rfl⟩ rfl miX6_addJoin tw_345 (by decide) (by decide) rfl (Nat.le_of_ble_eq_true rfl) (by rw [hX]; exact Nat.zero_le _) (by rw [hX]; exact Nat.zero_le _) dX7_join_24 (fun v2 w3 hv2 hw3 iw3 => ?_)
  refine k_VN_j (st := []) h hX (tX1_keepIfDone (xl X) G F w3 iw3 v2) rfl ⟨kd_lt rfl, ob_13 rfl⟩ rfl miX1_keepIfDone tw_290 (by decide) (by decide) rfl (Nat.le_of_ble_eq_true rfl) (by rw [hX]; exact Nat.zero_le _) (by rw [hX]; exact Nat.zero_le _) dX7_join_27 (fun v4 w5 hv4 hw5 iw5 => ?_)
  exact e_iret h iw5 dX7_join_30 (by clear iw1 iw3 iw5; replace hw1 := hw1.symm; replace hv2 := hv2.symm; replace hw3 := hw3.symm; replace hv4 := hv4.symm; replace hw5 := hw5.symm; subst hw5 hv4 hw3 hv2 hw1; rfl) (by clear iw1 iw3 iw5; replace hw1 := hw1.symm; replace hv2 := hv2.symm; replace hw3 := hw3.symm; replace hv4 := hv4.symm; replace hw5 := hw5.symm; subst hw5 hv4 hw3 hv2 hw1; rfl)
set_option maxHeartbeats 4000000 in
set_option maxRecDepth 100000 in
theorem tX7_turn (l0 : Launch) (G : fG) (F : Nat) (ω : fOm) (hI : Inv ω) (j : Int32) (m : Int32) : CT l0 G F yX7_turn cX7_turn 3 (some .int) 5 [.ref (F + 0), .int j, .int m] ω (some (.int (f_turnJR (f_hold ω 1) 1 j m))) (f_keepD (f_turnJW (f_hold ω 1) 1 j m) (f_turnJR (f_hold ω 1) 1 j m)) := by
  refine ct_met (own := RX7) (by decide +kernel) rfl (Nat.le_of_ble_eq_true rfl) (fun X hXl hX h => ?_)
  subst hXl
  refine g_aload_n h 0 dX7_turn_0 rfl ?_
  refine q_7_history h rfl tw_233 dX7_turn_1 ?_
  refine g_aload_n h 0 dX7_turn_4 rfl ?_
  refine q_7_now h rfl tw_231 dX7_turn_5 ?_
  refine k_VN_v (st := []) h hX (tX1_holdBack (xl X) G F ω hI 1 rfl) rfl ⟨kd_lt rfl, ob_13 rfl⟩ rfl miX1_holdBack tw_257 (by decide) (by decide) rfl (Nat.le_of_ble_eq_true rfl) (by rw [hX]; exact Nat.zero_le _) (by rw [hX]; exact Nat.zero_le _) dX7_turn_8 (fun w1 hw1 iw1 => ?_)
  refine g_aload_n h 0 dX7_turn_11 rfl ?_
  refine q_7_history h rfl tw_233 dX7_turn_12 ?_
  refine g_aload_n h 0 dX7_turn_15 rfl ?_
  refine q_7_now h rfl tw_231 dX7_turn_16 ?_
  refine g_iload_n h 1 dX7_turn_19 rfl ?_
  refine g_iload_n h 2 dX7_turn_20 rfl ?_
  refine k_VN_j (st := [.ref (F + 117)]) h hX (tX6_turnJoin (xl X) G F w1 iw1 1 rfl j m) rfl ⟨kd_lt rfl, ob_1 rfl⟩ rfl miX6_turnJoin tw_357 (by decide) (by decide) rfl (Nat.le_of_ble_eq_true rfl) (by rw [hX]; exact Nat.zero_le _) (by rw [hX]; exact Nat.zero_le _) dX7_turn_21 (fun v2 w3 hv2 hw3 iw3 => ?_)
  refine k_VN_j (st := []) h hX (tX1_keepIfDone (xl X) G F w3 iw3 v2) rfl ⟨kd_lt rfl, ob_13 rfl⟩ rfl miX1_keepIfDone tw_290 (by decide) (by decide) rfl (Nat.le_of_ble_eq_true rfl) (by rw [hX]; exact Nat.zero_le _) (by rw [hX]; exact Nat.zero_le _) dX7_turn_24 (fun v4 w5 hv4 hw5 iw5 => ?_)
  exact e_iret h iw5 dX7_turn_27 (by clear iw1 iw3 iw5; replace hw1 := hw1.symm; replace hv2 := hv2.symm; replace hw3 := hw3.symm; replace hv4 := hv4.symm; replace hw5 := hw5.symm; subst hw5 hv4 hw3 hv2 hw1; rfl) (by clear iw1 iw3 iw5; replace hw1 := hw1.symm; replace hv2 := hv2.symm; replace hw3 := hw3.symm; replace hv4 := hv4.symm; replace hw5 := hw5.symm; subst hw5 hv4 hw3 hv2 hw1; rfl)
set_option maxHeartbeats 4000000 in
set_option maxRecDepth 100000 in
theorem tX7_feed (l0 : Launch) (G : fG) (F : Nat) (ω : fOm) (hI : Inv ω) (d : Int32) (v : Int32) : CT l0 G F yX7_feed cX7_feed 3 (some .int) 5 [.ref (F + 0), .int d, .int v] ω (some (.int (f_feedR (f_hold ω 1) 1 d v))) (f_keepD (f_feedW (f_hold ω 1) 1 d v) (f_feedR (f_hold ω 1) 1 d v)) := by
  refine ct_met (own := RX7) (by decide +kernel) rfl (Nat.le_of_ble_eq_true rfl) (fun X hXl hX h => ?_)
  subst hXl
  refine g_aload_n h 0 dX7_feed_0 rfl ?_
  refine q_7_history h rfl tw_233 dX7_feed_1 ?_
  refine g_aload_n h 0 dX7_feed_4 rfl ?_
  refine q_7_now h rfl tw_231 dX7_feed_5 ?_
  refine k_VN_v (st := []) h hX (tX1_holdBack (xl X) G F ω hI 1 rfl) rfl ⟨kd_lt rfl, ob_13 rfl⟩ rfl miX1_holdBack tw_257 (by decide) (by decide) rfl (Nat.le_of_ble_eq_true rfl) (by rw [hX]; exact Nat.zero_le _) (by rw [hX]; exact Nat.zero_le _) dX7_feed_8 (fun w1 hw1 iw1 => ?_)
  refine g_aload_n h 0 dX7_feed_11 rfl ?_
  refine q_7_history h rfl tw_233 dX7_feed_12 ?_
  refine g_aload_n h 0 dX7_feed_15 rfl ?_
  refine q_7_now h rfl tw_231 dX7_feed_16 ?_
  refine g_iload_n h 1 dX7_feed_19 rfl ?_
  refine g_iload_n h 2 dX7_feed_20 rfl ?_
  refine k_VN_j (st := [.ref (F + 117)]) h hX (tX6_feedDevice (xl X) G F w1 iw1 1 rfl d v) rfl ⟨kd_lt rfl, ob_1 rfl⟩ rfl miX6_feedDevice tw_369 (by decide) (by decide) rfl (Nat.le_of_ble_eq_true rfl) (by rw [hX]; exact Nat.zero_le _) (by rw [hX]; exact Nat.zero_le _) dX7_feed_21 (fun v2 w3 hv2 hw3 iw3 => ?_)
  refine k_VN_j (st := []) h hX (tX1_keepIfDone (xl X) G F w3 iw3 v2) rfl ⟨kd_lt rfl, ob_13 rfl⟩ rfl miX1_keepIfDone tw_290 (by decide) (by decide) rfl (Nat.le_of_ble_eq_true rfl) (by rw [hX]; exact Nat.zero_le _) (by rw [hX]; exact Nat.zero_le _) dX7_feed_24 (fun v4 w5 hv4 hw5 iw5 => ?_)
  exact e_iret h iw5 dX7_feed_27 (by clear iw1 iw3 iw5; replace hw1 := hw1.symm; replace hv2 := hv2.symm; replace hw3 := hw3.symm; replace hv4 := hv4.symm; replace hw5 := hw5.symm; subst hw5 hv4 hw3 hv2 hw1; rfl) (by clear iw1 iw3 iw5; replace hw1 := hw1.symm; replace hv2 := hv2.symm; replace hw3 := hw3.symm; replace hv4 := hv4.symm; replace hw5 := hw5.symm; subst hw5 hv4 hw3 hv2 hw1; rfl)
set_option maxHeartbeats 4000000 in
set_option maxRecDepth 100000 in
theorem tX7_light (l0 : Launch) (G : fG) (F : Nat) (ω : fOm) (hI : Inv ω) (l : Int32) (p : Int32) (v : Int32) : CT l0 G F yX7_light cX7_light 4 (some .int) 5 [.ref (F + 0), .int l, .int p, .int v] ω (some (.int (f_lightR (f_hold ω 1) 1 l p v))) (f_keepD (f_lightW (f_hold ω 1) 1 l p v) (f_lightR (f_hold ω 1) 1 l p v)) := by
  refine ct_met (own := RX7) (by decide +kernel) rfl (Nat.le_of_ble_eq_true rfl) (fun X hXl hX h => ?_)
  subst hXl
  refine g_aload_n h 0 dX7_light_0 rfl ?_
  refine q_7_history h rfl tw_233 dX7_light_1 ?_
  refine g_aload_n h 0 dX7_light_4 rfl ?_
  refine q_7_now h rfl tw_231 dX7_light_5 ?_
  refine k_VN_v (st := []) h hX (tX1_holdBack (xl X) G F ω hI 1 rfl) rfl ⟨kd_lt rfl, ob_13 rfl⟩ rfl miX1_holdBack tw_257 (by decide) (by decide) rfl (Nat.le_of_ble_eq_true rfl) (by rw [hX]; exact Nat.zero_le _) (by rw [hX]; exact Nat.zero_le _) dX7_light_8 (fun w1 hw1 iw1 => ?_)
  refine g_aload_n h 0 dX7_light_11 rfl ?_
  refine q_7_history h rfl tw_233 dX7_light_12 ?_
  refine g_aload_n h 0 dX7_light_15 rfl ?_
  refine q_7_now h rfl tw_231 dX7_light_16 ?_
  refine g_iload_n h 1 dX7_light_19 rfl ?_
  refine g_iload_n h 2 dX7_light_20 rfl ?_
  refine g_iload_n h 3 dX7_light_21 rfl ?_
  refine k_VN_j (st := [.ref (F + 117)]) h hX (tX6_lightFlash (xl X) G F w1 iw1 1 rfl l p v) rfl ⟨kd_lt rfl, ob_1 rfl⟩ rfl miX6_lightFlash tw_386 (by decide) (by decide) rfl (Nat.le_of_ble_eq_true rfl) (by rw [hX]; exact Nat.zero_le _) (by rw [hX]; exact Nat.zero_le _) dX7_light_22 (fun v2 w3 hv2 hw3 iw3 => ?_)
  refine k_VN_j (st := []) h hX (tX1_keepIfDone (xl X) G F w3 iw3 v2) rfl ⟨kd_lt rfl, ob_13 rfl⟩ rfl miX1_keepIfDone tw_290 (by decide) (by decide) rfl (Nat.le_of_ble_eq_true rfl) (by rw [hX]; exact Nat.zero_le _) (by rw [hX]; exact Nat.zero_le _) dX7_light_25 (fun v4 w5 hv4 hw5 iw5 => ?_)
  exact e_iret h iw5 dX7_light_28 (by clear iw1 iw3 iw5; replace hw1 := hw1.symm; replace hv2 := hv2.symm; replace hw3 := hw3.symm; replace hv4 := hv4.symm; replace hw5 := hw5.symm; subst hw5 hv4 hw3 hv2 hw1; rfl) (by clear iw1 iw3 iw5; replace hw1 := hw1.symm; replace hv2 := hv2.symm; replace hw3 := hw3.symm; replace hv4 := hv4.symm; replace hw5 := hw5.symm; subst hw5 hv4 hw3 hv2 hw1; rfl)
set_option maxHeartbeats 4000000 in
set_option maxRecDepth 100000 in
theorem tX7_ticks (l0 : Launch) (G : fG) (F : Nat) (ω : fOm) (hI : Inv ω) (t : Int32) : CT l0 G F yX7_ticks cX7_ticks 2 (some .int) 6 [.ref (F + 0), .int t] ω (some (.int (f_passTR (f_hold ω 1) 1 t))) (f_keepD (f_passTW (f_hold ω 1) 1 t) (f_passTR (f_hold ω 1) 1 t)) := by
  refine ct_met (own := RX7) (by decide +kernel) rfl (Nat.le_of_ble_eq_true rfl) (fun X hXl hX h => ?_)
  subst hXl
  refine g_aload_n h 0 dX7_ticks_0 rfl ?_
  refine q_7_history h rfl tw_233 dX7_ticks_1 ?_
  refine g_aload_n h 0 dX7_ticks_4 rfl ?_
  refine q_7_now h rfl tw_231 dX7_ticks_5 ?_
  refine k_VN_v (st := []) h hX (tX1_holdBack (xl X) G F ω hI 1 rfl) rfl ⟨kd_lt rfl, ob_13 rfl⟩ rfl miX1_holdBack tw_257 (by decide) (by decide) rfl (Nat.le_of_ble_eq_true rfl) (by rw [hX]; exact Nat.zero_le _) (by rw [hX]; exact Nat.zero_le _) dX7_ticks_8 (fun w1 hw1 iw1 => ?_)
  refine g_aload_n h 0 dX7_ticks_11 rfl ?_
  refine q_7_history h rfl tw_233 dX7_ticks_12 ?_
  refine g_aload_n h 0 dX7_ticks_15 rfl ?_
  refine q_7_now h rfl tw_231 dX7_ticks_16 ?_
  refine g_iload_n h 1 dX7_ticks_19 rfl ?_
  refine k_VN_j (st := [.ref (F + 117)]) h hX (tX6_passTicks (xl X) G F w1 iw1 1 rfl t) rfl ⟨kd_lt rfl, ob_1 rfl⟩ rfl miX6_passTicks tw_411 (by decide) (by decide) rfl (Nat.le_of_ble_eq_true rfl) (by rw [hX]; exact Nat.zero_le _) (by rw [hX]; exact Nat.zero_le _) dX7_ticks_20 (fun v2 w3 hv2 hw3 iw3 => ?_)
  refine k_VN_j (st := []) h hX (tX1_keepIfDone (xl X) G F w3 iw3 v2) rfl ⟨kd_lt rfl, ob_13 rfl⟩ rfl miX1_keepIfDone tw_290 (by decide) (by decide) rfl (Nat.le_of_ble_eq_true rfl) (by rw [hX]; exact Nat.zero_le _) (by rw [hX]; exact Nat.zero_le _) dX7_ticks_23 (fun v4 w5 hv4 hw5 iw5 => ?_)
  exact e_iret h iw5 dX7_ticks_26 (by clear iw1 iw3 iw5; replace hw1 := hw1.symm; replace hv2 := hv2.symm; replace hw3 := hw3.symm; replace hv4 := hv4.symm; replace hw5 := hw5.symm; subst hw5 hv4 hw3 hv2 hw1; rfl) (by clear iw1 iw3 iw5; replace hw1 := hw1.symm; replace hv2 := hv2.symm; replace hw3 := hw3.symm; replace hv4 := hv4.symm; replace hw5 := hw5.symm; subst hw5 hv4 hw3 hv2 hw1; rfl)
set_option maxHeartbeats 4000000 in
set_option maxRecDepth 100000 in
theorem tX7_at (l0 : Launch) (G : fG) (F : Nat) (ω : fOm) (hI : Inv ω) (l : Int32) (p : Int32) (wh : Int32) : CT l0 G F yX7_at cX7_at 5 (some .int) 2 [.ref (F + 0), .int l, .int p, .int wh] ω (some (.int (f_at ω l p wh))) ω := by
  refine ct_met (own := RX7) (by decide +kernel) rfl (Nat.le_of_ble_eq_true rfl) (fun X hXl hX h => ?_)
  subst hXl
  refine g_aload_n h 0 dX7_at_0 rfl ?_
  refine q_7_now h rfl tw_231 dX7_at_1 ?_
  refine g_iload_n h 1 dX7_at_4 rfl ?_
  refine g_iload_n h 2 dX7_at_5 rfl ?_
  refine k_VN_r (st := []) h hX (tX6_ringWith (xl X) G F ω hI 1 rfl l p) rfl ⟨kd_lt rfl, ob_1 rfl⟩ rfl miX6_ringWith tw_502 (by decide) (by decide) rfl (Nat.le_of_ble_eq_true rfl) (by rw [hX]; exact Nat.zero_le _) (by rw [hX]; exact Nat.zero_le _) dX7_at_6 (fun e2 => ?_) (fun k1 e2 => ?_)
  · refine g_astoreN (loc2 := [(4, .null), (0, .ref (F + 0)), (1, .int l), (2, .int p), (3, .int wh)]) h dX7_at_9 (by decide) rfl ?_
    refine g_aloadN h 0 dX7_at_11 rfl ?_
    refine g_ifnonnullN h dX7_at_13 ?_
    refine g_iconst (v := (-1)) h dX7_at_16 (by decide) ?_
    exact e_iret h hI dX7_at_17 (by skip; unfold f_at; simp [e2]) rfl
  · have hk1 : kd k1 = 6 := ringWith_kd hI rfl e2
    refine g_astore (loc2 := [(4, .ref (F + k1)), (0, .ref (F + 0)), (1, .int l), (2, .int p), (3, .int wh)]) h dX7_at_9 (by decide) rfl ?_
    refine g_aload h 0 dX7_at_11 rfl ?_
    refine g_ifnonnull (tgt := 18) h dX7_at_13 (by decide) ?_
    refine g_iload_n h 4 dX7_at_18 rfl ?_
    rcases sw_4 wh with c3 | c3 | c3 | c3 | c3
    · refine g_tableIn (off := 29) (tgt := 48) h dX7_at_19 (by rw [c3]; decide) (by rw [c3]; decide) (by rw [c3]; rfl) (by decide) ?_
      refine g_aload h 0 dX7_at_48 rfl ?_
      refine g_iload_n h 3 dX7_at_50 rfl ?_
      refine k_VN_i (st := []) h hX (tX5_valueAt (xl X) G F ω hI k1 hk1 p) rfl ⟨kd_lt hk1, ob_6 hk1⟩ rfl miX5_valueAt tw_503 (by decide) (by decide) rfl (Nat.le_of_ble_eq_true rfl) (by rw [hX]; exact Nat.zero_le _) (by rw [hX]; exact Nat.zero_le _) dX7_at_51 (fun v4 hv4 => ?_)
      exact e_iret h hI dX7_at_54 (by replace hv4 := hv4.symm; subst hv4; unfold f_at; simp [e2, c3]) rfl
    · refine g_tableIn (off := 36) (tgt := 55) h dX7_at_19 (by rw [c3]; decide) (by rw [c3]; decide) (by rw [c3]; rfl) (by decide) ?_
      refine g_aload h 0 dX7_at_55 rfl ?_
      refine g_iload_n h 3 dX7_at_57 rfl ?_
      refine k_VN_i (st := []) h hX (tX5_strengthAt (xl X) G F ω hI k1 hk1 p) rfl ⟨kd_lt hk1, ob_6 hk1⟩ rfl miX5_strengthAt tw_504 (by decide) (by decide) rfl (Nat.le_of_ble_eq_true rfl) (by rw [hX]; exact Nat.zero_le _) (by rw [hX]; exact Nat.zero_le _) dX7_at_58 (fun v5 hv5 => ?_)
      exact e_iret h hI dX7_at_61 (by replace hv5 := hv5.symm; subst hv5; unfold f_at; simp [e2, c3]) rfl
    · refine g_tableIn (off := 43) (tgt := 62) h dX7_at_19 (by rw [c3]; decide) (by rw [c3]; decide) (by rw [c3]; rfl) (by decide) ?_
      refine g_aload h 0 dX7_at_62 rfl ?_
      refine g_iload_n h 3 dX7_at_64 rfl ?_
      refine k_VN_i (st := []) h hX (tX5_strengthAt (xl X) G F ω hI k1 hk1 p) rfl ⟨kd_lt hk1, ob_6 hk1⟩ rfl miX5_strengthAt tw_504 (by decide) (by decide) rfl (Nat.le_of_ble_eq_true rfl) (by rw [hX]; exact Nat.zero_le _) (by rw [hX]; exact Nat.zero_le _) dX7_at_65 (fun v6 hv6 => ?_)
      refine g_if_le (tgt := 88) h dX7_at_68 (by decide) (fun c7 => ?_) (fun c7 => ?_)
      · refine g_bipush (v := (-6)) h dX7_at_88 (by decide) ?_
        exact e_iret h hI dX7_at_90 (by replace hv6 := hv6.symm; subst hv6; unfold f_at; simp [e2, c3, c7]) rfl
      · refine g_aload_n h 1 dX7_at_71 rfl ?_
        refine q_7_now h rfl tw_231 dX7_at_72 ?_
        refine qN_6_tick h rfl tw_149 dX7_at_75 (fun v8 hv8 => ?_)
        refine g_aload h 0 dX7_at_78 rfl ?_
        refine g_iload_n h 3 dX7_at_80 rfl ?_
        refine k_VN_i (st := [.int v8]) h hX (tX5_birthAt (xl X) G F ω hI k1 hk1 p) rfl ⟨kd_lt hk1, ob_6 hk1⟩ rfl miX5_birthAt tw_505 (by decide) (by decide) rfl (Nat.le_of_ble_eq_true rfl) (by rw [hX]; exact Nat.zero_le _) (by rw [hX]; exact Nat.zero_le _) dX7_at_81 (fun v9 hv9 => ?_)
        refine g_isub h dX7_at_84 (g_name fun v10 hv10 => ?_)
        refine g_goto (tgt := 90) h dX7_at_85 (by decide) ?_
        exact e_iret h hI dX7_at_90 (by replace hv6 := hv6.symm; replace hv8 := hv8.symm; replace hv9 := hv9.symm; replace hv10 := hv10.symm; subst hv10 hv9 hv8 hv6; unfold f_at; simp [e2, c3, c7]) rfl
    · refine g_tableIn (off := 72) (tgt := 91) h dX7_at_19 (by rw [c3]; decide) (by rw [c3]; decide) (by rw [c3]; rfl) (by decide) ?_
      refine g_aload h 0 dX7_at_91 rfl ?_
      refine qN_5_places h hk1 tw_49 dX7_at_93 (fun v11 hv11 => ?_)
      refine g_iload_n h 3 dX7_at_96 rfl ?_
      refine g_isub h dX7_at_97 (g_name fun v12 hv12 => ?_)
      exact e_iret h hI dX7_at_98 (by replace hv11 := hv11.symm; replace hv12 := hv12.symm; subst hv12 hv11; unfold f_at; simp [e2, c3]) rfl
    · refine g_tableOut (tgt := 99) h dX7_at_19 c3 (by decide) ?_
      obtain ⟨c13, c14, c15, c16⟩ := swo_4 c3
      refine g_bipush (v := (-2)) h dX7_at_99 (by decide) ?_
      exact e_iret h hI dX7_at_101 (by skip; unfold f_at; simp [e2, c13, c14, c15, c16]) rfl
set_option maxHeartbeats 4000000 in
set_option maxRecDepth 100000 in
theorem tX7_ofLoop (l0 : Launch) (G : fG) (F : Nat) (ω : fOm) (hI : Inv ω) (l : Int32) (wh : Int32) : CT l0 G F yX7_ofLoop cX7_ofLoop 4 (some .int) 2 [.ref (F + 0), .int l, .int wh] ω (some (.int (f_ofLoop ω l wh))) ω := by
  refine ct_met (own := RX7) (by decide +kernel) rfl (Nat.le_of_ble_eq_true rfl) (fun X hXl hX h => ?_)
  subst hXl
  refine g_aload_n h 0 dX7_ofLoop_0 rfl ?_
  refine q_7_now h rfl tw_231 dX7_ofLoop_1 ?_
  refine g_iload_n h 1 dX7_ofLoop_4 rfl ?_
  refine k_VN_r (st := []) h hX (tX6_ringOf (xl X) G F ω hI 1 rfl l) rfl ⟨kd_lt rfl, ob_1 rfl⟩ rfl miX6_ringOf tw_513 (by decide) (by decide) rfl (Nat.le_of_ble_eq_true rfl) (by rw [hX]; exact Nat.zero_le _) (by rw [hX]; exact Nat.zero_le _) dX7_ofLoop_5 (fun e2 => ?_) (fun k1 e2 => ?_)
  · refine g_astore_nN (loc2 := [(3, .null), (0, .ref (F + 0)), (1, .int l), (2, .int wh)]) h dX7_ofLoop_8 (by decide) rfl ?_
    refine g_aload_nN h 0 dX7_ofLoop_9 rfl ?_
    refine g_ifnonnullN h dX7_ofLoop_10 ?_
    refine g_iconst (v := (-1)) h dX7_ofLoop_13 (by decide) ?_
    exact e_iret h hI dX7_ofLoop_14 (by skip; unfold f_ofLoop; simp [e2]) rfl
  · have hk1 : kd k1 = 6 := ringOf_kd hI rfl e2
    refine g_astore_n (loc2 := [(3, .ref (F + k1)), (0, .ref (F + 0)), (1, .int l), (2, .int wh)]) h dX7_ofLoop_8 (by decide) rfl ?_
    refine g_aload_n h 0 dX7_ofLoop_9 rfl ?_
    refine g_ifnonnull (tgt := 15) h dX7_ofLoop_10 (by decide) ?_
    refine g_iload_n h 3 dX7_ofLoop_15 rfl ?_
    rcases sw_9 wh with c3 | c3 | c3 | c3 | c3 | c3 | c3 | c3 | c3 | c3
    · refine g_tableIn (off := 52) (tgt := 68) h dX7_ofLoop_16 (by rw [c3]; decide) (by rw [c3]; decide) (by rw [c3]; rfl) (by decide) ?_
      refine g_aload_n h 0 dX7_ofLoop_68 rfl ?_
      refine qN_5_places h hk1 tw_49 dX7_ofLoop_69 (fun v4 hv4 => ?_)
      exact e_iret h hI dX7_ofLoop_72 (by replace hv4 := hv4.symm; subst hv4; unfold f_ofLoop; simp [e2, c3]) rfl
    · refine g_tableIn (off := 57) (tgt := 73) h dX7_ofLoop_16 (by rw [c3]; decide) (by rw [c3]; decide) (by rw [c3]; rfl) (by decide) ?_
      refine g_aload_n h 0 dX7_ofLoop_73 rfl ?_
      refine k_VN_i (st := []) h hX (tX5_flashes (xl X) G F ω hI k1 hk1) rfl ⟨kd_lt hk1, ob_6 hk1⟩ rfl miX5_flashes tw_514 (by decide) (by decide) rfl (Nat.le_of_ble_eq_true rfl) (by rw [hX]; exact Nat.zero_le _) (by rw [hX]; exact Nat.zero_le _) dX7_ofLoop_74 (fun v5 hv5 => ?_)
      exact e_iret h hI dX7_ofLoop_77 (by replace hv5 := hv5.symm; subst hv5; unfold f_ofLoop; simp [e2, c3]) rfl
    · refine g_tableIn (off := 62) (tgt := 78) h dX7_ofLoop_16 (by rw [c3]; decide) (by rw [c3]; decide) (by rw [c3]; rfl) (by decide) ?_
      refine g_aload_n h 0 dX7_ofLoop_78 rfl ?_
      refine k_VN_i (st := []) h hX (tX5_strengthInAll (xl X) G F ω hI k1 hk1) rfl ⟨kd_lt hk1, ob_6 hk1⟩ rfl miX5_strengthInAll tw_515 (by decide) (by decide) rfl (Nat.le_of_ble_eq_true rfl) (by rw [hX]; exact Nat.zero_le _) (by rw [hX]; exact Nat.zero_le _) dX7_ofLoop_79 (fun v6 hv6 => ?_)
      exact e_iret h hI dX7_ofLoop_82 (by replace hv6 := hv6.symm; subst hv6; unfold f_ofLoop; simp [e2, c3]) rfl
    · refine g_tableIn (off := 67) (tgt := 83) h dX7_ofLoop_16 (by rw [c3]; decide) (by rw [c3]; decide) (by rw [c3]; rfl) (by decide) ?_
      refine g_aload_n h 0 dX7_ofLoop_83 rfl ?_
      refine k_VN_i (st := []) h hX (tX5_faintest (xl X) G F ω hI k1 hk1) rfl ⟨kd_lt hk1, ob_6 hk1⟩ rfl miX5_faintest tw_519 (by decide) (by decide) rfl (Nat.le_of_ble_eq_true rfl) (by rw [hX]; exact Nat.zero_le _) (by rw [hX]; exact Nat.zero_le _) dX7_ofLoop_84 (fun v7 hv7 => ?_)
      exact e_iret h hI dX7_ofLoop_87 (by replace hv7 := hv7.symm; subst hv7; unfold f_ofLoop; simp [e2, c3]) rfl
    · refine g_tableIn (off := 72) (tgt := 88) h dX7_ofLoop_16 (by rw [c3]; decide) (by rw [c3]; decide) (by rw [c3]; rfl) (by decide) ?_
      refine g_aload_n h 0 dX7_ofLoop_88 rfl ?_
      refine g_iconst (v := 0) h dX7_ofLoop_89 (by decide) ?_
      refine k_VN_i (st := []) h hX (tX5_tally (xl X) G F ω hI k1 hk1 0) rfl ⟨kd_lt hk1, ob_6 hk1⟩ rfl miX5_tally tw_523 (by decide) (by decide) rfl (Nat.le_of_ble_eq_true rfl) (by rw [hX]; exact Nat.zero_le _) (by rw [hX]; exact Nat.zero_le _) dX7_ofLoop_90 (fun v8 hv8 => ?_)
      exact e_iret h hI dX7_ofLoop_93 (by replace hv8 := hv8.symm; subst hv8; unfold f_ofLoop; simp [e2, c3]) rfl
    · refine g_tableIn (off := 78) (tgt := 94) h dX7_ofLoop_16 (by rw [c3]; decide) (by rw [c3]; decide) (by rw [c3]; rfl) (by decide) ?_
      refine g_aload_n h 0 dX7_ofLoop_94 rfl ?_
      refine g_iconst (v := 1) h dX7_ofLoop_95 (by decide) ?_
      refine k_VN_i (st := []) h hX (tX5_tally (xl X) G F ω hI k1 hk1 1) rfl ⟨kd_lt hk1, ob_6 hk1⟩ rfl miX5_tally tw_523 (by decide) (by decide) rfl (Nat.le_of_ble_eq_true rfl) (by rw [hX]; exact Nat.zero_le _) (by rw [hX]; exact Nat.zero_le _) dX7_ofLoop_96 (fun v9 hv9 => ?_)
      exact e_iret h hI dX7_ofLoop_99 (by replace hv9 := hv9.symm; subst hv9; unfold f_ofLoop; simp [e2, c3]) rfl
    · refine g_tableIn (off := 84) (tgt := 100) h dX7_ofLoop_16 (by rw [c3]; decide) (by rw [c3]; decide) (by rw [c3]; rfl) (by decide) ?_
      refine g_aload_n h 0 dX7_ofLoop_100 rfl ?_
      refine g_iconst (v := 2) h dX7_ofLoop_101 (by decide) ?_
      refine k_VN_i (st := []) h hX (tX5_tally (xl X) G F ω hI k1 hk1 2) rfl ⟨kd_lt hk1, ob_6 hk1⟩ rfl miX5_tally tw_523 (by decide) (by decide) rfl (Nat.le_of_ble_eq_true rfl) (by rw [hX]; exact Nat.zero_le _) (by rw [hX]; exact Nat.zero_le _) dX7_ofLoop_102 (fun v10 hv10 => ?_)
      exact e_iret h hI dX7_ofLoop_105 (by replace hv10 := hv10.symm; subst hv10; unfold f_ofLoop; simp [e2, c3]) rfl
    · refine g_tableIn (off := 90) (tgt := 106) h dX7_ofLoop_16 (by rw [c3]; decide) (by rw [c3]; decide) (by rw [c3]; rfl) (by decide) ?_
      refine g_aload_n h 0 dX7_ofLoop_106 rfl ?_
      refine g_iconst (v := 3) h dX7_ofLoop_107 (by decide) ?_
      refine k_VN_i (st := []) h hX (tX5_tally (xl X) G F ω hI k1 hk1 3) rfl ⟨kd_lt hk1, ob_6 hk1⟩ rfl miX5_tally tw_523 (by decide) (by decide) rfl (Nat.le_of_ble_eq_true rfl) (by rw [hX]; exact Nat.zero_le _) (by rw [hX]; exact Nat.zero_le _) dX7_ofLoop_108 (fun v11 hv11 => ?_)
      exact e_iret h hI dX7_ofLoop_111 (by replace hv11 := hv11.symm; subst hv11; unfold f_ofLoop; simp [e2, c3]) rfl
    · refine g_tableIn (off := 96) (tgt := 112) h dX7_ofLoop_16 (by rw [c3]; decide) (by rw [c3]; decide) (by rw [c3]; rfl) (by decide) ?_
      refine g_aload_n h 0 dX7_ofLoop_112 rfl ?_
      refine g_iconst (v := 4) h dX7_ofLoop_113 (by decide) ?_
      refine k_VN_i (st := []) h hX (tX5_tally (xl X) G F ω hI k1 hk1 4) rfl ⟨kd_lt hk1, ob_6 hk1⟩ rfl miX5_tally tw_523 (by decide) (by decide) rfl (Nat.le_of_ble_eq_true rfl) (by rw [hX]; exact Nat.zero_le _) (by rw [hX]; exact Nat.zero_le _) dX7_ofLoop_114 (fun v12 hv12 => ?_)
      exact e_iret h hI dX7_ofLoop_117 (by replace hv12 := hv12.symm; subst hv12; unfold f_ofLoop; simp [e2, c3]) rfl
    · refine g_tableOut (tgt := 118) h dX7_ofLoop_16 c3 (by decide) ?_
      obtain ⟨c13, c14, c15, c16, c17, c18, c19, c20, c21⟩ := swo_9 c3
      refine g_bipush (v := (-2)) h dX7_ofLoop_118 (by decide) ?_
      exact e_iret h hI dX7_ofLoop_120 (by skip; unfold f_ofLoop; simp [e2, c13, c14, c15, c16, c17, c18, c19, c20, c21]) rfl
set_option maxHeartbeats 4000000 in
set_option maxRecDepth 100000 in
theorem tX7_ofDevice (l0 : Launch) (G : fG) (F : Nat) (ω : fOm) (hI : Inv ω) (d : Int32) (wh : Int32) : CT l0 G F yX7_ofDevice cX7_ofDevice 4 (some .int) 1 [.ref (F + 0), .int d, .int wh] ω (some (.int (f_ofDev ω d wh))) ω := by
  refine ct_met (own := RX7) (by decide +kernel) rfl (Nat.le_of_ble_eq_true rfl) (fun X hXl hX h => ?_)
  subst hXl
  refine g_aload_n h 0 dX7_ofDevice_0 rfl ?_
  refine q_7_now h rfl tw_231 dX7_ofDevice_1 ?_
  refine g_iload_n h 1 dX7_ofDevice_4 rfl ?_
  refine k_VN_r (st := []) h hX (tX6_deviceOf (xl X) G F ω hI 1 rfl d) rfl ⟨kd_lt rfl, ob_1 rfl⟩ rfl miX6_deviceOf tw_532 (by decide) (by decide) rfl (Nat.le_of_ble_eq_true rfl) (by rw [hX]; exact Nat.zero_le _) (by rw [hX]; exact Nat.zero_le _) dX7_ofDevice_5 (fun e2 => ?_) (fun k1 e2 => ?_)
  · refine g_astore_nN (loc2 := [(3, .null), (0, .ref (F + 0)), (1, .int d), (2, .int wh)]) h dX7_ofDevice_8 (by decide) rfl ?_
    refine g_aload_nN h 0 dX7_ofDevice_9 rfl ?_
    refine g_ifnonnullN h dX7_ofDevice_10 ?_
    refine g_iconst (v := (-1)) h dX7_ofDevice_13 (by decide) ?_
    exact e_iret h hI dX7_ofDevice_14 (by skip; unfold f_ofDev; simp [e2]) rfl
  · have hk1 : kd k1 = 9 := devOf_kd hI rfl e2
    refine g_astore_n (loc2 := [(3, .ref (F + k1)), (0, .ref (F + 0)), (1, .int d), (2, .int wh)]) h dX7_ofDevice_8 (by decide) rfl ?_
    refine g_aload_n h 0 dX7_ofDevice_9 rfl ?_
    refine g_ifnonnull (tgt := 15) h dX7_ofDevice_10 (by decide) ?_
    refine g_iload_n h 3 dX7_ofDevice_15 rfl ?_
    rcases sw_7 wh with c3 | c3 | c3 | c3 | c3 | c3 | c3 | c3
    · refine g_tableIn (off := 44) (tgt := 60) h dX7_ofDevice_16 (by rw [c3]; decide) (by rw [c3]; decide) (by rw [c3]; rfl) (by decide) ?_
      refine g_aload_n h 0 dX7_ofDevice_60 rfl ?_
      refine qN_0_kind h hk1 tw_72 dX7_ofDevice_61 (fun v4 hv4 => ?_)
      exact e_iret h hI dX7_ofDevice_64 (by replace hv4 := hv4.symm; subst hv4; unfold f_ofDev; simp [e2, c3]) rfl
    · refine g_tableIn (off := 49) (tgt := 65) h dX7_ofDevice_16 (by rw [c3]; decide) (by rw [c3]; decide) (by rw [c3]; rfl) (by decide) ?_
      refine g_aload_n h 0 dX7_ofDevice_65 rfl ?_
      refine qN_0_ring h hk1 tw_75 dX7_ofDevice_66 (fun v5 hv5 => ?_)
      exact e_iret h hI dX7_ofDevice_69 (by replace hv5 := hv5.symm; subst hv5; unfold f_ofDev; simp [e2, c3]) rfl
    · refine g_tableIn (off := 54) (tgt := 70) h dX7_ofDevice_16 (by rw [c3]; decide) (by rw [c3]; decide) (by rw [c3]; rfl) (by decide) ?_
      refine g_aload_n h 0 dX7_ofDevice_70 rfl ?_
      refine qN_0_place h hk1 tw_78 dX7_ofDevice_71 (fun v6 hv6 => ?_)
      exact e_iret h hI dX7_ofDevice_74 (by replace hv6 := hv6.symm; subst hv6; unfold f_ofDev; simp [e2, c3]) rfl
    · refine g_tableIn (off := 59) (tgt := 75) h dX7_ofDevice_16 (by rw [c3]; decide) (by rw [c3]; decide) (by rw [c3]; rfl) (by decide) ?_
      refine g_aload_n h 0 dX7_ofDevice_75 rfl ?_
      refine qN_0_one h hk1 tw_80 dX7_ofDevice_76 (fun v7 hv7 => ?_)
      exact e_iret h hI dX7_ofDevice_79 (by replace hv7 := hv7.symm; subst hv7; unfold f_ofDev; simp [e2, c3]) rfl
    · refine g_tableIn (off := 64) (tgt := 80) h dX7_ofDevice_16 (by rw [c3]; decide) (by rw [c3]; decide) (by rw [c3]; rfl) (by decide) ?_
      refine g_aload_n h 0 dX7_ofDevice_80 rfl ?_
      refine qN_0_two h hk1 tw_82 dX7_ofDevice_81 (fun v8 hv8 => ?_)
      exact e_iret h hI dX7_ofDevice_84 (by replace hv8 := hv8.symm; subst hv8; unfold f_ofDev; simp [e2, c3]) rfl
    · refine g_tableIn (off := 69) (tgt := 85) h dX7_ofDevice_16 (by rw [c3]; decide) (by rw [c3]; decide) (by rw [c3]; rfl) (by decide) ?_
      refine g_aload_n h 0 dX7_ofDevice_85 rfl ?_
      refine qN_0_kind h hk1 tw_72 dX7_ofDevice_86 (fun v9 hv9 => ?_)
      refine g_if_ne (tgt := 99) h dX7_ofDevice_89 (by decide) (fun c10 => ?_) (fun c10 => ?_)
      · refine g_aload_n h 0 dX7_ofDevice_99 rfl ?_
        refine qN_0_kept h hk1 tw_89 dX7_ofDevice_100 (fun v11 hv11 => ?_)
        exact e_iret h hI dX7_ofDevice_103 (by replace hv9 := hv9.symm; replace hv11 := hv11.symm; subst hv11 hv9; unfold f_ofDev; simp [e2, c3, c10]) rfl
      · refine g_aload_n h 0 dX7_ofDevice_92 rfl ?_
        refine qN_0_store h hk1 tw_84 dX7_ofDevice_93 (fun v12 hv12 => ?_)
        refine g_goto (tgt := 103) h dX7_ofDevice_96 (by decide) ?_
        exact e_iret h hI dX7_ofDevice_103 (by replace hv9 := hv9.symm; replace hv12 := hv12.symm; subst hv12 hv9; unfold f_ofDev; simp [e2, c3, c10]) rfl
    · refine g_tableIn (off := 88) (tgt := 104) h dX7_ofDevice_16 (by rw [c3]; decide) (by rw [c3]; decide) (by rw [c3]; rfl) (by decide) ?_
      refine g_aload_n h 0 dX7_ofDevice_104 rfl ?_
      refine qN_0_acts h hk1 tw_86 dX7_ofDevice_105 (fun v13 hv13 => ?_)
      exact e_iret h hI dX7_ofDevice_108 (by replace hv13 := hv13.symm; subst hv13; unfold f_ofDev; simp [e2, c3]) rfl
    · refine g_tableOut (tgt := 109) h dX7_ofDevice_16 c3 (by decide) ?_
      obtain ⟨c14, c15, c16, c17, c18, c19, c20⟩ := swo_7 c3
      refine g_bipush (v := (-2)) h dX7_ofDevice_109 (by decide) ?_
      exact e_iret h hI dX7_ofDevice_111 (by skip; unfold f_ofDev; simp [e2, c14, c15, c16, c17, c18, c19, c20]) rfl
set_option maxHeartbeats 4000000 in
set_option maxRecDepth 100000 in
theorem tX7_noted (l0 : Launch) (G : fG) (F : Nat) (ω : fOm) (hI : Inv ω) (d : Int32) (b : Int32) : CT l0 G F yX7_noted cX7_noted 4 (some .int) 1 [.ref (F + 0), .int d, .int b] ω (some (.int (f_noted ω d b))) ω := by
  refine ct_met (own := RX7) (by decide +kernel) rfl (Nat.le_of_ble_eq_true rfl) (fun X hXl hX h => ?_)
  subst hXl
  refine g_aload_n h 0 dX7_noted_0 rfl ?_
  refine q_7_now h rfl tw_231 dX7_noted_1 ?_
  refine g_iload_n h 1 dX7_noted_4 rfl ?_
  refine k_VN_r (st := []) h hX (tX6_deviceOf (xl X) G F ω hI 1 rfl d) rfl ⟨kd_lt rfl, ob_1 rfl⟩ rfl miX6_deviceOf tw_532 (by decide) (by decide) rfl (Nat.le_of_ble_eq_true rfl) (by rw [hX]; exact Nat.zero_le _) (by rw [hX]; exact Nat.zero_le _) dX7_noted_5 (fun e2 => ?_) (fun k1 e2 => ?_)
  · refine g_astore_nN (loc2 := [(3, .null), (0, .ref (F + 0)), (1, .int d), (2, .int b)]) h dX7_noted_8 (by decide) rfl ?_
    refine g_aload_nN h 0 dX7_noted_9 rfl ?_
    refine g_ifnullN (tgt := 21) h dX7_noted_10 (by decide) ?_
    refine g_iconst (v := (-1)) h dX7_noted_21 (by decide) ?_
    exact e_iret h hI dX7_noted_22 (by skip; unfold f_noted; simp only [e2, ↓reduceIte]) rfl
  · have hk1 : kd k1 = 9 := devOf_kd hI rfl e2
    refine g_astore_n (loc2 := [(3, .ref (F + k1)), (0, .ref (F + 0)), (1, .int d), (2, .int b)]) h dX7_noted_8 (by decide) rfl ?_
    refine g_aload_n h 0 dX7_noted_9 rfl ?_
    refine g_ifnull h dX7_noted_10 ?_
    refine g_aload_n h 0 dX7_noted_13 rfl ?_
    refine qN_0_kind h hk1 tw_72 dX7_noted_14 (fun v3 hv3 => ?_)
    refine g_iconst (v := 1) h dX7_noted_17 (by decide) ?_
    refine g_icmp_eq (tgt := 23) h dX7_noted_18 (by decide) (fun c4 => ?_) (fun c4 => ?_)
    · refine g_aload_n h 0 dX7_noted_23 rfl ?_
      refine g_iload_n h 3 dX7_noted_24 rfl ?_
      refine k_VN_i (st := []) h hX (tX0_keptAt (xl X) G F ω hI k1 hk1 b) rfl ⟨kd_lt hk1, ob_9 hk1⟩ rfl miX0_keptAt tw_537 (by decide) (by decide) rfl (Nat.le_of_ble_eq_true rfl) (by rw [hX]; exact Nat.zero_le _) (by rw [hX]; exact Nat.zero_le _) dX7_noted_25 (fun v5 hv5 => ?_)
      exact e_iret h hI dX7_noted_28 (by replace hv3 := hv3.symm; replace hv5 := hv5.symm; subst hv5 hv3; unfold f_noted; simp only [e2, c4, ↓reduceIte]) rfl
    · refine g_iconst (v := (-1)) h dX7_noted_21 (by decide) ?_
      exact e_iret h hI dX7_noted_22 (by replace hv3 := hv3.symm; subst hv3; unfold f_noted; simp only [e2, c4, ↓reduceIte]) rfl
set_option maxHeartbeats 4000000 in
set_option maxRecDepth 100000 in
theorem tX7_ofJoin (l0 : Launch) (G : fG) (F : Nat) (ω : fOm) (hI : Inv ω) (j : Int32) (wh : Int32) : CT l0 G F yX7_ofJoin cX7_ofJoin 4 (some .int) 1 [.ref (F + 0), .int j, .int wh] ω (some (.int (f_ofJoin ω j wh))) ω := by
  refine ct_met (own := RX7) (by decide +kernel) rfl (Nat.le_of_ble_eq_true rfl) (fun X hXl hX h => ?_)
  subst hXl
  refine g_aload_n h 0 dX7_ofJoin_0 rfl ?_
  refine q_7_now h rfl tw_231 dX7_ofJoin_1 ?_
  refine g_iload_n h 1 dX7_ofJoin_4 rfl ?_
  refine k_VN_r (st := []) h hX (tX6_joinOf (xl X) G F ω hI 1 rfl j) rfl ⟨kd_lt rfl, ob_1 rfl⟩ rfl miX6_joinOf tw_545 (by decide) (by decide) rfl (Nat.le_of_ble_eq_true rfl) (by rw [hX]; exact Nat.zero_le _) (by rw [hX]; exact Nat.zero_le _) dX7_ofJoin_5 (fun e2 => ?_) (fun k1 e2 => ?_)
  · refine g_astore_nN (loc2 := [(3, .null), (0, .ref (F + 0)), (1, .int j), (2, .int wh)]) h dX7_ofJoin_8 (by decide) rfl ?_
    refine g_aload_nN h 0 dX7_ofJoin_9 rfl ?_
    refine g_ifnonnullN h dX7_ofJoin_10 ?_
    refine g_iconst (v := (-1)) h dX7_ofJoin_13 (by decide) ?_
    exact e_iret h hI dX7_ofJoin_14 (by skip; unfold f_ofJoin; simp [e2]) rfl
  · have hk1 : kd k1 = 11 := joinOf_kd hI rfl e2
    refine g_astore_n (loc2 := [(3, .ref (F + k1)), (0, .ref (F + 0)), (1, .int j), (2, .int wh)]) h dX7_ofJoin_8 (by decide) rfl ?_
    refine g_aload_n h 0 dX7_ofJoin_9 rfl ?_
    refine g_ifnonnull (tgt := 15) h dX7_ofJoin_10 (by decide) ?_
    refine g_iload_n h 3 dX7_ofJoin_15 rfl ?_
    rcases sw_6 wh with c3 | c3 | c3 | c3 | c3 | c3 | c3
    · refine g_tableIn (off := 40) (tgt := 56) h dX7_ofJoin_16 (by rw [c3]; decide) (by rw [c3]; decide) (by rw [c3]; rfl) (by decide) ?_
      refine g_aload_n h 0 dX7_ofJoin_56 rfl ?_
      refine qN_2_nearRing h hk1 tw_116 dX7_ofJoin_57 (fun v4 hv4 => ?_)
      exact e_iret h hI dX7_ofJoin_60 (by replace hv4 := hv4.symm; subst hv4; unfold f_ofJoin; simp [e2, c3]) rfl
    · refine g_tableIn (off := 45) (tgt := 61) h dX7_ofJoin_16 (by rw [c3]; decide) (by rw [c3]; decide) (by rw [c3]; rfl) (by decide) ?_
      refine g_aload_n h 0 dX7_ofJoin_61 rfl ?_
      refine qN_2_nearPlace h hk1 tw_119 dX7_ofJoin_62 (fun v5 hv5 => ?_)
      exact e_iret h hI dX7_ofJoin_65 (by replace hv5 := hv5.symm; subst hv5; unfold f_ofJoin; simp [e2, c3]) rfl
    · refine g_tableIn (off := 50) (tgt := 66) h dX7_ofJoin_16 (by rw [c3]; decide) (by rw [c3]; decide) (by rw [c3]; rfl) (by decide) ?_
      refine g_aload_n h 0 dX7_ofJoin_66 rfl ?_
      refine qN_2_farRing h hk1 tw_121 dX7_ofJoin_67 (fun v6 hv6 => ?_)
      exact e_iret h hI dX7_ofJoin_70 (by replace hv6 := hv6.symm; subst hv6; unfold f_ofJoin; simp [e2, c3]) rfl
    · refine g_tableIn (off := 55) (tgt := 71) h dX7_ofJoin_16 (by rw [c3]; decide) (by rw [c3]; decide) (by rw [c3]; rfl) (by decide) ?_
      refine g_aload_n h 0 dX7_ofJoin_71 rfl ?_
      refine qN_2_farPlace h hk1 tw_124 dX7_ofJoin_72 (fun v7 hv7 => ?_)
      exact e_iret h hI dX7_ofJoin_75 (by replace hv7 := hv7.symm; subst hv7; unfold f_ofJoin; simp [e2, c3]) rfl
    · refine g_tableIn (off := 60) (tgt := 76) h dX7_ofJoin_16 (by rw [c3]; decide) (by rw [c3]; decide) (by rw [c3]; rfl) (by decide) ?_
      refine g_aload_n h 0 dX7_ofJoin_76 rfl ?_
      refine qN_2_mode h hk1 tw_127 dX7_ofJoin_77 (fun v8 hv8 => ?_)
      exact e_iret h hI dX7_ofJoin_80 (by replace hv8 := hv8.symm; subst hv8; unfold f_ofJoin; simp [e2, c3]) rfl
    · refine g_tableIn (off := 65) (tgt := 81) h dX7_ofJoin_16 (by rw [c3]; decide) (by rw [c3]; decide) (by rw [c3]; rfl) (by decide) ?_
      refine g_aload_n h 0 dX7_ofJoin_81 rfl ?_
      refine qN_2_passed h hk1 tw_129 dX7_ofJoin_82 (fun v9 hv9 => ?_)
      exact e_iret h hI dX7_ofJoin_85 (by replace hv9 := hv9.symm; subst hv9; unfold f_ofJoin; simp [e2, c3]) rfl
    · refine g_tableOut (tgt := 86) h dX7_ofJoin_16 c3 (by decide) ?_
      obtain ⟨c10, c11, c12, c13, c14, c15⟩ := swo_6 c3
      refine g_bipush (v := (-2)) h dX7_ofJoin_86 (by decide) ?_
      exact e_iret h hI dX7_ofJoin_88 (by skip; unfold f_ofJoin; simp [e2, c10, c11, c12, c13, c14, c15]) rfl
set_option maxHeartbeats 4000000 in
set_option maxRecDepth 100000 in
theorem tX7_count (l0 : Launch) (G : fG) (F : Nat) (ω : fOm) (hI : Inv ω) (wh : Int32) : CT l0 G F yX7_count cX7_count 2 (some .int) 3 [.ref (F + 0), .int wh] ω (some (.int (f_count ω wh))) ω := by
  refine ct_met (own := RX7) (by decide +kernel) rfl (Nat.le_of_ble_eq_true rfl) (fun X hXl hX h => ?_)
  subst hXl
  refine g_iload_n h 1 dX7_count_0 rfl ?_
  rcases sw_14 wh with c1 | c1 | c1 | c1 | c1 | c1 | c1 | c1 | c1 | c1 | c1 | c1 | c1 | c1 | c1
  · refine g_tableIn (off := 71) (tgt := 72) h dX7_count_1 (by rw [c1]; decide) (by rw [c1]; decide) (by rw [c1]; rfl) (by decide) ?_
    refine g_aload_n h 0 dX7_count_72 rfl ?_
    refine q_7_now h rfl tw_231 dX7_count_73 ?_
    refine qN_6_tick h rfl tw_149 dX7_count_76 (fun v2 hv2 => ?_)
    exact e_iret h hI dX7_count_79 (by replace hv2 := hv2.symm; subst hv2; unfold f_count; simp [c1]) rfl
  · refine g_tableIn (off := 79) (tgt := 80) h dX7_count_1 (by rw [c1]; decide) (by rw [c1]; decide) (by rw [c1]; rfl) (by decide) ?_
    refine g_aload_n h 0 dX7_count_80 rfl ?_
    refine q_7_now h rfl tw_231 dX7_count_81 ?_
    refine qN_6_ringCount h rfl tw_151 dX7_count_84 (fun v3 hv3 => ?_)
    exact e_iret h hI dX7_count_87 (by replace hv3 := hv3.symm; subst hv3; unfold f_count; simp [c1]) rfl
  · refine g_tableIn (off := 87) (tgt := 88) h dX7_count_1 (by rw [c1]; decide) (by rw [c1]; decide) (by rw [c1]; rfl) (by decide) ?_
    refine g_aload_n h 0 dX7_count_88 rfl ?_
    refine q_7_now h rfl tw_231 dX7_count_89 ?_
    refine qN_6_deviceCount h rfl tw_153 dX7_count_92 (fun v4 hv4 => ?_)
    exact e_iret h hI dX7_count_95 (by replace hv4 := hv4.symm; subst hv4; unfold f_count; simp [c1]) rfl
  · refine g_tableIn (off := 95) (tgt := 96) h dX7_count_1 (by rw [c1]; decide) (by rw [c1]; decide) (by rw [c1]; rfl) (by decide) ?_
    refine g_aload_n h 0 dX7_count_96 rfl ?_
    refine q_7_now h rfl tw_231 dX7_count_97 ?_
    refine qN_6_joinCount h rfl tw_155 dX7_count_100 (fun v5 hv5 => ?_)
    exact e_iret h hI dX7_count_103 (by replace hv5 := hv5.symm; subst hv5; unfold f_count; simp [c1]) rfl
  · refine g_tableIn (off := 103) (tgt := 104) h dX7_count_1 (by rw [c1]; decide) (by rw [c1]; decide) (by rw [c1]; rfl) (by decide) ?_
    refine g_aload_n h 0 dX7_count_104 rfl ?_
    refine q_7_now h rfl tw_231 dX7_count_105 ?_
    refine k_VN_i (st := []) h hX (tX6_flashesInAll (xl X) G F ω hI 1 rfl) rfl ⟨kd_lt rfl, ob_1 rfl⟩ rfl miX6_flashesInAll tw_554 (by decide) (by decide) rfl (Nat.le_of_ble_eq_true rfl) (by rw [hX]; exact Nat.zero_le _) (by rw [hX]; exact Nat.zero_le _) dX7_count_108 (fun v6 hv6 => ?_)
    exact e_iret h hI dX7_count_111 (by replace hv6 := hv6.symm; subst hv6; unfold f_count; simp [c1]) rfl
  · refine g_tableIn (off := 111) (tgt := 112) h dX7_count_1 (by rw [c1]; decide) (by rw [c1]; decide) (by rw [c1]; rfl) (by decide) ?_
    refine g_aload_n h 0 dX7_count_112 rfl ?_
    refine q_7_now h rfl tw_231 dX7_count_113 ?_
    refine g_iconst (v := 0) h dX7_count_116 (by decide) ?_
    refine k_VN_i (st := []) h hX (tX6_tallyInAll (xl X) G F ω hI 1 rfl 0) rfl ⟨kd_lt rfl, ob_1 rfl⟩ rfl miX6_tallyInAll tw_558 (by decide) (by decide) rfl (Nat.le_of_ble_eq_true rfl) (by rw [hX]; exact Nat.zero_le _) (by rw [hX]; exact Nat.zero_le _) dX7_count_117 (fun v7 hv7 => ?_)
    exact e_iret h hI dX7_count_120 (by replace hv7 := hv7.symm; subst hv7; unfold f_count; simp [c1]) rfl
  · refine g_tableIn (off := 120) (tgt := 121) h dX7_count_1 (by rw [c1]; decide) (by rw [c1]; decide) (by rw [c1]; rfl) (by decide) ?_
    refine g_aload_n h 0 dX7_count_121 rfl ?_
    refine q_7_now h rfl tw_231 dX7_count_122 ?_
    refine g_iconst (v := 1) h dX7_count_125 (by decide) ?_
    refine k_VN_i (st := []) h hX (tX6_tallyInAll (xl X) G F ω hI 1 rfl 1) rfl ⟨kd_lt rfl, ob_1 rfl⟩ rfl miX6_tallyInAll tw_558 (by decide) (by decide) rfl (Nat.le_of_ble_eq_true rfl) (by rw [hX]; exact Nat.zero_le _) (by rw [hX]; exact Nat.zero_le _) dX7_count_126 (fun v8 hv8 => ?_)
    exact e_iret h hI dX7_count_129 (by replace hv8 := hv8.symm; subst hv8; unfold f_count; simp [c1]) rfl
  · refine g_tableIn (off := 129) (tgt := 130) h dX7_count_1 (by rw [c1]; decide) (by rw [c1]; decide) (by rw [c1]; rfl) (by decide) ?_
    refine g_aload_n h 0 dX7_count_130 rfl ?_
    refine q_7_now h rfl tw_231 dX7_count_131 ?_
    refine g_iconst (v := 2) h dX7_count_134 (by decide) ?_
    refine k_VN_i (st := []) h hX (tX6_tallyInAll (xl X) G F ω hI 1 rfl 2) rfl ⟨kd_lt rfl, ob_1 rfl⟩ rfl miX6_tallyInAll tw_558 (by decide) (by decide) rfl (Nat.le_of_ble_eq_true rfl) (by rw [hX]; exact Nat.zero_le _) (by rw [hX]; exact Nat.zero_le _) dX7_count_135 (fun v9 hv9 => ?_)
    exact e_iret h hI dX7_count_138 (by replace hv9 := hv9.symm; subst hv9; unfold f_count; simp [c1]) rfl
  · refine g_tableIn (off := 138) (tgt := 139) h dX7_count_1 (by rw [c1]; decide) (by rw [c1]; decide) (by rw [c1]; rfl) (by decide) ?_
    refine g_aload_n h 0 dX7_count_139 rfl ?_
    refine q_7_now h rfl tw_231 dX7_count_140 ?_
    refine g_iconst (v := 0) h dX7_count_143 (by decide) ?_
    refine k_VN_i (st := []) h hX (tX6_setting (xl X) G F ω hI 1 rfl 0) rfl ⟨kd_lt rfl, ob_1 rfl⟩ rfl miX6_setting tw_563 (by decide) (by decide) rfl (Nat.le_of_ble_eq_true rfl) (by rw [hX]; exact Nat.zero_le _) (by rw [hX]; exact Nat.zero_le _) dX7_count_144 (fun v10 hv10 => ?_)
    exact e_iret h hI dX7_count_147 (by replace hv10 := hv10.symm; subst hv10; unfold f_count; simp [c1]) rfl
  · refine g_tableIn (off := 147) (tgt := 148) h dX7_count_1 (by rw [c1]; decide) (by rw [c1]; decide) (by rw [c1]; rfl) (by decide) ?_
    refine g_aload_n h 0 dX7_count_148 rfl ?_
    refine q_7_now h rfl tw_231 dX7_count_149 ?_
    refine g_iconst (v := 1) h dX7_count_152 (by decide) ?_
    refine k_VN_i (st := []) h hX (tX6_setting (xl X) G F ω hI 1 rfl 1) rfl ⟨kd_lt rfl, ob_1 rfl⟩ rfl miX6_setting tw_563 (by decide) (by decide) rfl (Nat.le_of_ble_eq_true rfl) (by rw [hX]; exact Nat.zero_le _) (by rw [hX]; exact Nat.zero_le _) dX7_count_153 (fun v11 hv11 => ?_)
    exact e_iret h hI dX7_count_156 (by replace hv11 := hv11.symm; subst hv11; unfold f_count; simp [c1]) rfl
  · refine g_tableIn (off := 156) (tgt := 157) h dX7_count_1 (by rw [c1]; decide) (by rw [c1]; decide) (by rw [c1]; rfl) (by decide) ?_
    refine g_aload_n h 0 dX7_count_157 rfl ?_
    refine q_7_now h rfl tw_231 dX7_count_158 ?_
    refine g_iconst (v := 2) h dX7_count_161 (by decide) ?_
    refine k_VN_i (st := []) h hX (tX6_setting (xl X) G F ω hI 1 rfl 2) rfl ⟨kd_lt rfl, ob_1 rfl⟩ rfl miX6_setting tw_563 (by decide) (by decide) rfl (Nat.le_of_ble_eq_true rfl) (by rw [hX]; exact Nat.zero_le _) (by rw [hX]; exact Nat.zero_le _) dX7_count_162 (fun v12 hv12 => ?_)
    exact e_iret h hI dX7_count_165 (by replace hv12 := hv12.symm; subst hv12; unfold f_count; simp [c1]) rfl
  · refine g_tableIn (off := 165) (tgt := 166) h dX7_count_1 (by rw [c1]; decide) (by rw [c1]; decide) (by rw [c1]; rfl) (by decide) ?_
    refine g_aload_n h 0 dX7_count_166 rfl ?_
    refine q_7_now h rfl tw_231 dX7_count_167 ?_
    refine g_iconst (v := 3) h dX7_count_170 (by decide) ?_
    refine k_VN_i (st := []) h hX (tX6_setting (xl X) G F ω hI 1 rfl 3) rfl ⟨kd_lt rfl, ob_1 rfl⟩ rfl miX6_setting tw_563 (by decide) (by decide) rfl (Nat.le_of_ble_eq_true rfl) (by rw [hX]; exact Nat.zero_le _) (by rw [hX]; exact Nat.zero_le _) dX7_count_171 (fun v13 hv13 => ?_)
    exact e_iret h hI dX7_count_174 (by replace hv13 := hv13.symm; subst hv13; unfold f_count; simp [c1]) rfl
  · refine g_tableIn (off := 174) (tgt := 175) h dX7_count_1 (by rw [c1]; decide) (by rw [c1]; decide) (by rw [c1]; rfl) (by decide) ?_
    refine g_aload_n h 0 dX7_count_175 rfl ?_
    refine q_7_pad h rfl tw_236 dX7_count_176 ?_
    refine qN_4_length h rfl tw_199 dX7_count_179 (fun v14 hv14 => ?_)
    exact e_iret h hI dX7_count_182 (by replace hv14 := hv14.symm; subst hv14; unfold f_count; simp [c1]) rfl
  · refine g_tableIn (off := 182) (tgt := 183) h dX7_count_1 (by rw [c1]; decide) (by rw [c1]; decide) (by rw [c1]; rfl) (by decide) ?_
    refine g_aload_n h 0 dX7_count_183 rfl ?_
    refine q_7_history h rfl tw_233 dX7_count_184 ?_
    refine qN_1_size h rfl tw_184 dX7_count_187 (fun v15 hv15 => ?_)
    exact e_iret h hI dX7_count_190 (by replace hv15 := hv15.symm; subst hv15; unfold f_count; simp [c1]) rfl
  · refine g_tableOut (tgt := 191) h dX7_count_1 c1 (by decide) ?_
    obtain ⟨c16, c17, c18, c19, c20, c21, c22, c23, c24, c25, c26, c27, c28, c29⟩ := swo_14 c1
    refine g_bipush (v := (-2)) h dX7_count_191 (by decide) ?_
    exact e_iret h hI dX7_count_193 (by skip; unfold f_count; simp [c16, c17, c18, c19, c20, c21, c22, c23, c24, c25, c26, c27, c28, c29]) rfl
set_option maxHeartbeats 4000000 in
set_option maxRecDepth 100000 in
theorem tX7_valueIn (l0 : Launch) (G : fG) (F : Nat) (ω : fOm) (hI : Inv ω) (l : Int32) (p : Int32) (t : Int32) : CT l0 G F yX7_valueIn cX7_valueIn 5 (some .int) 6 [.ref (F + 0), .int l, .int p, .int t] ω (some (.int (f_valIn ω l p t))) (f_valInW ω l p t) := by
  refine ct_met (own := RX7) (by decide +kernel) rfl (Nat.le_of_ble_eq_true rfl) (fun X hXl hX h => ?_)
  subst hXl
  refine g_aload_n h 0 dX7_valueIn_0 rfl ?_
  refine q_7_now h rfl tw_231 dX7_valueIn_1 ?_
  refine g_iload_n h 1 dX7_valueIn_4 rfl ?_
  refine g_iload_n h 2 dX7_valueIn_5 rfl ?_
  refine k_VN_r (st := []) h hX (tX6_ringWith (xl X) G F ω hI 1 rfl l p) rfl ⟨kd_lt rfl, ob_1 rfl⟩ rfl miX6_ringWith tw_502 (by decide) (by decide) rfl (Nat.le_of_ble_eq_true rfl) (by rw [hX]; exact Nat.zero_le _) (by rw [hX]; exact Nat.zero_le _) dX7_valueIn_6 (fun e2 => ?_) (fun k1 e2 => ?_)
  · refine g_ifnonnullN h dX7_valueIn_9 ?_
    refine g_iconst (v := (-1)) h dX7_valueIn_12 (by decide) ?_
    exact e_iret h hI dX7_valueIn_13 (by skip; unfold f_valIn; simp only [e2, ↓reduceIte]) (by skip; unfold f_valInW; simp only [e2, ↓reduceIte])
  · have hk1 : kd k1 = 6 := ringWith_kd hI rfl e2
    refine g_ifnonnull (tgt := 14) h dX7_valueIn_9 (by decide) ?_
    refine g_iload_n h 3 dX7_valueIn_14 rfl ?_
    refine g_iconst (v := 1) h dX7_valueIn_15 (by decide) ?_
    refine g_sipush (v := 200) h dX7_valueIn_16 (by decide) ?_
    refine k_S_i (st := []) h hX (tX7_isBetween (xl X) G F ω hI t 1 200) rfl miX7_isBetween tw_333 (by decide) (by decide) rfl (Nat.le_of_ble_eq_true rfl) (by rw [hX]; exact Nat.zero_le _) (by rw [hX]; exact Nat.zero_le _) dX7_valueIn_19 (fun v3 hv3 => ?_)
    refine g_if_ne (tgt := 28) h dX7_valueIn_22 (by decide) (fun c4 => ?_) (fun c4 => ?_)
    · refine g_aload_n h 0 dX7_valueIn_28 rfl ?_
      refine q_7_trial h rfl tw_232 dX7_valueIn_29 ?_
      refine g_aload_n h 0 dX7_valueIn_32 rfl ?_
      refine q_7_now h rfl tw_231 dX7_valueIn_33 ?_
      refine k_VN_v (st := []) h hX (tX6_copyFrom (xl X) G F ω hI 59 rfl 1 rfl) rfl ⟨kd_lt rfl, ob_1 rfl⟩ rfl miX6_copyFrom tw_568 (by decide) (by decide) rfl (Nat.le_of_ble_eq_true rfl) (by rw [hX]; exact Nat.zero_le _) (by rw [hX]; exact Nat.zero_le _) dX7_valueIn_36 (fun w5 hw5 iw5 => ?_)
      refine g_aload_n h 0 dX7_valueIn_39 rfl ?_
      refine q_7_trial h rfl tw_232 dX7_valueIn_40 ?_
      refine g_iload_n h 3 dX7_valueIn_43 rfl ?_
      refine k_VN_j (st := []) h hX (tX6_passTicks (xl X) G F w5 iw5 59 rfl t) rfl ⟨kd_lt rfl, ob_1 rfl⟩ rfl miX6_passTicks tw_411 (by decide) (by decide) rfl (Nat.le_of_ble_eq_true rfl) (by rw [hX]; exact Nat.zero_le _) (by rw [hX]; exact Nat.zero_le _) dX7_valueIn_44 (fun v6 w7 hv6 hw7 iw7 => ?_)
      refine g_pop h dX7_valueIn_47 rfl ?_
      refine g_aload_n h 0 dX7_valueIn_48 rfl ?_
      refine q_7_trial h rfl tw_232 dX7_valueIn_49 ?_
      refine g_iload_n h 1 dX7_valueIn_52 rfl ?_
      refine k_VN_r (st := []) h hX (tX6_ringOf (xl X) G F w7 iw7 59 rfl l) rfl ⟨kd_lt rfl, ob_1 rfl⟩ rfl miX6_ringOf tw_513 (by decide) (by decide) rfl (Nat.le_of_ble_eq_true rfl) (by rw [hX]; exact Nat.zero_le _) (by rw [hX]; exact Nat.zero_le _) dX7_valueIn_53 (fun e9 => ?_) (fun k8 e9 => ?_)
      · refine g_astoreN (loc2 := [(4, .null), (0, .ref (F + 0)), (1, .int l), (2, .int p), (3, .int t)]) h dX7_valueIn_56 (by decide) rfl ?_
        refine g_aloadN h 0 dX7_valueIn_58 rfl ?_
        refine g_ifnonnullN h dX7_valueIn_60 ?_
        refine g_bipush (v := (-6)) h dX7_valueIn_63 (by decide) ?_
        refine g_goto (tgt := 74) h dX7_valueIn_65 (by decide) ?_
        exact e_iret h iw7 dX7_valueIn_74 (by clear iw5 iw7; replace hv3 := hv3.symm; replace hw5 := hw5.symm; replace hv6 := hv6.symm; replace hw7 := hw7.symm; subst hw7 hv6 hw5 hv3; unfold f_valIn; simp only [e2, c4, e9, ↓reduceIte]) (by clear iw5 iw7; replace hv3 := hv3.symm; replace hw5 := hw5.symm; replace hv6 := hv6.symm; replace hw7 := hw7.symm; subst hw7 hv6 hw5 hv3; unfold f_valInW; simp only [e2, c4, e9, ↓reduceIte])
      · have hk8 : kd k8 = 6 := ringOf_kd iw7 rfl e9
        refine g_astore (loc2 := [(4, .ref (F + k8)), (0, .ref (F + 0)), (1, .int l), (2, .int p), (3, .int t)]) h dX7_valueIn_56 (by decide) rfl ?_
        refine g_aload h 0 dX7_valueIn_58 rfl ?_
        refine g_ifnonnull (tgt := 68) h dX7_valueIn_60 (by decide) ?_
        refine g_aload h 0 dX7_valueIn_68 rfl ?_
        refine g_iload_n h 3 dX7_valueIn_70 rfl ?_
        refine k_VN_i (st := []) h hX (tX5_valueAt (xl X) G F w7 iw7 k8 hk8 p) rfl ⟨kd_lt hk8, ob_6 hk8⟩ rfl miX5_valueAt tw_503 (by decide) (by decide) rfl (Nat.le_of_ble_eq_true rfl) (by rw [hX]; exact Nat.zero_le _) (by rw [hX]; exact Nat.zero_le _) dX7_valueIn_71 (fun v10 hv10 => ?_)
        exact e_iret h iw7 dX7_valueIn_74 (by clear iw5 iw7; replace hv3 := hv3.symm; replace hw5 := hw5.symm; replace hv6 := hv6.symm; replace hw7 := hw7.symm; replace hv10 := hv10.symm; subst hv10 hw7 hv6 hw5 hv3; unfold f_valIn; simp only [e2, c4, e9, ↓reduceIte]) (by clear iw5 iw7; replace hv3 := hv3.symm; replace hw5 := hw5.symm; replace hv6 := hv6.symm; replace hw7 := hw7.symm; replace hv10 := hv10.symm; subst hv10 hw7 hv6 hw5 hv3; unfold f_valInW; simp only [e2, c4, e9, ↓reduceIte])
    · refine g_bipush (v := (-2)) h dX7_valueIn_25 (by decide) ?_
      exact e_iret h hI dX7_valueIn_27 (by replace hv3 := hv3.symm; subst hv3; unfold f_valIn; simp only [e2, c4, ↓reduceIte]) (by replace hv3 := hv3.symm; subst hv3; unfold f_valInW; simp only [e2, c4, ↓reduceIte])
set_option maxHeartbeats 4000000 in
set_option maxRecDepth 100000 in
theorem tX7_leftIn (l0 : Launch) (G : fG) (F : Nat) (ω : fOm) (hI : Inv ω) (t : Int32) : CT l0 G F yX7_leftIn cX7_leftIn 2 (some .int) 6 [.ref (F + 0), .int t] ω (some (.int (f_left ω t))) (f_leftW ω t) := by
  refine ct_met (own := RX7) (by decide +kernel) rfl (Nat.le_of_ble_eq_true rfl) (fun X hXl hX h => ?_)
  subst hXl
  refine g_iload_n h 1 dX7_leftIn_0 rfl ?_
  refine g_iconst (v := 1) h dX7_leftIn_1 (by decide) ?_
  refine g_sipush (v := 200) h dX7_leftIn_2 (by decide) ?_
  refine k_S_i (st := []) h hX (tX7_isBetween (xl X) G F ω hI t 1 200) rfl miX7_isBetween tw_333 (by decide) (by decide) rfl (Nat.le_of_ble_eq_true rfl) (by rw [hX]; exact Nat.zero_le _) (by rw [hX]; exact Nat.zero_le _) dX7_leftIn_5 (fun v1 hv1 => ?_)
  refine g_if_ne (tgt := 14) h dX7_leftIn_8 (by decide) (fun c2 => ?_) (fun c2 => ?_)
  · refine g_aload_n h 0 dX7_leftIn_14 rfl ?_
    refine q_7_trial h rfl tw_232 dX7_leftIn_15 ?_
    refine g_aload_n h 0 dX7_leftIn_18 rfl ?_
    refine q_7_now h rfl tw_231 dX7_leftIn_19 ?_
    refine k_VN_v (st := []) h hX (tX6_copyFrom (xl X) G F ω hI 59 rfl 1 rfl) rfl ⟨kd_lt rfl, ob_1 rfl⟩ rfl miX6_copyFrom tw_568 (by decide) (by decide) rfl (Nat.le_of_ble_eq_true rfl) (by rw [hX]; exact Nat.zero_le _) (by rw [hX]; exact Nat.zero_le _) dX7_leftIn_22 (fun w3 hw3 iw3 => ?_)
    refine g_aload_n h 0 dX7_leftIn_25 rfl ?_
    refine q_7_trial h rfl tw_232 dX7_leftIn_26 ?_
    refine g_iload_n h 1 dX7_leftIn_29 rfl ?_
    refine k_VN_j (st := []) h hX (tX6_passTicks (xl X) G F w3 iw3 59 rfl t) rfl ⟨kd_lt rfl, ob_1 rfl⟩ rfl miX6_passTicks tw_411 (by decide) (by decide) rfl (Nat.le_of_ble_eq_true rfl) (by rw [hX]; exact Nat.zero_le _) (by rw [hX]; exact Nat.zero_le _) dX7_leftIn_30 (fun v4 w5 hv4 hw5 iw5 => ?_)
    refine g_pop h dX7_leftIn_33 rfl ?_
    refine g_aload_n h 0 dX7_leftIn_34 rfl ?_
    refine q_7_trial h rfl tw_232 dX7_leftIn_35 ?_
    refine k_VN_i (st := []) h hX (tX6_flashesInAll (xl X) G F w5 iw5 59 rfl) rfl ⟨kd_lt rfl, ob_1 rfl⟩ rfl miX6_flashesInAll tw_554 (by decide) (by decide) rfl (Nat.le_of_ble_eq_true rfl) (by rw [hX]; exact Nat.zero_le _) (by rw [hX]; exact Nat.zero_le _) dX7_leftIn_38 (fun v6 hv6 => ?_)
    exact e_iret h iw5 dX7_leftIn_41 (by clear iw3 iw5; replace hv1 := hv1.symm; replace hw3 := hw3.symm; replace hv4 := hv4.symm; replace hw5 := hw5.symm; replace hv6 := hv6.symm; subst hv6 hw5 hv4 hw3 hv1; unfold f_left; simp only [c2, ↓reduceIte]) (by clear iw3 iw5; replace hv1 := hv1.symm; replace hw3 := hw3.symm; replace hv4 := hv4.symm; replace hw5 := hw5.symm; replace hv6 := hv6.symm; subst hv6 hw5 hv4 hw3 hv1; unfold f_leftW; simp only [c2, ↓reduceIte])
  · refine g_bipush (v := (-2)) h dX7_leftIn_11 (by decide) ?_
    exact e_iret h hI dX7_leftIn_13 (by replace hv1 := hv1.symm; subst hv1; unfold f_left; simp only [c2, ↓reduceIte]) (by replace hv1 := hv1.symm; subst hv1; unfold f_leftW; simp only [c2, ↓reduceIte])
set_option maxHeartbeats 4000000 in
set_option maxRecDepth 100000 in
theorem tX7_firstLoss (l0 : Launch) (G : fG) (F : Nat) (ω : fOm) (hI : Inv ω) : CT l0 G F yX7_firstLoss cX7_firstLoss 1 (some .int) 6 [.ref (F + 0)] ω (some (.int (f_tlR (f_scopy ω 59 1) 59 300))) (f_tlW (f_scopy ω 59 1) 59 300) := by
  refine ct_met (own := RX7) (by decide +kernel) rfl (Nat.le_of_ble_eq_true rfl) (fun X hXl hX h => ?_)
  subst hXl
  refine g_aload_n h 0 dX7_firstLoss_0 rfl ?_
  refine q_7_trial h rfl tw_232 dX7_firstLoss_1 ?_
  refine g_aload_n h 0 dX7_firstLoss_4 rfl ?_
  refine q_7_now h rfl tw_231 dX7_firstLoss_5 ?_
  refine k_VN_v (st := []) h hX (tX6_copyFrom (xl X) G F ω hI 59 rfl 1 rfl) rfl ⟨kd_lt rfl, ob_1 rfl⟩ rfl miX6_copyFrom tw_568 (by decide) (by decide) rfl (Nat.le_of_ble_eq_true rfl) (by rw [hX]; exact Nat.zero_le _) (by rw [hX]; exact Nat.zero_le _) dX7_firstLoss_8 (fun w1 hw1 iw1 => ?_)
  refine g_aload_n h 0 dX7_firstLoss_11 rfl ?_
  refine q_7_trial h rfl tw_232 dX7_firstLoss_12 ?_
  refine g_sipush (v := 300) h dX7_firstLoss_15 (by decide) ?_
  refine k_VN_j (st := []) h hX (tX6_ticksToLoss (xl X) G F w1 iw1 59 rfl 300 (by decide)) rfl ⟨kd_lt rfl, ob_1 rfl⟩ rfl miX6_ticksToLoss tw_577 (by decide) (by decide) rfl (Nat.le_of_ble_eq_true rfl) (by rw [hX]; exact Nat.zero_le _) (by rw [hX]; exact Nat.zero_le _) dX7_firstLoss_18 (fun v2 w3 hv2 hw3 iw3 => ?_)
  exact e_iret h iw3 dX7_firstLoss_21 (by clear iw1 iw3; replace hw1 := hw1.symm; replace hv2 := hv2.symm; replace hw3 := hw3.symm; subst hw3 hv2 hw1; first | rfl | contradiction) (by clear iw1 iw3; replace hw1 := hw1.symm; replace hv2 := hv2.symm; replace hw3 := hw3.symm; subst hw3 hv2 hw1; first | rfl | contradiction)
set_option maxHeartbeats 4000000 in
set_option maxRecDepth 100000 in
theorem tX7_wipe (l0 : Launch) (G : fG) (F : Nat) (ω : fOm) (hI : Inv ω) : CT l0 G F yX7_wipe cX7_wipe 2 (some .int) 1 [.ref (F + 0)] ω (some (.int (ω 527 1))) (wu ω 527 1 0) := by
  refine ct_met (own := RX7) (by decide +kernel) rfl (Nat.le_of_ble_eq_true rfl) (fun X hXl hX h => ?_)
  subst hXl
  refine g_aload_n h 0 dX7_wipe_0 rfl ?_
  refine q_7_pad h rfl tw_236 dX7_wipe_1 ?_
  refine qN_4_length h rfl tw_199 dX7_wipe_4 (fun v1 hv1 => ?_)
  refine g_istore_n (loc2 := [(1, .int v1), (0, .ref (F + 0))]) h dX7_wipe_7 (by decide) rfl ?_
  refine g_aload_n h 1 dX7_wipe_8 rfl ?_
  refine q_7_pad h rfl tw_236 dX7_wipe_9 ?_
  refine k_VN_v (st := []) h hX (tX4_clear (xl X) G F ω hI) rfl ⟨kd_lt rfl, ob_17 rfl⟩ rfl miX4_clear tw_612 (by decide) (by decide) rfl (Nat.le_of_ble_eq_true rfl) (by rw [hX]; exact Nat.zero_le _) (by rw [hX]; exact Nat.zero_le _) dX7_wipe_12 (fun w2 hw2 iw2 => ?_)
  refine g_iload_n h 0 dX7_wipe_15 rfl ?_
  exact e_iret h iw2 dX7_wipe_16 (by clear iw2; replace hv1 := hv1.symm; replace hw2 := hw2.symm; subst hw2 hv1; first | rfl | contradiction) (by clear iw2; replace hv1 := hv1.symm; replace hw2 := hw2.symm; subst hw2 hv1; first | rfl | contradiction)
set_option maxHeartbeats 4000000 in
set_option maxRecDepth 100000 in
theorem tX7_fault (l0 : Launch) (G : fG) (F : Nat) (ω : fOm) (hI : Inv ω) : CT l0 G F yX7_fault cX7_fault 1 (some .int) 6 [.ref (F + 0)] ω (some (.int ((f_ff ω).1))) ((f_ff ω).2) := by
  refine ct_met (own := RX7) (by decide +kernel) rfl (Nat.le_of_ble_eq_true rfl) (fun X hXl hX h => ?_)
  subst hXl
  refine g_aload_n h 0 dX7_fault_0 rfl ?_
  refine q_7_orders h rfl tw_237 dX7_fault_1 ?_
  refine k_VN_j (st := []) h hX (tX3_firstFault (xl X) G F ω hI) rfl ⟨kd_lt rfl, ob_19 rfl⟩ rfl miX3_firstFault tw_620 (by decide) (by decide) rfl (Nat.le_of_ble_eq_true rfl) (by rw [hX]; exact Nat.zero_le _) (by rw [hX]; exact Nat.zero_le _) dX7_fault_4 (fun v1 w2 hv1 hw2 iw2 => ?_)
  exact e_iret h iw2 dX7_fault_7 (by clear iw2; replace hv1 := hv1.symm; replace hw2 := hw2.symm; subst hw2 hv1; rfl) (by clear iw2; replace hv1 := hv1.symm; replace hw2 := hw2.symm; subst hw2 hv1; rfl)
set_option maxHeartbeats 4000000 in
set_option maxRecDepth 100000 in
theorem tX7_undo (l0 : Launch) (G : fG) (F : Nat) (ω : fOm) (hI : Inv ω) : CT l0 G F yX7_undo cX7_undo 2 (some .int) 4 [.ref (F + 0)] ω (some (.int (f_undo ω))) (f_undoW ω) := by
  refine ct_met (own := RX7) (by decide +kernel) rfl (Nat.le_of_ble_eq_true rfl) (fun X hXl hX h => ?_)
  subst hXl
  refine g_aload_n h 0 dX7_undo_0 rfl ?_
  refine q_7_history h rfl tw_233 dX7_undo_1 ?_
  refine k_VN_w (st := []) h hX (tX1_takeLatest (xl X) G F ω hI) rfl ⟨kd_lt rfl, ob_13 rfl⟩ rfl miX1_takeLatest tw_686 (by decide) (by decide) rfl (Nat.le_of_ble_eq_true rfl) (by rw [hX]; exact Nat.zero_le _) (by rw [hX]; exact Nat.zero_le _) dX7_undo_4 (fun w3 e2 hw3 iw3 => ?_) (fun k1 w3 e2 hw3 iw3 => ?_)
  · refine g_astore_nN (loc2 := [(1, .null), (0, .ref (F + 0))]) h dX7_undo_7 (by decide) rfl ?_
    refine g_aload_nN h 0 dX7_undo_8 rfl ?_
    refine g_ifnonnullN h dX7_undo_9 ?_
    refine g_bipush (v := (-5)) h dX7_undo_12 (by decide) ?_
    exact e_iret h iw3 dX7_undo_14 (by replace hw3 := hw3.symm; subst hw3; unfold f_undo; simp only [e2]) (by replace hw3 := hw3.symm; subst hw3; unfold f_undoW; simp only [e2])
  · have hk1 : kd k1 = 1 := takeL_kd hI e2
    refine g_astore_n (loc2 := [(1, .ref (F + k1)), (0, .ref (F + 0))]) h dX7_undo_7 (by decide) rfl ?_
    refine g_aload_n h 0 dX7_undo_8 rfl ?_
    refine g_ifnonnull (tgt := 15) h dX7_undo_9 (by decide) ?_
    refine g_aload_n h 1 dX7_undo_15 rfl ?_
    refine q_7_now h rfl tw_231 dX7_undo_16 ?_
    refine g_aload_n h 0 dX7_undo_19 rfl ?_
    refine k_VN_v (st := []) h hX (tX6_copyFrom (xl X) G F w3 iw3 1 rfl k1 hk1) rfl ⟨kd_lt rfl, ob_1 rfl⟩ rfl miX6_copyFrom tw_568 (by decide) (by decide) rfl (Nat.le_of_ble_eq_true rfl) (by rw [hX]; exact Nat.zero_le _) (by rw [hX]; exact Nat.zero_le _) dX7_undo_20 (fun w4 hw4 iw4 => ?_)
    refine g_aload_n h 1 dX7_undo_23 rfl ?_
    refine q_7_history h rfl tw_233 dX7_undo_24 ?_
    refine qN_1_size h rfl tw_184 dX7_undo_27 (fun v5 hv5 => ?_)
    exact e_iret h iw4 dX7_undo_30 (by clear iw4; replace hw3 := hw3.symm; replace hw4 := hw4.symm; replace hv5 := hv5.symm; subst hv5 hw4 hw3; unfold f_undo; simp only [e2]) (by clear iw4; replace hw3 := hw3.symm; replace hw4 := hw4.symm; replace hv5 := hv5.symm; subst hv5 hw4 hw3; unfold f_undoW; simp only [e2])
set_option maxHeartbeats 4000000 in
set_option maxRecDepth 100000 in
theorem tX7_slotOf (l0 : Launch) (G : fG) (F : Nat) (ω : fOm) (hI : Inv ω) (s : Int32) : CT l0 G F yX7_slotOf cX7_slotOf 2 (some (.object "FibreLoops$State")) 1 [.ref (F + 0), .int s] ω (some (vref F (f_slotOf s))) ω := by
  refine ct_met (own := RX7) (by decide +kernel) rfl (Nat.le_of_ble_eq_true rfl) (fun X hXl hX h => ?_)
  subst hXl
  refine g_iload_n h 1 dX7_slotOf_0 rfl ?_
  refine g_iconst (v := 0) h dX7_slotOf_1 (by decide) ?_
  refine g_iconst (v := 1) h dX7_slotOf_2 (by decide) ?_
  refine k_S_i (st := []) h hX (tX7_isBetween (xl X) G F ω hI s 0 1) rfl miX7_isBetween tw_333 (by decide) (by decide) rfl (Nat.le_of_ble_eq_true rfl) (by rw [hX]; exact Nat.zero_le _) (by rw [hX]; exact Nat.zero_le _) dX7_slotOf_3 (fun v1 hv1 => ?_)
  refine g_if_eq (tgt := 18) h dX7_slotOf_6 (by decide) (fun c2 => ?_) (fun c2 => ?_)
  · refine g_null h dX7_slotOf_18 ?_
    exact e_aret (o := none) h hI dX7_slotOf_19 (by replace hv1 := hv1.symm; subst hv1; first | contradiction | (unfold f_slotOf; simp only [c2, ↓reduceIte]; done) | (unfold f_slotOf; simp only [c2, ↓reduceIte] <;> rfl) | rfl | (unfold f_slotOf; simp [c2]; done)) rfl
  · refine g_aload_n h 0 dX7_slotOf_9 rfl ?_
    refine q_7_slots h rfl tw_234 dX7_slotOf_10 ?_
    refine g_iload_n h 1 dX7_slotOf_13 rfl ?_
    refine g_sa h (by replace hv1 := hv1.symm; subst hv1; exact btw_in c2 rfl) dX7_slotOf_14 (fun k3 ek3 hk3 => ?_)
    refine g_goto (tgt := 19) h dX7_slotOf_15 (by decide) ?_
    exact e_aret (o := (some k3)) h hI dX7_slotOf_19 (by replace hv1 := hv1.symm; replace ek3 := ek3.symm; subst ek3 hv1; first | contradiction | (unfold f_slotOf; simp only [c2, ↓reduceIte]; done) | (unfold f_slotOf; simp only [c2, ↓reduceIte] <;> rfl) | rfl | (unfold f_slotOf; simp [c2]; done)) rfl
set_option maxHeartbeats 4000000 in
set_option maxRecDepth 100000 in
theorem tX7_save (l0 : Launch) (G : fG) (F : Nat) (ω : fOm) (hI : Inv ω) (s : Int32) : CT l0 G F yX7_save cX7_save 3 (some .int) 4 [.ref (F + 0), .int s] ω (some (.int (f_save ω s))) (f_saveW ω s) := by
  refine ct_met (own := RX7) (by decide +kernel) rfl (Nat.le_of_ble_eq_true rfl) (fun X hXl hX h => ?_)
  subst hXl
  refine g_aload_n h 0 dX7_save_0 rfl ?_
  refine g_iload_n h 1 dX7_save_1 rfl ?_
  refine k_V_r (st := []) h hX (tX7_slotOf (xl X) G F ω hI s) rfl ⟨kd_lt rfl, ob_12 rfl⟩ rfl miX7_slotOf tw_694 (by decide) (by decide) rfl (Nat.le_of_ble_eq_true rfl) (by rw [hX]; exact Nat.zero_le _) (by rw [hX]; exact Nat.zero_le _) dX7_save_2 (fun e2 => ?_) (fun k1 e2 => ?_)
  · refine g_astore_nN (loc2 := [(2, .null), (0, .ref (F + 0)), (1, .int s)]) h dX7_save_5 (by decide) rfl ?_
    refine g_aload_nN h 0 dX7_save_6 rfl ?_
    refine g_ifnonnullN h dX7_save_7 ?_
    refine g_bipush (v := (-2)) h dX7_save_10 (by decide) ?_
    exact e_iret h hI dX7_save_12 (by skip; unfold f_save; simp only [e2]) (by skip; unfold f_saveW; simp only [e2])
  · have hk1 : kd k1 = 1 := slotOf_kd e2
    refine g_astore_n (loc2 := [(2, .ref (F + k1)), (0, .ref (F + 0)), (1, .int s)]) h dX7_save_5 (by decide) rfl ?_
    refine g_aload_n h 0 dX7_save_6 rfl ?_
    refine g_ifnonnull (tgt := 13) h dX7_save_7 (by decide) ?_
    refine g_aload_n h 0 dX7_save_13 rfl ?_
    refine g_aload_n h 1 dX7_save_14 rfl ?_
    refine q_7_now h rfl tw_231 dX7_save_15 ?_
    refine k_VN_v (st := []) h hX (tX6_copyFrom (xl X) G F ω hI k1 hk1 1 rfl) rfl ⟨kd_lt hk1, ob_1 hk1⟩ rfl miX6_copyFrom tw_568 (by decide) (by decide) rfl (Nat.le_of_ble_eq_true rfl) (by rw [hX]; exact Nat.zero_le _) (by rw [hX]; exact Nat.zero_le _) dX7_save_18 (fun w3 hw3 iw3 => ?_)
    refine g_aload_n h 1 dX7_save_21 rfl ?_
    refine q_7_filled h rfl tw_235 dX7_save_22 ?_
    refine g_iload_n h 2 dX7_save_25 rfl ?_
    refine g_iconst (v := 1) h dX7_save_26 (by decide) ?_
    refine g_zs (q := 16) h iw3 rfl (by decide) (slotOf_in e2) rfl dX7_save_27 (fun w4 hw4 iw4 => ?_)
    refine g_aload_n h 1 dX7_save_28 rfl ?_
    refine q_7_now h rfl tw_231 dX7_save_29 ?_
    refine qN_6_tick h rfl tw_149 dX7_save_32 (fun v5 hv5 => ?_)
    exact e_iret h iw4 dX7_save_35 (by clear iw3 iw4; replace hw3 := hw3.symm; replace hw4 := hw4.symm; replace hv5 := hv5.symm; subst hv5 hw4 hw3; unfold f_save; simp only [e2]) (by clear iw3 iw4; replace hw3 := hw3.symm; replace hw4 := hw4.symm; replace hv5 := hv5.symm; subst hv5 hw4 hw3; unfold f_saveW; simp only [e2])
set_option maxHeartbeats 4000000 in
set_option maxRecDepth 100000 in
theorem tX7_restore (l0 : Launch) (G : fG) (F : Nat) (ω : fOm) (hI : Inv ω) (s : Int32) : CT l0 G F yX7_restore cX7_restore 3 (some .int) 5 [.ref (F + 0), .int s] ω (some (.int (f_restR ω s))) (f_restW ω s) := by
  refine ct_met (own := RX7) (by decide +kernel) rfl (Nat.le_of_ble_eq_true rfl) (fun X hXl hX h => ?_)
  subst hXl
  refine g_aload_n h 0 dX7_restore_0 rfl ?_
  refine g_iload_n h 1 dX7_restore_1 rfl ?_
  refine k_V_r (st := []) h hX (tX7_slotOf (xl X) G F ω hI s) rfl ⟨kd_lt rfl, ob_12 rfl⟩ rfl miX7_slotOf tw_694 (by decide) (by decide) rfl (Nat.le_of_ble_eq_true rfl) (by rw [hX]; exact Nat.zero_le _) (by rw [hX]; exact Nat.zero_le _) dX7_restore_2 (fun e2 => ?_) (fun k1 e2 => ?_)
  · refine g_astore_nN (loc2 := [(2, .null), (0, .ref (F + 0)), (1, .int s)]) h dX7_restore_5 (by decide) rfl ?_
    refine g_aload_nN h 0 dX7_restore_6 rfl ?_
    refine g_ifnonnullN h dX7_restore_7 ?_
    refine g_bipush (v := (-2)) h dX7_restore_10 (by decide) ?_
    exact e_iret h hI dX7_restore_12 (by skip; unfold f_restR f_rest0; simp only [e2, ↓reduceIte]) (by skip; unfold f_restW f_rest0; simp only [e2, ↓reduceIte])
  · have hk1 : kd k1 = 1 := slotOf_kd e2
    refine g_astore_n (loc2 := [(2, .ref (F + k1)), (0, .ref (F + 0)), (1, .int s)]) h dX7_restore_5 (by decide) rfl ?_
    refine g_aload_n h 0 dX7_restore_6 rfl ?_
    refine g_ifnonnull (tgt := 13) h dX7_restore_7 (by decide) ?_
    refine g_aload_n h 1 dX7_restore_13 rfl ?_
    refine q_7_filled h rfl tw_235 dX7_restore_14 ?_
    refine g_iload_n h 2 dX7_restore_17 rfl ?_
    refine g_za (q := 16) h rfl (by decide) (slotOf_in e2) dX7_restore_18 (fun v3 hv3 => ?_)
    refine g_if_ne (tgt := 25) h dX7_restore_19 (by decide) (fun c4 => ?_) (fun c4 => ?_)
    · refine g_aload_n h 1 dX7_restore_25 rfl ?_
      refine q_7_history h rfl tw_233 dX7_restore_26 ?_
      refine g_aload_n h 1 dX7_restore_29 rfl ?_
      refine q_7_now h rfl tw_231 dX7_restore_30 ?_
      refine k_VN_v (st := []) h hX (tX1_holdBack (xl X) G F ω hI 1 rfl) rfl ⟨kd_lt rfl, ob_13 rfl⟩ rfl miX1_holdBack tw_257 (by decide) (by decide) rfl (Nat.le_of_ble_eq_true rfl) (by rw [hX]; exact Nat.zero_le _) (by rw [hX]; exact Nat.zero_le _) dX7_restore_33 (fun w5 hw5 iw5 => ?_)
      refine g_aload_n h 1 dX7_restore_36 rfl ?_
      refine q_7_now h rfl tw_231 dX7_restore_37 ?_
      refine g_aload_n h 0 dX7_restore_40 rfl ?_
      refine k_VN_v (st := []) h hX (tX6_copyFrom (xl X) G F w5 iw5 1 rfl k1 hk1) rfl ⟨kd_lt rfl, ob_1 rfl⟩ rfl miX6_copyFrom tw_568 (by decide) (by decide) rfl (Nat.le_of_ble_eq_true rfl) (by rw [hX]; exact Nat.zero_le _) (by rw [hX]; exact Nat.zero_le _) dX7_restore_41 (fun w6 hw6 iw6 => ?_)
      refine g_aload_n h 1 dX7_restore_44 rfl ?_
      refine q_7_history h rfl tw_233 dX7_restore_45 ?_
      refine g_aload_n h 1 dX7_restore_48 rfl ?_
      refine q_7_now h rfl tw_231 dX7_restore_49 ?_
      refine qN_6_tick h rfl tw_149 dX7_restore_52 (fun v7 hv7 => ?_)
      refine k_VN_j (st := []) h hX (tX1_keepIfDone (xl X) G F w6 iw6 v7) rfl ⟨kd_lt rfl, ob_13 rfl⟩ rfl miX1_keepIfDone tw_290 (by decide) (by decide) rfl (Nat.le_of_ble_eq_true rfl) (by rw [hX]; exact Nat.zero_le _) (by rw [hX]; exact Nat.zero_le _) dX7_restore_55 (fun v8 w9 hv8 hw9 iw9 => ?_)
      exact e_iret h iw9 dX7_restore_58 (by clear iw5 iw6 iw9; replace hv3 := hv3.symm; replace hw5 := hw5.symm; replace hw6 := hw6.symm; replace hv7 := hv7.symm; replace hv8 := hv8.symm; replace hw9 := hw9.symm; subst hw9 hv8 hv7 hw6 hw5 hv3; unfold f_restR f_rest0; simp only [e2, c4, ↓reduceIte]) (by clear iw5 iw6 iw9; replace hv3 := hv3.symm; replace hw5 := hw5.symm; replace hw6 := hw6.symm; replace hv7 := hv7.symm; replace hv8 := hv8.symm; replace hw9 := hw9.symm; subst hw9 hv8 hv7 hw6 hw5 hv3; unfold f_restW f_rest0; simp only [e2, c4, ↓reduceIte])
    · refine g_bipush (v := (-5)) h dX7_restore_22 (by decide) ?_
      exact e_iret h hI dX7_restore_24 (by replace hv3 := hv3.symm; subst hv3; unfold f_restR f_rest0; simp only [e2, c4, ↓reduceIte]) (by replace hv3 := hv3.symm; subst hv3; unfold f_restW f_rest0; simp only [e2, c4, ↓reduceIte])
set_option maxHeartbeats 4000000 in
set_option maxRecDepth 100000 in
theorem tX7_signIn (l0 : Launch) (G : fG) (F : Nat) (ω : fOm) (hI : Inv ω) (cc : Int64) (b : Int32) : CT l0 G F yX7_signIn cX7_signIn 3 (some .char) 0 [.long cc, .int b] ω (some (.int (f_signIn cc b))) ω := by
  refine ct_met (own := RX7) (by decide +kernel) rfl (Nat.le_of_ble_eq_true rfl) (fun X hXl hX h => ?_)
  subst hXl
  refine g_lload_n h 0 dX7_signIn_0 rfl ?_
  refine g_bipush (v := 8) h dX7_signIn_1 (by decide) ?_
  refine g_iload_n h 1 dX7_signIn_3 rfl ?_
  refine g_imul h dX7_signIn_4 (g_name fun v1 hv1 => ?_)
  refine g_lushr h dX7_signIn_5 rfl (g_nameL fun v2 hv2 => ?_)
  refine g_ldc2 h dX7_signIn_6 tw_603 ?_
  refine g_land h dX7_signIn_9 (g_nameL fun v3 hv3 => ?_)
  refine g_l2i h dX7_signIn_10 rfl (g_name fun v4 hv4 => ?_)
  refine g_i2c h dX7_signIn_11 rfl (g_name fun v5 hv5 => ?_)
  exact e_zret h hI dX7_signIn_12 (pk_nc _) (by replace hv1 := hv1.symm; replace hv2 := hv2.symm; replace hv3 := hv3.symm; replace hv4 := hv4.symm; replace hv5 := hv5.symm; subst hv5 hv4 hv3 hv2 hv1; rfl) rfl
set_option maxHeartbeats 4000000 in
set_option maxRecDepth 100000 in
theorem tX7_find (l0 : Launch) (G : fG) (F : Nat) (ω : fOm) (hI : Inv ω) (v : Int32) (wh : Int32) : CT l0 G F yX7_find cX7_find 9 (some .int) 2 [.ref (F + 0), .int v, .int wh] ω (some (.int (f_find ω v wh))) ω := by
  refine ct_met (own := RX7) (by decide +kernel) rfl (Nat.le_of_ble_eq_true rfl) (fun X hXl hX h => ?_)
  subst hXl
  refine g_iload_n h 1 dX7_find_0 rfl ?_
  refine k_S_i (st := []) h hX (tX7_isValue (xl X) G F ω hI v) rfl miX7_isValue tw_334 (by decide) (by decide) rfl (Nat.le_of_ble_eq_true rfl) (by rw [hX]; exact Nat.zero_le _) (by rw [hX]; exact Nat.zero_le _) dX7_find_1 (fun v1 hv1 => ?_)
  refine g_if_eq (tgt := 16) h dX7_find_4 (by decide) (fun c2 => ?_) (fun c2 => ?_)
  · refine g_bipush (v := (-2)) h dX7_find_16 (by decide) ?_
    exact e_iret h hI dX7_find_18 (by replace hv1 := hv1.symm; subst hv1; unfold f_find; simp only [c2, ↓reduceIte]) rfl
  · refine g_iload_n h 2 dX7_find_7 rfl ?_
    refine g_iconst (v := 0) h dX7_find_8 (by decide) ?_
    refine g_iconst (v := 2) h dX7_find_9 (by decide) ?_
    refine k_S_i (st := []) h hX (tX7_isBetween (xl X) G F ω hI wh 0 2) rfl miX7_isBetween tw_333 (by decide) (by decide) rfl (Nat.le_of_ble_eq_true rfl) (by rw [hX]; exact Nat.zero_le _) (by rw [hX]; exact Nat.zero_le _) dX7_find_10 (fun v3 hv3 => ?_)
    refine g_if_ne (tgt := 19) h dX7_find_13 (by decide) (fun c4 => ?_) (fun c4 => ?_)
    · refine g_bipush (v := (-6)) h dX7_find_19 (by decide) ?_
      refine g_istore_n (loc2 := [(3, .int (-6)), (0, .ref (F + 0)), (1, .int v), (2, .int wh)]) h dX7_find_21 (by decide) rfl ?_
      refine g_bipush (v := (-6)) h dX7_find_22 (by decide) ?_
      refine g_istore (loc2 := [(4, .int (-6)), (3, .int (-6)), (0, .ref (F + 0)), (1, .int v), (2, .int wh)]) h dX7_find_24 (by decide) rfl ?_
      refine g_iconst (v := 0) h dX7_find_26 (by decide) ?_
      refine g_istore (loc2 := [(5, .int 0), (4, .int (-6)), (3, .int (-6)), (0, .ref (F + 0)), (1, .int v), (2, .int wh)]) h dX7_find_27 (by decide) rfl ?_
      refine g_iconst (v := 0) h dX7_find_29 (by decide) ?_
      refine g_istore (loc2 := [(6, .int 0), (5, .int 0), (4, .int (-6)), (3, .int (-6)), (0, .ref (F + 0)), (1, .int v), (2, .int wh)]) h dX7_find_30 (by decide) rfl ?_
      have e6 : 0 = nI 0 := by replace hv1 := hv1.symm; replace hv3 := hv3.symm; subst hv3 hv1; first | rfl | exact nI_0.symm | exact nI_0 | decide
      have e7 : 0 = (f_fi2 ω v 0).2.2 := by replace hv1 := hv1.symm; replace hv3 := hv3.symm; subst hv3 hv1; first | rfl | exact nI_0.symm | exact nI_0 | decide
      have e8 : (-6) = (f_fi2 ω v 0).2.1 := by replace hv1 := hv1.symm; replace hv3 := hv3.symm; subst hv3 hv1; first | rfl | exact nI_0.symm | exact nI_0 | decide
      have e9 : (-6) = (f_fi2 ω v 0).1 := by replace hv1 := hv1.symm; replace hv3 := hv3.symm; subst hv3 hv1; first | rfl | exact nI_0.symm | exact nI_0 | decide
      refine g_lt (ω2 := ω) (loc2 := [(6, .int (nI 0)), (5, .int ((f_fi2 ω v 0).2.2)), (4, .int ((f_fi2 ω v 0).2.1)), (3, .int ((f_fi2 ω v 0).1)), (0, .ref (F + 0)), (1, .int v), (2, .int wh)]) rfl (lc_i e6 (lc_i e7 (lc_i e8 (lc_i e9 rfl)))) rfl ?_
      refine g_loop3 (hd := 32) ((ω 1 5).toNatClampNeg) (fun j5 => Inv ω) (fun j5 => [(6, .int (nI j5)), (5, .int ((f_fi2 ω v j5).2.2)), (4, .int ((f_fi2 ω v j5).2.1)), (3, .int ((f_fi2 ω v j5).1)), (0, .ref (F + 0)), (1, .int v), (2, .int wh)]) (fun j5 => cel F G ω) hI (fun j5 hj13 hP11 ih12 => ?_)
      (try dsimp only)
      have iv14 := hP11
      refine g_iload h 0 dX7_find_32 rfl ?_
      refine g_aload_n h 4 dX7_find_34 rfl ?_
      refine q_7_now h rfl tw_231 dX7_find_35 ?_
      refine qN_6_ringCount h rfl tw_151 dX7_find_38 (fun v15 hv15 => ?_)
      refine g_icmp_ge (tgt := 117) h dX7_find_41 (by decide) (fun c16 => ?_) (fun c16 => ?_)
      · have hN17 : j5 = ((ω 1 5).toNatClampNeg) := by clear ih12; replace hv1 := hv1.symm; replace hv3 := hv3.symm; replace hv15 := hv15.symm; subst hv15 hv3 hv1; exact lp_ge (Inv_1_5 hI rfl).1 c16 hj13
        refine g_iload h 1 dX7_find_117 rfl ?_
        refine g_if_ne (tgt := 125) h dX7_find_119 (by decide) (fun c18 => ?_) (fun c18 => ?_)
        · refine g_iload_n h 6 dX7_find_125 rfl ?_
          refine g_if_ne (tgt := 133) h dX7_find_126 (by decide) (fun c19 => ?_) (fun c19 => ?_)
          · refine g_iload_n h 6 dX7_find_133 rfl ?_
            refine g_iconst (v := 1) h dX7_find_134 (by decide) ?_
            refine g_icmp_ne (tgt := 143) h dX7_find_135 (by decide) (fun c20 => ?_) (fun c20 => ?_)
            · refine g_iload h 1 dX7_find_143 rfl ?_
              exact e_iret h iv14 dX7_find_145 (by clear ih12; replace hv1 := hv1.symm; replace hv3 := hv3.symm; replace hv15 := hv15.symm; subst hv15 hv3 hv1; unfold f_find; rw [← hN17]; simp only [if_neg c2, if_neg c4, if_pos c16, if_neg c18, if_neg c19, if_neg c20]) rfl
            · refine g_iload h 2 dX7_find_138 rfl ?_
              refine g_goto (tgt := 145) h dX7_find_140 (by decide) ?_
              exact e_iret h iv14 dX7_find_145 (by clear ih12; replace hv1 := hv1.symm; replace hv3 := hv3.symm; replace hv15 := hv15.symm; subst hv15 hv3 hv1; unfold f_find; rw [← hN17]; simp only [if_neg c2, if_neg c4, if_pos c16, if_neg c18, if_neg c19, if_pos c20]) rfl
          · refine g_iload_n h 3 dX7_find_129 rfl ?_
            refine g_goto (tgt := 145) h dX7_find_130 (by decide) ?_
            exact e_iret h iv14 dX7_find_145 (by clear ih12; replace hv1 := hv1.symm; replace hv3 := hv3.symm; replace hv15 := hv15.symm; subst hv15 hv3 hv1; unfold f_find; rw [← hN17]; simp only [if_neg c2, if_neg c4, if_pos c16, if_neg c18, if_pos c19]) rfl
        · refine g_bipush (v := (-6)) h dX7_find_122 (by decide) ?_
          exact e_iret h iv14 dX7_find_124 (by clear ih12; replace hv1 := hv1.symm; replace hv3 := hv3.symm; replace hv15 := hv15.symm; subst hv15 hv3 hv1; unfold f_find; rw [← hN17]; simp only [if_neg c2, if_neg c4, if_pos c16, if_pos c18]) rfl
      · have hlt21 : j5 < ((ω 1 5).toNatClampNeg) := by clear ih12; replace hv1 := hv1.symm; replace hv3 := hv3.symm; replace hv15 := hv15.symm; subst hv15 hv3 hv1; exact lp_lt (Inv_1_5 hI rfl).1 c16 hj13
        refine g_aload_n h 4 dX7_find_44 rfl ?_
        refine q_7_now h rfl tw_231 dX7_find_45 ?_
        refine g_iload h 0 dX7_find_48 rfl ?_
        refine k_VN_r (st := []) h hX (tX6_ringOf (xl X) G F ω iv14 1 rfl (nI j5)) rfl ⟨kd_lt rfl, ob_1 rfl⟩ rfl miX6_ringOf tw_513 (by decide) (by decide) rfl (Nat.le_of_ble_eq_true rfl) (by rw [hX]; exact Nat.zero_le _) (by rw [hX]; exact Nat.zero_le _) dX7_find_50 (fun e23 => ?_) (fun k22 e23 => ?_)
        · refine g_astoreN (loc2 := [(7, .null), (6, .int (nI j5)), (5, .int ((f_fi2 ω v j5).2.2)), (4, .int ((f_fi2 ω v j5).2.1)), (3, .int ((f_fi2 ω v j5).1)), (0, .ref (F + 0)), (1, .int v), (2, .int wh)]) h dX7_find_53 (by decide) rfl ?_
          refine g_aloadN h 0 dX7_find_55 rfl ?_
          refine g_ifnonnullN h dX7_find_57 ?_
          refine g_goto (tgt := 111) h dX7_find_60 (by decide) ?_
          obtain ⟨v24, hv24⟩ : ∃ z : Int32, z = (nI j5) + 1 := ⟨_, rfl⟩
          refine g_iinc (v := v24) (loc2 := [(6, .int v24), (7, .null), (5, .int ((f_fi2 ω v j5).2.2)), (4, .int ((f_fi2 ω v j5).2.1)), (3, .int ((f_fi2 ω v j5).1)), (0, .ref (F + 0)), (1, .int v), (2, .int wh)]) h 1 dX7_find_111 rfl (by rw [hv24]; rfl) (by decide) rfl ?_
          refine g_goto (tgt := 32) h dX7_find_114 (by decide) ?_
          refine g_loc [0, 2, 3, 4, 5, 6, 7] rfl ?_
          have e25 : v24 = nI (j5 + 1) := by clear ih12; replace hv1 := hv1.symm; replace hv3 := hv3.symm; replace hv15 := hv15.symm; replace hv24 := hv24.symm; subst hv24 hv15 hv3 hv1; first | rfl | exact nI_1 _ | (rw [nI_succ])
          have e26 : (f_fi2 ω v j5).2.2 = (f_fi2 ω v (j5 + 1)).2.2 := by clear ih12; replace hv1 := hv1.symm; replace hv3 := hv3.symm; replace hv15 := hv15.symm; replace hv24 := hv24.symm; subst hv24 hv15 hv3 hv1; rw [fi2_n e23]
          have e27 : (f_fi2 ω v j5).2.1 = (f_fi2 ω v (j5 + 1)).2.1 := by clear ih12; replace hv1 := hv1.symm; replace hv3 := hv3.symm; replace hv15 := hv15.symm; replace hv24 := hv24.symm; subst hv24 hv15 hv3 hv1; rw [fi2_n e23]
          have e28 : (f_fi2 ω v j5).1 = (f_fi2 ω v (j5 + 1)).1 := by clear ih12; replace hv1 := hv1.symm; replace hv3 := hv3.symm; replace hv15 := hv15.symm; replace hv24 := hv24.symm; subst hv24 hv15 hv3 hv1; rw [fi2_n e23]
          exact g_lt rfl (lc_i e25 (lc_i e26 (lc_i e27 (lc_i e28 rfl)))) rfl (ih12 hlt21 iv14)
        · have hk22 : kd k22 = 6 := ringOf_kd iv14 rfl e23
          refine g_astore (loc2 := [(7, .ref (F + k22)), (6, .int (nI j5)), (5, .int ((f_fi2 ω v j5).2.2)), (4, .int ((f_fi2 ω v j5).2.1)), (3, .int ((f_fi2 ω v j5).1)), (0, .ref (F + 0)), (1, .int v), (2, .int wh)]) h dX7_find_53 (by decide) rfl ?_
          refine g_aload h 0 dX7_find_55 rfl ?_
          refine g_ifnonnull (tgt := 63) h dX7_find_57 (by decide) ?_
          refine g_iconst (v := 0) h dX7_find_63 (by decide) ?_
          refine g_istore (loc2 := [(8, .int 0), (7, .ref (F + k22)), (6, .int (nI j5)), (5, .int ((f_fi2 ω v j5).2.2)), (4, .int ((f_fi2 ω v j5).2.1)), (3, .int ((f_fi2 ω v j5).1)), (0, .ref (F + 0)), (1, .int v), (2, .int wh)]) h dX7_find_64 (by decide) rfl ?_
          have e30 : 0 = nI 0 := by clear ih12; replace hv1 := hv1.symm; replace hv3 := hv3.symm; replace hv15 := hv15.symm; subst hv15 hv3 hv1; first | rfl | exact nI_0.symm | exact nI_0 | decide
          have e31 : (f_fi2 ω v j5).2.2 = (f_fi1 ω k22 v (nI j5) (((f_fi2 ω v j5).1), ((f_fi2 ω v j5).2.1), ((f_fi2 ω v j5).2.2)) 0).2.2 := by clear ih12; replace hv1 := hv1.symm; replace hv3 := hv3.symm; replace hv15 := hv15.symm; subst hv15 hv3 hv1; first | rfl | exact nI_0.symm | exact nI_0 | decide
          have e32 : (f_fi2 ω v j5).2.1 = (f_fi1 ω k22 v (nI j5) (((f_fi2 ω v j5).1), ((f_fi2 ω v j5).2.1), ((f_fi2 ω v j5).2.2)) 0).2.1 := by clear ih12; replace hv1 := hv1.symm; replace hv3 := hv3.symm; replace hv15 := hv15.symm; subst hv15 hv3 hv1; first | rfl | exact nI_0.symm | exact nI_0 | decide
          have e33 : (f_fi2 ω v j5).1 = (f_fi1 ω k22 v (nI j5) (((f_fi2 ω v j5).1), ((f_fi2 ω v j5).2.1), ((f_fi2 ω v j5).2.2)) 0).1 := by clear ih12; replace hv1 := hv1.symm; replace hv3 := hv3.symm; replace hv15 := hv15.symm; subst hv15 hv3 hv1; first | rfl | exact nI_0.symm | exact nI_0 | decide
          refine g_lt (ω2 := ω) (loc2 := [(8, .int (nI 0)), (7, .ref (F + k22)), (6, .int (nI j5)), (5, .int ((f_fi1 ω k22 v (nI j5) (((f_fi2 ω v j5).1), ((f_fi2 ω v j5).2.1), ((f_fi2 ω v j5).2.2)) 0).2.2)), (4, .int ((f_fi1 ω k22 v (nI j5) (((f_fi2 ω v j5).1), ((f_fi2 ω v j5).2.1), ((f_fi2 ω v j5).2.2)) 0).2.1)), (3, .int ((f_fi1 ω k22 v (nI j5) (((f_fi2 ω v j5).1), ((f_fi2 ω v j5).2.1), ((f_fi2 ω v j5).2.2)) 0).1)), (0, .ref (F + 0)), (1, .int v), (2, .int wh)]) rfl (lc_i e30 (lc_s (lc_s (lc_i e31 (lc_i e32 (lc_i e33 rfl)))))) rfl ?_
          refine g_loop3 (hd := 66) ((ω k22 0).toNatClampNeg) (fun j29 => Inv ω) (fun j29 => [(8, .int (nI j29)), (7, .ref (F + k22)), (6, .int (nI j5)), (5, .int ((f_fi1 ω k22 v (nI j5) (((f_fi2 ω v j5).1), ((f_fi2 ω v j5).2.1), ((f_fi2 ω v j5).2.2)) j29).2.2)), (4, .int ((f_fi1 ω k22 v (nI j5) (((f_fi2 ω v j5).1), ((f_fi2 ω v j5).2.1), ((f_fi2 ω v j5).2.2)) j29).2.1)), (3, .int ((f_fi1 ω k22 v (nI j5) (((f_fi2 ω v j5).1), ((f_fi2 ω v j5).2.1), ((f_fi2 ω v j5).2.2)) j29).1)), (0, .ref (F + 0)), (1, .int v), (2, .int wh)]) (fun j29 => cel F G ω) iv14 (fun j29 hj37 hP35 ih36 => ?_)
          (try dsimp only)
          have iv38 := hP35
          refine g_iload h 0 dX7_find_66 rfl ?_
          refine g_aload h 1 dX7_find_68 rfl ?_
          refine qN_5_places h hk22 tw_49 dX7_find_70 (fun v39 hv39 => ?_)
          refine g_icmp_ge (tgt := 111) h dX7_find_73 (by decide) (fun c40 => ?_) (fun c40 => ?_)
          · have hN41 : j29 = ((ω k22 0).toNatClampNeg) := by clear ih12 ih36; replace hv1 := hv1.symm; replace hv3 := hv3.symm; replace hv15 := hv15.symm; replace hv39 := hv39.symm; subst hv39 hv15 hv3 hv1; exact lp_ge (Inv_6_0 hI hk22).1 c40 hj37
            obtain ⟨v42, hv42⟩ : ∃ z : Int32, z = (nI j5) + 1 := ⟨_, rfl⟩
            refine g_iinc (v := v42) (loc2 := [(6, .int v42), (8, .int (nI j29)), (7, .ref (F + k22)), (5, .int ((f_fi1 ω k22 v (nI j5) (((f_fi2 ω v j5).1), ((f_fi2 ω v j5).2.1), ((f_fi2 ω v j5).2.2)) j29).2.2)), (4, .int ((f_fi1 ω k22 v (nI j5) (((f_fi2 ω v j5).1), ((f_fi2 ω v j5).2.1), ((f_fi2 ω v j5).2.2)) j29).2.1)), (3, .int ((f_fi1 ω k22 v (nI j5) (((f_fi2 ω v j5).1), ((f_fi2 ω v j5).2.1), ((f_fi2 ω v j5).2.2)) j29).1)), (0, .ref (F + 0)), (1, .int v), (2, .int wh)]) h 2 dX7_find_111 rfl (by rw [hv42]; rfl) (by decide) rfl ?_
            refine g_goto (tgt := 32) h dX7_find_114 (by decide) ?_
            refine g_loc [0, 3, 4, 5, 6, 7, 8] rfl ?_
            have e43 : v42 = nI (j5 + 1) := by clear ih12 ih36; replace hv1 := hv1.symm; replace hv3 := hv3.symm; replace hv15 := hv15.symm; replace hv39 := hv39.symm; replace hv42 := hv42.symm; subst hv42 hv39 hv15 hv3 hv1; first | rfl | exact nI_1 _ | (rw [nI_succ])
            have e44 : (f_fi1 ω k22 v (nI j5) (((f_fi2 ω v j5).1), ((f_fi2 ω v j5).2.1), ((f_fi2 ω v j5).2.2)) j29).2.2 = (f_fi2 ω v (j5 + 1)).2.2 := by clear ih12 ih36; replace hv1 := hv1.symm; replace hv3 := hv3.symm; replace hv15 := hv15.symm; replace hv39 := hv39.symm; replace hv42 := hv42.symm; subst hv42 hv39 hv15 hv3 hv1; rw [hN41, fi2_p e23]
            have e45 : (f_fi1 ω k22 v (nI j5) (((f_fi2 ω v j5).1), ((f_fi2 ω v j5).2.1), ((f_fi2 ω v j5).2.2)) j29).2.1 = (f_fi2 ω v (j5 + 1)).2.1 := by clear ih12 ih36; replace hv1 := hv1.symm; replace hv3 := hv3.symm; replace hv15 := hv15.symm; replace hv39 := hv39.symm; replace hv42 := hv42.symm; subst hv42 hv39 hv15 hv3 hv1; rw [hN41, fi2_p e23]
            have e46 : (f_fi1 ω k22 v (nI j5) (((f_fi2 ω v j5).1), ((f_fi2 ω v j5).2.1), ((f_fi2 ω v j5).2.2)) j29).1 = (f_fi2 ω v (j5 + 1)).1 := by clear ih12 ih36; replace hv1 := hv1.symm; replace hv3 := hv3.symm; replace hv15 := hv15.symm; replace hv39 := hv39.symm; replace hv42 := hv42.symm; subst hv42 hv39 hv15 hv3 hv1; rw [hN41, fi2_p e23]
            exact g_lt rfl (lc_i e43 (lc_i e44 (lc_i e45 (lc_i e46 rfl)))) rfl (ih12 hlt21 iv38)
          · have hlt47 : j29 < ((ω k22 0).toNatClampNeg) := by clear ih12 ih36; replace hv1 := hv1.symm; replace hv3 := hv3.symm; replace hv15 := hv15.symm; replace hv39 := hv39.symm; subst hv39 hv15 hv3 hv1; exact lp_lt (Inv_6_0 hI hk22).1 c40 hj37
            refine g_aload h 1 dX7_find_76 rfl ?_
            refine g_iload h 0 dX7_find_78 rfl ?_
            refine k_VN_i (st := []) h hX (tX5_valueAt (xl X) G F ω iv38 k22 hk22 (nI j29)) rfl ⟨kd_lt hk22, ob_6 hk22⟩ rfl miX5_valueAt tw_503 (by decide) (by decide) rfl (Nat.le_of_ble_eq_true rfl) (by rw [hX]; exact Nat.zero_le _) (by rw [hX]; exact Nat.zero_le _) dX7_find_80 (fun v48 hv48 => ?_)
            refine g_iload_n h 7 dX7_find_83 rfl ?_
            refine g_icmp_eq (tgt := 90) h dX7_find_84 (by decide) (fun c49 => ?_) (fun c49 => ?_)
            · refine g_iload h 3 dX7_find_90 rfl ?_
              have hm102_55 : ∀ m53 : Int32, m53 = (if ((f_fi1 ω k22 v (nI j5) (((f_fi2 ω v j5).1), ((f_fi2 ω v j5).2.1), ((f_fi2 ω v j5).2.2)) j29).2.2) = 0 then nI j29 else (f_fi1 ω k22 v (nI j5) (((f_fi2 ω v j5).1), ((f_fi2 ω v j5).2.1), ((f_fi2 ω v j5).2.2)) j29).2.1) → ∀ m54 : Int32, m54 = (if ((f_fi1 ω k22 v (nI j5) (((f_fi2 ω v j5).1), ((f_fi2 ω v j5).2.1), ((f_fi2 ω v j5).2.2)) j29).2.2) = 0 then nI j5 else (f_fi1 ω k22 v (nI j5) (((f_fi2 ω v j5).1), ((f_fi2 ω v j5).2.1), ((f_fi2 ω v j5).2.2)) j29).1) → Vg X (MQ (xb X) (fQ G F (fP F G (some (.int (f_find ω v wh))) ω)) (xa X) (xs X) 0 0 (fA F)) G F 9 NC (cel F G ω) 0 0 102 [(4, .int m53), (3, .int m54), (8, .int (nI j29)), (7, .ref (F + k22)), (6, .int (nI j5)), (5, .int ((f_fi1 ω k22 v (nI j5) (((f_fi2 ω v j5).1), ((f_fi2 ω v j5).2.1), ((f_fi2 ω v j5).2.2)) j29).2.2)), (0, .ref (F + 0)), (1, .int v), (2, .int wh)] [] := by
                intro m53 hm53 m54 hm54
                obtain ⟨v56, hv56⟩ : ∃ z : Int32, z = ((f_fi1 ω k22 v (nI j5) (((f_fi2 ω v j5).1), ((f_fi2 ω v j5).2.1), ((f_fi2 ω v j5).2.2)) j29).2.2) + 1 := ⟨_, rfl⟩
                refine g_iinc (v := v56) (loc2 := [(5, .int v56), (4, .int m53), (3, .int m54), (8, .int (nI j29)), (7, .ref (F + k22)), (6, .int (nI j5)), (0, .ref (F + 0)), (1, .int v), (2, .int wh)]) h 5 dX7_find_102 rfl (by rw [hv56]; rfl) (by decide) rfl ?_
                obtain ⟨v57, hv57⟩ : ∃ z : Int32, z = (nI j29) + 1 := ⟨_, rfl⟩
                refine g_iinc (v := v57) (loc2 := [(8, .int v57), (5, .int v56), (4, .int m53), (3, .int m54), (7, .ref (F + k22)), (6, .int (nI j5)), (0, .ref (F + 0)), (1, .int v), (2, .int wh)]) h 3 dX7_find_105 rfl (by rw [hv57]; rfl) (by decide) rfl ?_
                refine g_goto (tgt := 66) h dX7_find_108 (by decide) ?_
                refine g_loc [0, 4, 5, 1, 2, 3, 6, 7, 8] rfl ?_
                have e58 : v57 = nI (j29 + 1) := by clear ih12 ih36; replace hv1 := hv1.symm; replace hv3 := hv3.symm; replace hv15 := hv15.symm; replace hv39 := hv39.symm; replace hv48 := hv48.symm; replace hm53 := hm53.symm; replace hm54 := hm54.symm; replace hv56 := hv56.symm; replace hv57 := hv57.symm; subst hv57 hv56 hm54 hm53 hv48 hv39 hv15 hv3 hv1; first | rfl | exact nI_1 _ | (rw [nI_succ])
                have e59 : v56 = (f_fi1 ω k22 v (nI j5) (((f_fi2 ω v j5).1), ((f_fi2 ω v j5).2.1), ((f_fi2 ω v j5).2.2)) (j29 + 1)).2.2 := by clear ih12 ih36; replace hv1 := hv1.symm; replace hv3 := hv3.symm; replace hv15 := hv15.symm; replace hv39 := hv39.symm; replace hv48 := hv48.symm; replace hm53 := hm53.symm; replace hm54 := hm54.symm; replace hv56 := hv56.symm; replace hv57 := hv57.symm; subst hv57 hv56 hm54 hm53 hv48 hv39 hv15 hv3 hv1; rw [fi1_p c49]
                have e60 : m53 = (f_fi1 ω k22 v (nI j5) (((f_fi2 ω v j5).1), ((f_fi2 ω v j5).2.1), ((f_fi2 ω v j5).2.2)) (j29 + 1)).2.1 := by clear ih12 ih36; replace hv1 := hv1.symm; replace hv3 := hv3.symm; replace hv15 := hv15.symm; replace hv39 := hv39.symm; replace hv48 := hv48.symm; replace hm53 := hm53.symm; replace hm54 := hm54.symm; replace hv56 := hv56.symm; replace hv57 := hv57.symm; subst hv57 hv56 hm54 hm53 hv48 hv39 hv15 hv3 hv1; rw [fi1_p c49]
                have e61 : m54 = (f_fi1 ω k22 v (nI j5) (((f_fi2 ω v j5).1), ((f_fi2 ω v j5).2.1), ((f_fi2 ω v j5).2.2)) (j29 + 1)).1 := by clear ih12 ih36; replace hv1 := hv1.symm; replace hv3 := hv3.symm; replace hv15 := hv15.symm; replace hv39 := hv39.symm; replace hv48 := hv48.symm; replace hm53 := hm53.symm; replace hm54 := hm54.symm; replace hv56 := hv56.symm; replace hv57 := hv57.symm; subst hv57 hv56 hm54 hm53 hv48 hv39 hv15 hv3 hv1; rw [fi1_p c49]
                exact g_lt rfl (lc_i e58 (lc_s (lc_s (lc_i e59 (lc_i e60 (lc_i e61 rfl)))))) rfl (ih36 hlt47 iv38)
              refine g_if_ne (tgt := 102) h dX7_find_92 (by decide) (fun c50 => ?_) (fun c50 => ?_)
              · refine g_loc [4, 5, 0, 1, 2, 3, 6, 7, 8] rfl ?_
                exact hm102_55 _ (by clear ih12 ih36; replace hv1 := hv1.symm; replace hv3 := hv3.symm; replace hv15 := hv15.symm; replace hv39 := hv39.symm; replace hv48 := hv48.symm; subst hv48 hv39 hv15 hv3 hv1; rw [if_neg c50]) _ (by clear ih12 ih36; replace hv1 := hv1.symm; replace hv3 := hv3.symm; replace hv15 := hv15.symm; replace hv39 := hv39.symm; replace hv48 := hv48.symm; subst hv48 hv39 hv15 hv3 hv1; rw [if_neg c50])
              · refine g_iload h 2 dX7_find_95 rfl ?_
                refine g_istore_n (loc2 := [(3, .int (nI j5)), (8, .int (nI j29)), (7, .ref (F + k22)), (6, .int (nI j5)), (5, .int ((f_fi1 ω k22 v (nI j5) (((f_fi2 ω v j5).1), ((f_fi2 ω v j5).2.1), ((f_fi2 ω v j5).2.2)) j29).2.2)), (4, .int ((f_fi1 ω k22 v (nI j5) (((f_fi2 ω v j5).1), ((f_fi2 ω v j5).2.1), ((f_fi2 ω v j5).2.2)) j29).2.1)), (0, .ref (F + 0)), (1, .int v), (2, .int wh)]) h dX7_find_97 (by decide) rfl ?_
                refine g_iload h 1 dX7_find_98 rfl ?_
                refine g_istore (loc2 := [(4, .int (nI j29)), (3, .int (nI j5)), (8, .int (nI j29)), (7, .ref (F + k22)), (6, .int (nI j5)), (5, .int ((f_fi1 ω k22 v (nI j5) (((f_fi2 ω v j5).1), ((f_fi2 ω v j5).2.1), ((f_fi2 ω v j5).2.2)) j29).2.2)), (0, .ref (F + 0)), (1, .int v), (2, .int wh)]) h dX7_find_100 (by decide) rfl ?_
                exact hm102_55 _ (by clear ih12 ih36; replace hv1 := hv1.symm; replace hv3 := hv3.symm; replace hv15 := hv15.symm; replace hv39 := hv39.symm; replace hv48 := hv48.symm; subst hv48 hv39 hv15 hv3 hv1; rw [if_pos c50]) _ (by clear ih12 ih36; replace hv1 := hv1.symm; replace hv3 := hv3.symm; replace hv15 := hv15.symm; replace hv39 := hv39.symm; replace hv48 := hv48.symm; subst hv48 hv39 hv15 hv3 hv1; rw [if_pos c50])
            · refine g_goto (tgt := 105) h dX7_find_87 (by decide) ?_
              obtain ⟨v62, hv62⟩ : ∃ z : Int32, z = (nI j29) + 1 := ⟨_, rfl⟩
              refine g_iinc (v := v62) (loc2 := [(8, .int v62), (7, .ref (F + k22)), (6, .int (nI j5)), (5, .int ((f_fi1 ω k22 v (nI j5) (((f_fi2 ω v j5).1), ((f_fi2 ω v j5).2.1), ((f_fi2 ω v j5).2.2)) j29).2.2)), (4, .int ((f_fi1 ω k22 v (nI j5) (((f_fi2 ω v j5).1), ((f_fi2 ω v j5).2.1), ((f_fi2 ω v j5).2.2)) j29).2.1)), (3, .int ((f_fi1 ω k22 v (nI j5) (((f_fi2 ω v j5).1), ((f_fi2 ω v j5).2.1), ((f_fi2 ω v j5).2.2)) j29).1)), (0, .ref (F + 0)), (1, .int v), (2, .int wh)]) h 0 dX7_find_105 rfl (by rw [hv62]; rfl) (by decide) rfl ?_
              refine g_goto (tgt := 66) h dX7_find_108 (by decide) ?_
              have e63 : v62 = nI (j29 + 1) := by clear ih12 ih36; replace hv1 := hv1.symm; replace hv3 := hv3.symm; replace hv15 := hv15.symm; replace hv39 := hv39.symm; replace hv48 := hv48.symm; replace hv62 := hv62.symm; subst hv62 hv48 hv39 hv15 hv3 hv1; first | rfl | exact nI_1 _ | (rw [nI_succ])
              have e64 : (f_fi1 ω k22 v (nI j5) (((f_fi2 ω v j5).1), ((f_fi2 ω v j5).2.1), ((f_fi2 ω v j5).2.2)) j29).2.2 = (f_fi1 ω k22 v (nI j5) (((f_fi2 ω v j5).1), ((f_fi2 ω v j5).2.1), ((f_fi2 ω v j5).2.2)) (j29 + 1)).2.2 := by clear ih12 ih36; replace hv1 := hv1.symm; replace hv3 := hv3.symm; replace hv15 := hv15.symm; replace hv39 := hv39.symm; replace hv48 := hv48.symm; replace hv62 := hv62.symm; subst hv62 hv48 hv39 hv15 hv3 hv1; rw [fi1_n c49]
              have e65 : (f_fi1 ω k22 v (nI j5) (((f_fi2 ω v j5).1), ((f_fi2 ω v j5).2.1), ((f_fi2 ω v j5).2.2)) j29).2.1 = (f_fi1 ω k22 v (nI j5) (((f_fi2 ω v j5).1), ((f_fi2 ω v j5).2.1), ((f_fi2 ω v j5).2.2)) (j29 + 1)).2.1 := by clear ih12 ih36; replace hv1 := hv1.symm; replace hv3 := hv3.symm; replace hv15 := hv15.symm; replace hv39 := hv39.symm; replace hv48 := hv48.symm; replace hv62 := hv62.symm; subst hv62 hv48 hv39 hv15 hv3 hv1; rw [fi1_n c49]
              have e66 : (f_fi1 ω k22 v (nI j5) (((f_fi2 ω v j5).1), ((f_fi2 ω v j5).2.1), ((f_fi2 ω v j5).2.2)) j29).1 = (f_fi1 ω k22 v (nI j5) (((f_fi2 ω v j5).1), ((f_fi2 ω v j5).2.1), ((f_fi2 ω v j5).2.2)) (j29 + 1)).1 := by clear ih12 ih36; replace hv1 := hv1.symm; replace hv3 := hv3.symm; replace hv15 := hv15.symm; replace hv39 := hv39.symm; replace hv48 := hv48.symm; replace hv62 := hv62.symm; subst hv62 hv48 hv39 hv15 hv3 hv1; rw [fi1_n c49]
              exact g_lt rfl (lc_i e63 (lc_s (lc_s (lc_i e64 (lc_i e65 (lc_i e66 rfl)))))) rfl (ih36 hlt47 iv38)
    · refine g_bipush (v := (-2)) h dX7_find_16 (by decide) ?_
      exact e_iret h hI dX7_find_18 (by replace hv1 := hv1.symm; replace hv3 := hv3.symm; subst hv3 hv1; unfold f_find; simp only [c2, c4, ↓reduceIte]) rfl
set_option maxHeartbeats 4000000 in
set_option maxRecDepth 100000 in
theorem tX7_bestPlace (l0 : Launch) (G : fG) (F : Nat) (ω : fOm) (hI : Inv ω) (l : Int32) (g : Int32) (s : Int32) (wh : Int32) : CT l0 G F yX7_bestPlace cX7_bestPlace 10 (some .int) 6 [.ref (F + 0), .int l, .int g, .int s, .int wh] ω (some (.int ((f_best ω l g s wh).1))) ((f_best ω l g s wh).2) := by
  refine ct_met (own := RX7) (by decide +kernel) rfl (Nat.le_of_ble_eq_true rfl) (fun X hXl hX h => ?_)
  subst hXl
  refine g_aload_n h 0 dX7_bestPlace_0 rfl ?_
  refine q_7_now h rfl tw_231 dX7_bestPlace_1 ?_
  refine g_iload_n h 1 dX7_bestPlace_4 rfl ?_
  refine k_VN_r (st := []) h hX (tX6_ringOf (xl X) G F ω hI 1 rfl l) rfl ⟨kd_lt rfl, ob_1 rfl⟩ rfl miX6_ringOf tw_513 (by decide) (by decide) rfl (Nat.le_of_ble_eq_true rfl) (by rw [hX]; exact Nat.zero_le _) (by rw [hX]; exact Nat.zero_le _) dX7_bestPlace_5 (fun e2 => ?_) (fun k1 e2 => ?_)
  · refine g_astoreN (loc2 := [(5, .null), (0, .ref (F + 0)), (1, .int l), (2, .int g), (3, .int s), (4, .int wh)]) h dX7_bestPlace_8 (by decide) rfl ?_
    refine g_aloadN h 0 dX7_bestPlace_10 rfl ?_
    refine g_ifnonnullN h dX7_bestPlace_12 ?_
    refine g_iconst (v := (-1)) h dX7_bestPlace_15 (by decide) ?_
    exact e_iret h hI dX7_bestPlace_16 (by skip; unfold f_best; simp only [e2, ↓reduceIte]) (by skip; unfold f_best; simp only [e2, ↓reduceIte])
  · have hk1 : kd k1 = 6 := ringOf_kd hI rfl e2
    refine g_astore (loc2 := [(5, .ref (F + k1)), (0, .ref (F + 0)), (1, .int l), (2, .int g), (3, .int s), (4, .int wh)]) h dX7_bestPlace_8 (by decide) rfl ?_
    refine g_aload h 0 dX7_bestPlace_10 rfl ?_
    refine g_ifnonnull (tgt := 17) h dX7_bestPlace_12 (by decide) ?_
    refine g_iconst (v := 0) h dX7_bestPlace_17 (by decide) ?_
    refine g_iload_n h 3 dX7_bestPlace_18 rfl ?_
    refine g_iload_n h 4 dX7_bestPlace_19 rfl ?_
    refine k_S_i (st := []) h hX (tX7_fits (xl X) G F ω hI 0 g s) rfl miX7_fits tw_586 (by decide) (by decide) rfl (Nat.le_of_ble_eq_true rfl) (by rw [hX]; exact Nat.zero_le _) (by rw [hX]; exact Nat.zero_le _) dX7_bestPlace_20 (fun v3 hv3 => ?_)
    refine g_if_eq (tgt := 36) h dX7_bestPlace_23 (by decide) (fun c4 => ?_) (fun c4 => ?_)
    · refine g_bipush (v := (-2)) h dX7_bestPlace_36 (by decide) ?_
      exact e_iret h hI dX7_bestPlace_38 (by replace hv3 := hv3.symm; subst hv3; unfold f_best; simp only [e2, c4, ↓reduceIte]) (by replace hv3 := hv3.symm; subst hv3; unfold f_best; simp only [e2, c4, ↓reduceIte])
    · refine g_iload h 5 dX7_bestPlace_26 rfl ?_
      refine g_iconst (v := 0) h dX7_bestPlace_28 (by decide) ?_
      refine g_iconst (v := 1) h dX7_bestPlace_29 (by decide) ?_
      refine k_S_i (st := []) h hX (tX7_isBetween (xl X) G F ω hI wh 0 1) rfl miX7_isBetween tw_333 (by decide) (by decide) rfl (Nat.le_of_ble_eq_true rfl) (by rw [hX]; exact Nat.zero_le _) (by rw [hX]; exact Nat.zero_le _) dX7_bestPlace_30 (fun v5 hv5 => ?_)
      refine g_if_ne (tgt := 39) h dX7_bestPlace_33 (by decide) (fun c6 => ?_) (fun c6 => ?_)
      · refine g_aload_n h 1 dX7_bestPlace_39 rfl ?_
        refine q_7_now h rfl tw_231 dX7_bestPlace_40 ?_
        refine qN_6_deviceCount h rfl tw_153 dX7_bestPlace_43 (fun v7 hv7 => ?_)
        refine g_bipush (v := 12) h dX7_bestPlace_46 (by decide) ?_
        refine g_icmp_lt (tgt := 54) h dX7_bestPlace_48 (by decide) (fun c8 => ?_) (fun c8 => ?_)
        · refine g_iconst (v := 0) h dX7_bestPlace_54 (by decide) ?_
          refine g_istore (loc2 := [(6, .int 0), (5, .ref (F + k1)), (0, .ref (F + 0)), (1, .int l), (2, .int g), (3, .int s), (4, .int wh)]) h dX7_bestPlace_55 (by decide) rfl ?_
          refine g_iconst (v := (-1)) h dX7_bestPlace_57 (by decide) ?_
          refine g_istore (loc2 := [(7, .int (-1)), (6, .int 0), (5, .ref (F + k1)), (0, .ref (F + 0)), (1, .int l), (2, .int g), (3, .int s), (4, .int wh)]) h dX7_bestPlace_58 (by decide) rfl ?_
          refine g_iconst (v := 0) h dX7_bestPlace_60 (by decide) ?_
          refine g_istore (loc2 := [(8, .int 0), (7, .int (-1)), (6, .int 0), (5, .ref (F + k1)), (0, .ref (F + 0)), (1, .int l), (2, .int g), (3, .int s), (4, .int wh)]) h dX7_bestPlace_61 (by decide) rfl ?_
          have e10 : 0 = nI 0 := by replace hv3 := hv3.symm; replace hv5 := hv5.symm; replace hv7 := hv7.symm; subst hv7 hv5 hv3; first | rfl | exact nI_0.symm | exact nI_0 | decide
          have e11 : (-1) = (f_bp l g s ω 0).2.1 := by replace hv3 := hv3.symm; replace hv5 := hv5.symm; replace hv7 := hv7.symm; subst hv7 hv5 hv3; first | rfl | exact nI_0.symm | exact nI_0 | decide
          have e12 : 0 = (f_bp l g s ω 0).1 := by replace hv3 := hv3.symm; replace hv5 := hv5.symm; replace hv7 := hv7.symm; subst hv7 hv5 hv3; first | rfl | exact nI_0.symm | exact nI_0 | decide
          have e13 : ω = (f_bp l g s ω 0).2.2 := rfl
          refine g_lt (ω2 := (f_bp l g s ω 0).2.2) (loc2 := [(8, .int (nI 0)), (7, .int ((f_bp l g s ω 0).2.1)), (6, .int ((f_bp l g s ω 0).1)), (5, .ref (F + k1)), (0, .ref (F + 0)), (1, .int l), (2, .int g), (3, .int s), (4, .int wh)]) e13 (lc_i e10 (lc_i e11 (lc_i e12 rfl))) rfl ?_
          refine g_loop3 (hd := 63) ((ω k1 0).toNatClampNeg) (fun j9 => Inv ((f_bp l g s ω j9).2.2)) (fun j9 => [(8, .int (nI j9)), (7, .int ((f_bp l g s ω j9).2.1)), (6, .int ((f_bp l g s ω j9).1)), (5, .ref (F + k1)), (0, .ref (F + 0)), (1, .int l), (2, .int g), (3, .int s), (4, .int wh)]) (fun j9 => cel F G ((f_bp l g s ω j9).2.2)) (e13 ▸ hI) (fun j9 hj16 hP14 ih15 => ?_)
          (try dsimp only)
          have iv17 := hP14
          refine g_iload h 0 dX7_bestPlace_63 rfl ?_
          refine g_aload h 3 dX7_bestPlace_65 rfl ?_
          refine qN_5_places h hk1 tw_49 dX7_bestPlace_67 (fun v18 hv18 => ?_)
          refine g_icmp_ge (tgt := 138) h dX7_bestPlace_70 (by decide) (fun c19 => ?_) (fun c19 => ?_)
          · have hN20 : j9 = ((ω k1 0).toNatClampNeg) := by clear ih15; replace hv3 := hv3.symm; replace hv5 := hv5.symm; replace hv7 := hv7.symm; replace hv18 := hv18.symm; subst hv18 hv7 hv5 hv3; rw [bp_k (cB_of hI rfl) j9 e2] at c19; exact lp_ge (Inv_6_0 hI hk1).1 c19 hj16
            refine g_iload h 8 dX7_bestPlace_138 rfl ?_
            refine g_if_ne (tgt := 148) h dX7_bestPlace_140 (by decide) (fun c21 => ?_) (fun c21 => ?_)
            · refine g_iload h 1 dX7_bestPlace_148 rfl ?_
              exact e_iret h iv17 dX7_bestPlace_150 (by clear ih15; replace hv3 := hv3.symm; replace hv5 := hv5.symm; replace hv7 := hv7.symm; replace hv18 := hv18.symm; subst hv18 hv7 hv5 hv3; unfold f_best; rw [e2]; dsimp only; rw [← hN20]; simp only [e2, if_neg c4, if_neg c6, if_pos c8, if_pos c19, if_neg c21]) (by clear ih15; replace hv3 := hv3.symm; replace hv5 := hv5.symm; replace hv7 := hv7.symm; replace hv18 := hv18.symm; subst hv18 hv7 hv5 hv3; unfold f_best; rw [e2]; dsimp only; rw [← hN20]; simp only [e2, if_neg c4, if_neg c6, if_pos c8, if_pos c19, if_neg c21])
            · refine g_iload h 2 dX7_bestPlace_143 rfl ?_
              refine g_goto (tgt := 150) h dX7_bestPlace_145 (by decide) ?_
              exact e_iret h iv17 dX7_bestPlace_150 (by clear ih15; replace hv3 := hv3.symm; replace hv5 := hv5.symm; replace hv7 := hv7.symm; replace hv18 := hv18.symm; subst hv18 hv7 hv5 hv3; unfold f_best; rw [e2]; dsimp only; rw [← hN20]; simp only [e2, if_neg c4, if_neg c6, if_pos c8, if_pos c19, if_pos c21]) (by clear ih15; replace hv3 := hv3.symm; replace hv5 := hv5.symm; replace hv7 := hv7.symm; replace hv18 := hv18.symm; subst hv18 hv7 hv5 hv3; unfold f_best; rw [e2]; dsimp only; rw [← hN20]; simp only [e2, if_neg c4, if_neg c6, if_pos c8, if_pos c19, if_pos c21])
          · have hlt22 : j9 < ((ω k1 0).toNatClampNeg) := by clear ih15; replace hv3 := hv3.symm; replace hv5 := hv5.symm; replace hv7 := hv7.symm; replace hv18 := hv18.symm; subst hv18 hv7 hv5 hv3; rw [bp_k (cB_of hI rfl) j9 e2] at c19; exact lp_lt (Inv_6_0 hI hk1).1 c19 hj16
            refine g_aload_n h 4 dX7_bestPlace_73 rfl ?_
            refine q_7_trial h rfl tw_232 dX7_bestPlace_74 ?_
            refine g_aload_n h 4 dX7_bestPlace_77 rfl ?_
            refine q_7_now h rfl tw_231 dX7_bestPlace_78 ?_
            refine k_VN_v (st := []) h hX (tX6_copyFrom (xl X) G F ((f_bp l g s ω j9).2.2) iv17 59 rfl 1 rfl) rfl ⟨kd_lt rfl, ob_1 rfl⟩ rfl miX6_copyFrom tw_568 (by decide) (by decide) rfl (Nat.le_of_ble_eq_true rfl) (by rw [hX]; exact Nat.zero_le _) (by rw [hX]; exact Nat.zero_le _) dX7_bestPlace_81 (fun w23 hw23 iw23 => ?_)
            refine g_aload_n h 4 dX7_bestPlace_84 rfl ?_
            refine q_7_trial h rfl tw_232 dX7_bestPlace_85 ?_
            refine g_iload_n h 5 dX7_bestPlace_88 rfl ?_
            refine g_iload h 0 dX7_bestPlace_89 rfl ?_
            refine g_iconst (v := 0) h dX7_bestPlace_91 (by decide) ?_
            refine g_iload_n h 6 dX7_bestPlace_92 rfl ?_
            refine g_iload_n h 7 dX7_bestPlace_93 rfl ?_
            refine k_VN_j (st := []) h hX (tX6_addDevice (xl X) G F w23 iw23 59 rfl l (nI j9) 0 g s) rfl ⟨kd_lt rfl, ob_1 rfl⟩ rfl miX6_addDevice tw_314 (by decide) (by decide) rfl (Nat.le_of_ble_eq_true rfl) (by rw [hX]; exact Nat.zero_le _) (by rw [hX]; exact Nat.zero_le _) dX7_bestPlace_94 (fun v24 w25 hv24 hw25 iw25 => ?_)
            refine g_pop h dX7_bestPlace_97 rfl ?_
            refine g_aload_n h 4 dX7_bestPlace_98 rfl ?_
            refine q_7_trial h rfl tw_232 dX7_bestPlace_99 ?_
            refine g_bipush (v := 100) h dX7_bestPlace_102 (by decide) ?_
            refine k_VN_j (st := []) h hX (tX6_passTicks (xl X) G F w25 iw25 59 rfl 100) rfl ⟨kd_lt rfl, ob_1 rfl⟩ rfl miX6_passTicks tw_411 (by decide) (by decide) rfl (Nat.le_of_ble_eq_true rfl) (by rw [hX]; exact Nat.zero_le _) (by rw [hX]; exact Nat.zero_le _) dX7_bestPlace_104 (fun v26 w27 hv26 hw27 iw27 => ?_)
            refine g_pop h dX7_bestPlace_107 rfl ?_
            refine g_aload_n h 4 dX7_bestPlace_108 rfl ?_
            refine q_7_trial h rfl tw_232 dX7_bestPlace_109 ?_
            refine k_VN_i (st := []) h hX (tX6_flashesInAll (xl X) G F w27 iw27 59 rfl) rfl ⟨kd_lt rfl, ob_1 rfl⟩ rfl miX6_flashesInAll tw_554 (by decide) (by decide) rfl (Nat.le_of_ble_eq_true rfl) (by rw [hX]; exact Nat.zero_le _) (by rw [hX]; exact Nat.zero_le _) dX7_bestPlace_112 (fun v28 hv28 => ?_)
            refine g_istore (loc2 := [(9, .int v28), (8, .int (nI j9)), (7, .int ((f_bp l g s ω j9).2.1)), (6, .int ((f_bp l g s ω j9).1)), (5, .ref (F + k1)), (0, .ref (F + 0)), (1, .int l), (2, .int g), (3, .int s), (4, .int wh)]) h dX7_bestPlace_115 (by decide) rfl ?_
            refine g_iload h 0 dX7_bestPlace_117 rfl ?_
            refine g_iload h 2 dX7_bestPlace_119 rfl ?_
            have hm132_34 : ∀ m32 : Int32, m32 = (if v28 ≤ ((f_bp l g s ω j9).2.1) then (f_bp l g s ω j9).2.1 else v28) → ∀ m33 : Int32, m33 = (if v28 ≤ ((f_bp l g s ω j9).2.1) then (f_bp l g s ω j9).1 else nI j9) → Vg X (MQ (xb X) (fQ G F (fP F G (some (.int ((f_best ω l g s wh).1))) ((f_best ω l g s wh).2))) (xa X) (xs X) 0 0 (fA F)) G F 10 NC (cel F G w27) 0 0 132 [(9, .int v28), (8, .int (nI j9)), (7, .int m32), (6, .int m33), (5, .ref (F + k1)), (0, .ref (F + 0)), (1, .int l), (2, .int g), (3, .int s), (4, .int wh)] [] := by
              intro m32 hm32 m33 hm33
              obtain ⟨v35, hv35⟩ : ∃ z : Int32, z = (nI j9) + 1 := ⟨_, rfl⟩
              refine g_iinc (v := v35) (loc2 := [(8, .int v35), (9, .int v28), (7, .int m32), (6, .int m33), (5, .ref (F + k1)), (0, .ref (F + 0)), (1, .int l), (2, .int g), (3, .int s), (4, .int wh)]) h 1 dX7_bestPlace_132 rfl (by rw [hv35]; rfl) (by decide) rfl ?_
              refine g_goto (tgt := 63) h dX7_bestPlace_135 (by decide) ?_
              refine g_loc [0, 2, 3, 4, 5, 6, 7, 8, 9] rfl ?_
              have e36 : v35 = nI (j9 + 1) := by clear ih15 iw23 iw25 iw27; replace hv3 := hv3.symm; replace hv5 := hv5.symm; replace hv7 := hv7.symm; replace hv18 := hv18.symm; replace hw23 := hw23.symm; replace hv24 := hv24.symm; replace hw25 := hw25.symm; replace hv26 := hv26.symm; replace hw27 := hw27.symm; replace hv28 := hv28.symm; replace hm32 := hm32.symm; replace hm33 := hm33.symm; replace hv35 := hv35.symm; subst hv35 hm33 hm32 hv28 hw27 hv26 hw25 hv24 hw23 hv18 hv7 hv5 hv3; first | rfl | exact nI_1 _ | (rw [nI_succ])
              have e37 : m32 = (f_bp l g s ω (j9 + 1)).2.1 := by clear ih15 iw23 iw25 iw27; replace hv3 := hv3.symm; replace hv5 := hv5.symm; replace hv7 := hv7.symm; replace hv18 := hv18.symm; replace hw23 := hw23.symm; replace hv24 := hv24.symm; replace hw25 := hw25.symm; replace hv26 := hv26.symm; replace hw27 := hw27.symm; replace hv28 := hv28.symm; replace hm32 := hm32.symm; replace hm33 := hm33.symm; replace hv35 := hv35.symm; subst hv35 hm33 hm32 hv28 hw27 hv26 hw25 hv24 hw23 hv18 hv7 hv5 hv3; rfl
              have e38 : m33 = (f_bp l g s ω (j9 + 1)).1 := by clear ih15 iw23 iw25 iw27; replace hv3 := hv3.symm; replace hv5 := hv5.symm; replace hv7 := hv7.symm; replace hv18 := hv18.symm; replace hw23 := hw23.symm; replace hv24 := hv24.symm; replace hw25 := hw25.symm; replace hv26 := hv26.symm; replace hw27 := hw27.symm; replace hv28 := hv28.symm; replace hm32 := hm32.symm; replace hm33 := hm33.symm; replace hv35 := hv35.symm; subst hv35 hm33 hm32 hv28 hw27 hv26 hw25 hv24 hw23 hv18 hv7 hv5 hv3; rfl
              have e39 : w27 = (f_bp l g s ω (j9 + 1)).2.2 := by clear ih15 iw23 iw25 iw27; replace hv3 := hv3.symm; replace hv5 := hv5.symm; replace hv7 := hv7.symm; replace hv18 := hv18.symm; replace hw23 := hw23.symm; replace hv24 := hv24.symm; replace hw25 := hw25.symm; replace hv26 := hv26.symm; replace hw27 := hw27.symm; replace hv28 := hv28.symm; replace hm32 := hm32.symm; replace hm33 := hm33.symm; replace hv35 := hv35.symm; subst hv35 hm33 hm32 hv28 hw27 hv26 hw25 hv24 hw23 hv18 hv7 hv5 hv3; rfl
              exact g_lt e39 (lc_i e36 (lc_i e37 (lc_i e38 rfl))) rfl (ih15 hlt22 (e39 ▸ iw27))
            refine g_icmp_le (tgt := 132) h dX7_bestPlace_121 (by decide) (fun c29 => ?_) (fun c29 => ?_)
            · exact hm132_34 _ (by clear ih15 iw23 iw25 iw27; replace hv3 := hv3.symm; replace hv5 := hv5.symm; replace hv7 := hv7.symm; replace hv18 := hv18.symm; replace hw23 := hw23.symm; replace hv24 := hv24.symm; replace hw25 := hw25.symm; replace hv26 := hv26.symm; replace hw27 := hw27.symm; replace hv28 := hv28.symm; subst hv28 hw27 hv26 hw25 hv24 hw23 hv18 hv7 hv5 hv3; rw [if_pos c29]) _ (by clear ih15 iw23 iw25 iw27; replace hv3 := hv3.symm; replace hv5 := hv5.symm; replace hv7 := hv7.symm; replace hv18 := hv18.symm; replace hw23 := hw23.symm; replace hv24 := hv24.symm; replace hw25 := hw25.symm; replace hv26 := hv26.symm; replace hw27 := hw27.symm; replace hv28 := hv28.symm; subst hv28 hw27 hv26 hw25 hv24 hw23 hv18 hv7 hv5 hv3; rw [if_pos c29])
            · refine g_iload h 0 dX7_bestPlace_124 rfl ?_
              refine g_istore (loc2 := [(7, .int v28), (9, .int v28), (8, .int (nI j9)), (6, .int ((f_bp l g s ω j9).1)), (5, .ref (F + k1)), (0, .ref (F + 0)), (1, .int l), (2, .int g), (3, .int s), (4, .int wh)]) h dX7_bestPlace_126 (by decide) rfl ?_
              refine g_iload h 2 dX7_bestPlace_128 rfl ?_
              refine g_istore (loc2 := [(6, .int (nI j9)), (7, .int v28), (9, .int v28), (8, .int (nI j9)), (5, .ref (F + k1)), (0, .ref (F + 0)), (1, .int l), (2, .int g), (3, .int s), (4, .int wh)]) h dX7_bestPlace_130 (by decide) rfl ?_
              refine g_loc [2, 3, 1, 0, 4, 5, 6, 7, 8, 9] rfl ?_
              exact hm132_34 _ (by clear ih15 iw23 iw25 iw27; replace hv3 := hv3.symm; replace hv5 := hv5.symm; replace hv7 := hv7.symm; replace hv18 := hv18.symm; replace hw23 := hw23.symm; replace hv24 := hv24.symm; replace hw25 := hw25.symm; replace hv26 := hv26.symm; replace hw27 := hw27.symm; replace hv28 := hv28.symm; subst hv28 hw27 hv26 hw25 hv24 hw23 hv18 hv7 hv5 hv3; rw [if_neg c29]) _ (by clear ih15 iw23 iw25 iw27; replace hv3 := hv3.symm; replace hv5 := hv5.symm; replace hv7 := hv7.symm; replace hv18 := hv18.symm; replace hw23 := hw23.symm; replace hv24 := hv24.symm; replace hw25 := hw25.symm; replace hv26 := hv26.symm; replace hw27 := hw27.symm; replace hv28 := hv28.symm; subst hv28 hw27 hv26 hw25 hv24 hw23 hv18 hv7 hv5 hv3; rw [if_neg c29])
        · refine g_bipush (v := (-4)) h dX7_bestPlace_51 (by decide) ?_
          exact e_iret h hI dX7_bestPlace_53 (by replace hv3 := hv3.symm; replace hv5 := hv5.symm; replace hv7 := hv7.symm; subst hv7 hv5 hv3; unfold f_best; simp only [e2, c4, c6, c8, ↓reduceIte]) (by replace hv3 := hv3.symm; replace hv5 := hv5.symm; replace hv7 := hv7.symm; subst hv7 hv5 hv3; unfold f_best; simp only [e2, c4, c6, c8, ↓reduceIte])
      · refine g_bipush (v := (-2)) h dX7_bestPlace_36 (by decide) ?_
        exact e_iret h hI dX7_bestPlace_38 (by replace hv3 := hv3.symm; replace hv5 := hv5.symm; subst hv5 hv3; unfold f_best; simp only [e2, c4, c6, ↓reduceIte]) (by replace hv3 := hv3.symm; replace hv5 := hv5.symm; subst hv5 hv3; unfold f_best; simp only [e2, c4, c6, ↓reduceIte])
set_option maxHeartbeats 4000000 in
set_option maxRecDepth 100000 in
theorem tX7_bearable (l0 : Launch) (G : fG) (F : Nat) (ω : fOm) (hI : Inv ω) : CT l0 G F yX7_bearable cX7_bearable 2 (some .int) 6 [.ref (F + 0)] ω (some (.int ((f_be ω).1))) ((f_be ω).2) := by
  refine ct_met (own := RX7) (by decide +kernel) rfl (Nat.le_of_ble_eq_true rfl) (fun X hXl hX h => ?_)
  subst hXl
  refine g_gets (j := 1) h (by decide) rfl tw_591 dX7_bearable_0 ?_
  refine g_iconst (v := 0) h dX7_bearable_3 (by decide) ?_
  refine g_sald (j := 1) h (by decide) (vp_n (j := 0) (Nat.le_of_ble_eq_true rfl) (Nat.le_of_ble_eq_true rfl)) dX7_bearable_4 (g_name fun v1 hv1 => ?_)
  refine g_istore_n (loc2 := [(1, .int v1), (0, .ref (F + 0))]) h dX7_bearable_5 (by decide) rfl ?_
  have e3 : v1 = 50 - nI 0 := by replace hv1 := hv1.symm; subst hv1; decide
  have e4 : ω = f_beI ω 0 := rfl
  refine g_lt (ω2 := f_beI ω 0) (loc2 := [(1, .int (50 - nI 0)), (0, .ref (F + 0))]) e4 (lc_i e3 rfl) rfl ?_
  refine g_loop3 (hd := 6) (51) (fun j2 => Inv (f_beI ω j2) ∧ f_be ω = f_beF (51 - j2) j2 (f_beI ω j2)) (fun j2 => [(1, .int (50 - nI j2)), (0, .ref (F + 0))]) (fun j2 => cel F G (f_beI ω j2)) ⟨(e4 ▸ hI), rfl⟩ (fun j2 hj7 hP5 ih6 => ?_)
  (try dsimp only)
  obtain ⟨iv8, hP1⟩ := hP5
  refine g_iload_n h 0 dX7_bearable_6 rfl ?_
  refine g_gets (j := 0) h (by decide) rfl tw_592 dX7_bearable_7 ?_
  refine g_iconst (v := 0) h dX7_bearable_10 (by decide) ?_
  refine g_sald (j := 0) h (by decide) (vp_n (j := 0) (Nat.le_of_ble_eq_true rfl) (Nat.le_of_ble_eq_true rfl)) dX7_bearable_11 (g_name fun v9 hv9 => ?_)
  refine g_icmp_lt (tgt := 58) h dX7_bearable_12 (by decide) (fun c10 => ?_) (fun c10 => ?_)
  · have hN11 : j2 = 51 := by clear ih6; replace hv1 := hv1.symm; replace hv9 := hv9.symm; subst hv9 hv1; exact sb_ge _ hj7 c10
    refine g_bipush (v := (-6)) h dX7_bearable_58 (by decide) ?_
    exact e_iret h iv8 dX7_bearable_60 (by clear ih6; replace hv1 := hv1.symm; replace hv9 := hv9.symm; subst hv9 hv1; exact (be_a hP1 hN11).1) (by clear ih6; replace hv1 := hv1.symm; replace hv9 := hv9.symm; subst hv9 hv1; exact (be_a hP1 hN11).2)
  · have hlt12 : j2 < 51 := by clear ih6; replace hv1 := hv1.symm; replace hv9 := hv9.symm; subst hv9 hv1; exact sb_lt _ hj7 c10
    refine g_aload_n h 1 dX7_bearable_15 rfl ?_
    refine q_7_trial h rfl tw_232 dX7_bearable_16 ?_
    refine g_aload_n h 1 dX7_bearable_19 rfl ?_
    refine q_7_now h rfl tw_231 dX7_bearable_20 ?_
    refine k_VN_v (st := []) h hX (tX6_copyFrom (xl X) G F (f_beI ω j2) iv8 59 rfl 1 rfl) rfl ⟨kd_lt rfl, ob_1 rfl⟩ rfl miX6_copyFrom tw_568 (by decide) (by decide) rfl (Nat.le_of_ble_eq_true rfl) (by rw [hX]; exact Nat.zero_le _) (by rw [hX]; exact Nat.zero_le _) dX7_bearable_23 (fun w13 hw13 iw13 => ?_)
    refine g_aload_n h 1 dX7_bearable_26 rfl ?_
    refine q_7_trial h rfl tw_232 dX7_bearable_27 ?_
    refine g_iconst (v := 0) h dX7_bearable_30 (by decide) ?_
    refine g_iload_n h 0 dX7_bearable_31 rfl ?_
    refine k_VN_j (st := []) h hX (tX6_changeSetting (xl X) G F w13 iw13 59 rfl 0 (50 - nI j2)) rfl ⟨kd_lt rfl, ob_1 rfl⟩ rfl miX6_changeSetting tw_279 (by decide) (by decide) rfl (Nat.le_of_ble_eq_true rfl) (by rw [hX]; exact Nat.zero_le _) (by rw [hX]; exact Nat.zero_le _) dX7_bearable_32 (fun v14 w15 hv14 hw15 iw15 => ?_)
    refine g_pop h dX7_bearable_35 rfl ?_
    refine g_aload_n h 1 dX7_bearable_36 rfl ?_
    refine q_7_trial h rfl tw_232 dX7_bearable_37 ?_
    refine g_bipush (v := 100) h dX7_bearable_40 (by decide) ?_
    refine k_VN_j (st := []) h hX (tX6_ticksToLoss (xl X) G F w15 iw15 59 rfl 100 (by decide)) rfl ⟨kd_lt rfl, ob_1 rfl⟩ rfl miX6_ticksToLoss tw_577 (by decide) (by decide) rfl (Nat.le_of_ble_eq_true rfl) (by rw [hX]; exact Nat.zero_le _) (by rw [hX]; exact Nat.zero_le _) dX7_bearable_42 (fun v16 w17 hv16 hw17 iw17 => ?_)
    refine g_bipush (v := (-6)) h dX7_bearable_45 (by decide) ?_
    refine g_icmp_ne (tgt := 52) h dX7_bearable_47 (by decide) (fun c18 => ?_) (fun c18 => ?_)
    · obtain ⟨v19, hv19⟩ : ∃ z : Int32, z = (50 - nI j2) + (-1) := ⟨_, rfl⟩
      refine g_iinc (v := v19) (loc2 := [(1, .int v19), (0, .ref (F + 0))]) h 0 dX7_bearable_52 rfl (by rw [hv19]; rfl) (by decide) rfl ?_
      refine g_goto (tgt := 6) h dX7_bearable_55 (by decide) ?_
      have e20 : v19 = 50 - nI (j2 + 1) := by clear ih6 iw13 iw15 iw17; replace hv1 := hv1.symm; replace hv9 := hv9.symm; replace hw13 := hw13.symm; replace hv14 := hv14.symm; replace hw15 := hw15.symm; replace hv16 := hv16.symm; replace hw17 := hw17.symm; replace hv19 := hv19.symm; subst hv19 hw17 hv16 hw15 hv14 hw13 hv9 hv1; exact sb_n _ hlt12
      have e21 : w17 = f_beI ω (j2 + 1) := by clear ih6 iw13 iw15 iw17; replace hv1 := hv1.symm; replace hv9 := hv9.symm; replace hw13 := hw13.symm; replace hv14 := hv14.symm; replace hw15 := hw15.symm; replace hv16 := hv16.symm; replace hw17 := hw17.symm; replace hv19 := hv19.symm; subst hv19 hw17 hv16 hw15 hv14 hw13 hv9 hv1; rfl
      exact g_lt e21 (lc_i e20 rfl) rfl (ih6 hlt12 ⟨(e21 ▸ iw17), (by clear ih6 iw13 iw15 iw17; replace hv1 := hv1.symm; replace hv9 := hv9.symm; replace hw13 := hw13.symm; replace hv14 := hv14.symm; replace hw15 := hw15.symm; replace hv16 := hv16.symm; replace hw17 := hw17.symm; replace hv19 := hv19.symm; subst hv19 hw17 hv16 hw15 hv14 hw13 hv9 hv1; exact be_c hP1 hlt12 c18)⟩)
    · refine g_iload_n h 0 dX7_bearable_50 rfl ?_
      exact e_iret h iw17 dX7_bearable_51 (by clear ih6 iw13 iw15 iw17; replace hv1 := hv1.symm; replace hv9 := hv9.symm; replace hw13 := hw13.symm; replace hv14 := hv14.symm; replace hw15 := hw15.symm; replace hv16 := hv16.symm; replace hw17 := hw17.symm; subst hw17 hv16 hw15 hv14 hw13 hv9 hv1; exact (be_b hP1 hlt12 c18).1) (by clear ih6 iw13 iw15 iw17; replace hv1 := hv1.symm; replace hv9 := hv9.symm; replace hw13 := hw13.symm; replace hv14 := hv14.symm; replace hw15 := hw15.symm; replace hv16 := hv16.symm; replace hw17 := hw17.symm; subst hw17 hv16 hw15 hv14 hw13 hv9 hv1; exact (be_b hP1 hlt12 c18).2)
set_option maxHeartbeats 4000000 in
set_option maxRecDepth 100000 in
theorem tX7_signsIn (l0 : Launch) (G : fG) (F : Nat) (ω : fOm) (hI : Inv ω) (cc : Int64) : CT l0 G F yX7_signsIn cX7_signsIn 3 (some .int) 1 [.long cc] ω (some (.int (f_signs cc))) ω := by
  refine ct_met (own := RX7) (by decide +kernel) rfl (Nat.le_of_ble_eq_true rfl) (fun X hXl hX h => ?_)
  subst hXl
  refine g_iconst (v := 0) h dX7_signsIn_0 (by decide) ?_
  refine g_istore_n (loc2 := [(2, .int 0), (0, .long cc)]) h dX7_signsIn_1 (by decide) rfl ?_
  have e2 : 0 = nI 0 := by skip; first | rfl | exact nI_0.symm | exact nI_0 | decide
  refine g_lt (ω2 := ω) (loc2 := [(2, .int (nI 0)), (0, .long cc)]) rfl (lc_i e2 rfl) rfl ?_
  refine g_loop3 (hd := 2) (8) (fun j1 => Inv ω ∧ f_si cc = f_siF cc (8 - j1) j1) (fun j1 => [(2, .int (nI j1)), (0, .long cc)]) (fun j1 => cel F G ω) ⟨hI, rfl⟩ (fun j1 hj6 hP4 ih5 => ?_)
  (try dsimp only)
  obtain ⟨iv7, hP1⟩ := hP4
  refine g_iload_n h 0 dX7_signsIn_2 rfl ?_
  refine g_bipush (v := 8) h dX7_signsIn_3 (by decide) ?_
  refine g_icmp_ge (tgt := 29) h dX7_signsIn_5 (by decide) (fun c8 => ?_) (fun c8 => ?_)
  · have hN9 : j1 = 8 := lpc_ge (x := 8) (M := 8) rfl (by decide) c8 hj6
    refine g_iload_n h 0 dX7_signsIn_29 rfl ?_
    refine g_bipush (v := 8) h dX7_signsIn_30 (by decide) ?_
    refine g_icmp_ge (tgt := 48) h dX7_signsIn_32 (by decide) (fun c10 => ?_) (fun c10 => ?_)
    · refine g_iload_n h 0 dX7_signsIn_48 rfl ?_
      exact e_iret h iv7 dX7_signsIn_49 (by clear ih5; skip; first | contradiction | (unfold f_signs; rw [si_a hP1 hN9]; simp only [c8, c10, ↓reduceIte])) rfl
    · refine g_lload_n h 1 dX7_signsIn_35 rfl ?_
      refine g_bipush (v := 8) h dX7_signsIn_36 (by decide) ?_
      refine g_iload_n h 0 dX7_signsIn_38 rfl ?_
      refine g_imul h dX7_signsIn_39 (g_name fun v11 hv11 => ?_)
      refine g_lushr h dX7_signsIn_40 rfl (g_nameL fun v12 hv12 => ?_)
      refine g_lconst (v := 0) h dX7_signsIn_41 rfl ?_
      refine g_lcmp h dX7_signsIn_42 (g_name fun v13 hv13 => ?_)
      refine g_if_eq (tgt := 48) h dX7_signsIn_43 (by decide) (fun c14 => ?_) (fun c14 => ?_)
      · refine g_iload_n h 0 dX7_signsIn_48 rfl ?_
        exact e_iret h iv7 dX7_signsIn_49 (by clear ih5; replace hv11 := hv11.symm; replace hv12 := hv12.symm; replace hv13 := hv13.symm; subst hv13 hv12 hv11; first | contradiction | (unfold f_signs; rw [si_a hP1 hN9]; simp only [c8, c10, c14, ↓reduceIte])) rfl
      · refine g_iconst (v := 0) h dX7_signsIn_46 (by decide) ?_
        exact e_iret h iv7 dX7_signsIn_47 (by clear ih5; replace hv11 := hv11.symm; replace hv12 := hv12.symm; replace hv13 := hv13.symm; subst hv13 hv12 hv11; first | contradiction | (unfold f_signs; rw [si_a hP1 hN9]; simp only [c8, c10, c14, ↓reduceIte])) rfl
  · have hlt15 : j1 < 8 := lpc_lt (x := 8) (M := 8) rfl (by decide) c8 hj6
    refine g_lload_n h 1 dX7_signsIn_8 rfl ?_
    refine g_iload_n h 0 dX7_signsIn_9 rfl ?_
    refine k_S_i (st := []) h hX (tX7_signIn (xl X) G F ω iv7 cc (nI j1)) rfl miX7_signIn tw_600 (by decide) (by decide) rfl (Nat.le_of_ble_eq_true rfl) (by rw [hX]; exact Nat.zero_le _) (by rw [hX]; exact Nat.zero_le _) dX7_signsIn_10 (fun v16 hv16 => ?_)
    refine g_bipush (v := 33) h dX7_signsIn_13 (by decide) ?_
    refine g_bipush (v := 126) h dX7_signsIn_15 (by decide) ?_
    refine k_S_i (st := []) h hX (tX7_isBetween (xl X) G F ω iv7 v16 33 126) rfl miX7_isBetween tw_333 (by decide) (by decide) rfl (Nat.le_of_ble_eq_true rfl) (by rw [hX]; exact Nat.zero_le _) (by rw [hX]; exact Nat.zero_le _) dX7_signsIn_17 (fun v17 hv17 => ?_)
    refine g_if_eq (tgt := 29) h dX7_signsIn_20 (by decide) (fun c18 => ?_) (fun c18 => ?_)
    · refine g_iload_n h 0 dX7_signsIn_29 rfl ?_
      refine g_bipush (v := 8) h dX7_signsIn_30 (by decide) ?_
      refine g_icmp_ge (tgt := 48) h dX7_signsIn_32 (by decide) (fun c19 => ?_) (fun c19 => ?_)
      · refine g_iload_n h 0 dX7_signsIn_48 rfl ?_
        exact e_iret h iv7 dX7_signsIn_49 (by clear ih5; replace hv16 := hv16.symm; replace hv17 := hv17.symm; subst hv17 hv16; first | contradiction | (unfold f_signs; rw [si_b hP1 hlt15 c18]; simp only [c8, c18, c19, ↓reduceIte])) rfl
      · refine g_lload_n h 1 dX7_signsIn_35 rfl ?_
        refine g_bipush (v := 8) h dX7_signsIn_36 (by decide) ?_
        refine g_iload_n h 0 dX7_signsIn_38 rfl ?_
        refine g_imul h dX7_signsIn_39 (g_name fun v20 hv20 => ?_)
        refine g_lushr h dX7_signsIn_40 rfl (g_nameL fun v21 hv21 => ?_)
        refine g_lconst (v := 0) h dX7_signsIn_41 rfl ?_
        refine g_lcmp h dX7_signsIn_42 (g_name fun v22 hv22 => ?_)
        refine g_if_eq (tgt := 48) h dX7_signsIn_43 (by decide) (fun c23 => ?_) (fun c23 => ?_)
        · refine g_iload_n h 0 dX7_signsIn_48 rfl ?_
          exact e_iret h iv7 dX7_signsIn_49 (by clear ih5; replace hv16 := hv16.symm; replace hv17 := hv17.symm; replace hv20 := hv20.symm; replace hv21 := hv21.symm; replace hv22 := hv22.symm; subst hv22 hv21 hv20 hv17 hv16; first | contradiction | (unfold f_signs; rw [si_b hP1 hlt15 c18]; simp only [c8, c18, c19, c23, ↓reduceIte])) rfl
        · refine g_iconst (v := 0) h dX7_signsIn_46 (by decide) ?_
          exact e_iret h iv7 dX7_signsIn_47 (by clear ih5; replace hv16 := hv16.symm; replace hv17 := hv17.symm; replace hv20 := hv20.symm; replace hv21 := hv21.symm; replace hv22 := hv22.symm; subst hv22 hv21 hv20 hv17 hv16; first | contradiction | (unfold f_signs; rw [si_b hP1 hlt15 c18]; simp only [c8, c18, c19, c23, ↓reduceIte])) rfl
    · obtain ⟨v24, hv24⟩ : ∃ z : Int32, z = (nI j1) + 1 := ⟨_, rfl⟩
      refine g_iinc (v := v24) (loc2 := [(2, .int v24), (0, .long cc)]) h 0 dX7_signsIn_23 rfl (by rw [hv24]; rfl) (by decide) rfl ?_
      refine g_goto (tgt := 2) h dX7_signsIn_26 (by decide) ?_
      have e25 : v24 = nI (j1 + 1) := by clear ih5; replace hv16 := hv16.symm; replace hv17 := hv17.symm; replace hv24 := hv24.symm; subst hv24 hv17 hv16; first | rfl | exact nI_1 _ | (rw [nI_succ])
      exact g_lt rfl (lc_i e25 rfl) rfl (ih5 hlt15 ⟨iv7, (by clear ih5; replace hv16 := hv16.symm; replace hv17 := hv17.symm; replace hv24 := hv24.symm; subst hv24 hv17 hv16; exact si_c hP1 hlt15 c18)⟩)
set_option maxHeartbeats 4000000 in
set_option maxRecDepth 100000 in
theorem tX7_put (l0 : Launch) (G : fG) (F : Nat) (ω : fOm) (hI : Inv ω) (cc : Int64) : CT l0 G F yX7_put cX7_put 5 (some .int) 2 [.ref (F + 0), .long cc] ω (some (.int ((f_put ω cc).1))) ((f_put ω cc).2) := by
  refine ct_met (own := RX7) (by decide +kernel) rfl (Nat.le_of_ble_eq_true rfl) (fun X hXl hX h => ?_)
  subst hXl
  refine g_lload_n h 1 dX7_put_0 rfl ?_
  refine k_S_i (st := []) h hX (tX7_signsIn (xl X) G F ω hI cc) rfl miX7_signsIn tw_597 (by decide) (by decide) rfl (Nat.le_of_ble_eq_true rfl) (by rw [hX]; exact Nat.zero_le _) (by rw [hX]; exact Nat.zero_le _) dX7_put_1 (fun v1 hv1 => ?_)
  refine g_istore_n (loc2 := [(3, .int v1), (0, .ref (F + 0)), (1, .long cc)]) h dX7_put_4 (by decide) rfl ?_
  refine g_iload_n h 0 dX7_put_5 rfl ?_
  refine g_if_ne (tgt := 12) h dX7_put_6 (by decide) (fun c2 => ?_) (fun c2 => ?_)
  · refine g_aload_n h 1 dX7_put_12 rfl ?_
    refine q_7_pad h rfl tw_236 dX7_put_13 ?_
    refine qN_4_length h rfl tw_199 dX7_put_16 (fun v3 hv3 => ?_)
    refine g_iload_n h 0 dX7_put_19 rfl ?_
    refine g_iadd h dX7_put_20 (g_name fun v4 hv4 => ?_)
    refine g_bipush (v := 80) h dX7_put_21 (by decide) ?_
    refine g_icmp_le (tgt := 29) h dX7_put_23 (by decide) (fun c5 => ?_) (fun c5 => ?_)
    · refine g_iload_n h 0 dX7_put_29 rfl ?_
      refine g_iconst (v := 1) h dX7_put_30 (by decide) ?_
      refine g_isub h dX7_put_31 (g_name fun v6 hv6 => ?_)
      refine g_istore (loc2 := [(4, .int v6), (3, .int v1), (0, .ref (F + 0)), (1, .long cc)]) h dX7_put_32 (by decide) rfl ?_
      have e8 : v6 = f_signs cc - 1 - nI 0 := by replace hv1 := hv1.symm; replace hv3 := hv3.symm; replace hv4 := hv4.symm; replace hv6 := hv6.symm; subst hv6 hv4 hv3 hv1; exact ap_0
      have e9 : ω = f_apL cc ω 0 := rfl
      refine g_lt (ω2 := f_apL cc ω 0) (loc2 := [(4, .int (f_signs cc - 1 - nI 0)), (3, .int v1), (0, .ref (F + 0)), (1, .long cc)]) e9 (lc_i e8 rfl) rfl ?_
      refine g_loop3 (hd := 34) ((f_signs cc).toNatClampNeg) (fun j7 => Inv (f_apL cc ω j7)) (fun j7 => [(4, .int (f_signs cc - 1 - nI j7)), (3, .int v1), (0, .ref (F + 0)), (1, .long cc)]) (fun j7 => cel F G (f_apL cc ω j7)) (e9 ▸ hI) (fun j7 hj12 hP10 ih11 => ?_)
      (try dsimp only)
      have iv13 := hP10
      refine g_iload h 0 dX7_put_34 rfl ?_
      refine g_if_lt (tgt := 58) h dX7_put_36 (by decide) (fun c14 => ?_) (fun c14 => ?_)
      · have hN15 : j7 = ((f_signs cc).toNatClampNeg) := by clear ih11; replace hv1 := hv1.symm; replace hv3 := hv3.symm; replace hv4 := hv4.symm; replace hv6 := hv6.symm; subst hv6 hv4 hv3 hv1; exact ap_ge c14 hj12
        refine g_aload_n h 2 dX7_put_58 rfl ?_
        refine q_7_pad h rfl tw_236 dX7_put_59 ?_
        refine qN_4_length h rfl tw_199 dX7_put_62 (fun v16 hv16 => ?_)
        exact e_iret h iv13 dX7_put_65 (by clear ih11; replace hv1 := hv1.symm; replace hv3 := hv3.symm; replace hv4 := hv4.symm; replace hv6 := hv6.symm; replace hv16 := hv16.symm; subst hv16 hv6 hv4 hv3 hv1; unfold f_put; rw [← hN15]; simp only [c2, c5, c14, ↓reduceIte]) (by clear ih11; replace hv1 := hv1.symm; replace hv3 := hv3.symm; replace hv4 := hv4.symm; replace hv6 := hv6.symm; replace hv16 := hv16.symm; subst hv16 hv6 hv4 hv3 hv1; unfold f_put; rw [← hN15]; simp only [c2, c5, c14, ↓reduceIte])
      · have hlt17 : j7 < ((f_signs cc).toNatClampNeg) := by clear ih11; replace hv1 := hv1.symm; replace hv3 := hv3.symm; replace hv4 := hv4.symm; replace hv6 := hv6.symm; subst hv6 hv4 hv3 hv1; exact ap_lt c14 hj12
        refine g_aload_n h 2 dX7_put_39 rfl ?_
        refine q_7_pad h rfl tw_236 dX7_put_40 ?_
        refine g_lload_n h 3 dX7_put_43 rfl ?_
        refine g_iload h 0 dX7_put_44 rfl ?_
        refine k_S_i (st := [.ref (F + 527)]) h hX (tX7_signIn (xl X) G F (f_apL cc ω j7) iv13 cc (f_signs cc - 1 - nI j7)) rfl miX7_signIn tw_600 (by decide) (by decide) rfl (Nat.le_of_ble_eq_true rfl) (by rw [hX]; exact Nat.zero_le _) (by rw [hX]; exact Nat.zero_le _) dX7_put_46 (fun v18 hv18 => ?_)
        refine k_VN_v (st := []) h hX (tX4_append (xl X) G F (f_apL cc ω j7) iv13 v18 (by clear ih11; replace hv1 := hv1.symm; replace hv3 := hv3.symm; replace hv4 := hv4.symm; replace hv6 := hv6.symm; replace hv18 := hv18.symm; subst hv18 hv6 hv4 hv3 hv1; exact signIn_c _ _)) rfl ⟨kd_lt rfl, ob_17 rfl⟩ rfl miX4_append tw_604 (by decide) (by decide) rfl (Nat.le_of_ble_eq_true rfl) (by rw [hX]; exact Nat.zero_le _) (by rw [hX]; exact Nat.zero_le _) dX7_put_49 (fun w19 hw19 iw19 => ?_)
        obtain ⟨v20, hv20⟩ : ∃ z : Int32, z = (f_signs cc - 1 - nI j7) + (-1) := ⟨_, rfl⟩
        refine g_iinc (v := v20) (loc2 := [(4, .int v20), (3, .int v1), (0, .ref (F + 0)), (1, .long cc)]) h 0 dX7_put_52 rfl (by rw [hv20]; rfl) (by decide) rfl ?_
        refine g_goto (tgt := 34) h dX7_put_55 (by decide) ?_
        have e21 : v20 = f_signs cc - 1 - nI (j7 + 1) := by clear ih11 iw19; replace hv1 := hv1.symm; replace hv3 := hv3.symm; replace hv4 := hv4.symm; replace hv6 := hv6.symm; replace hv18 := hv18.symm; replace hw19 := hw19.symm; replace hv20 := hv20.symm; subst hv20 hw19 hv18 hv6 hv4 hv3 hv1; exact ap_n hj12
        have e22 : w19 = f_apL cc ω (j7 + 1) := by clear ih11 iw19; replace hv1 := hv1.symm; replace hv3 := hv3.symm; replace hv4 := hv4.symm; replace hv6 := hv6.symm; replace hv18 := hv18.symm; replace hw19 := hw19.symm; replace hv20 := hv20.symm; subst hv20 hw19 hv18 hv6 hv4 hv3 hv1; rfl
        exact g_lt e22 (lc_i e21 rfl) rfl (ih11 hlt17 (e22 ▸ iw19))
    · refine g_bipush (v := (-4)) h dX7_put_26 (by decide) ?_
      exact e_iret h hI dX7_put_28 (by replace hv1 := hv1.symm; replace hv3 := hv3.symm; replace hv4 := hv4.symm; subst hv4 hv3 hv1; unfold f_put; simp only [c2, c5, ↓reduceIte]) (by replace hv1 := hv1.symm; replace hv3 := hv3.symm; replace hv4 := hv4.symm; subst hv4 hv3 hv1; unfold f_put; simp only [c2, c5, ↓reduceIte])
  · refine g_bipush (v := (-2)) h dX7_put_9 (by decide) ?_
    exact e_iret h hI dX7_put_11 (by replace hv1 := hv1.symm; subst hv1; unfold f_put; simp only [c2, ↓reduceIte]) (by replace hv1 := hv1.symm; subst hv1; unfold f_put; simp only [c2, ↓reduceIte])
set_option maxHeartbeats 4000000 in
set_option maxRecDepth 100000 in
theorem tX7_feedAll (l0 : Launch) (G : fG) (F : Nat) (ω : fOm) (hI : Inv ω) (d : Int32) : CT l0 G F yX7_feedAll cX7_feedAll 3 (some .boolean) 3 [.ref (F + 0), .int d] ω (some (.int ((f_fd ω d).1))) ((f_fd ω d).2) := by
  refine ct_met (own := RX7) (by decide +kernel) rfl (Nat.le_of_ble_eq_true rfl) (fun X hXl hX h => ?_)
  subst hXl
  refine g_iconst (v := 1) h dX7_feedAll_0 (by decide) ?_
  refine g_istore_n (loc2 := [(2, .int 1), (0, .ref (F + 0)), (1, .int d)]) h dX7_feedAll_1 (by decide) rfl ?_
  have e2 : 1 = nI (0 + 1) := rfl
  have e3 : ω = f_faI d ω 0 := rfl
  refine g_lt (ω2 := f_faI d ω 0) (loc2 := [(2, .int (nI (0 + 1))), (0, .ref (F + 0)), (1, .int d)]) e3 (lc_i e2 rfl) rfl ?_
  refine g_loop3 (hd := 2) ((ω 529 4).toNatClampNeg - 1) (fun j1 => Inv (f_faI d ω j1) ∧ f_fd ω d = f_faF d ((ω 529 4).toNatClampNeg - 1 - j1) j1 (f_faI d ω j1)) (fun j1 => [(2, .int (nI (j1 + 1))), (0, .ref (F + 0)), (1, .int d)]) (fun j1 => cel F G (f_faI d ω j1)) ⟨(e3 ▸ hI), rfl⟩ (fun j1 hj6 hP4 ih5 => ?_)
  (try dsimp only)
  obtain ⟨iv7, hP1⟩ := hP4
  refine g_iload_n h 0 dX7_feedAll_2 rfl ?_
  refine g_aload_n h 1 dX7_feedAll_3 rfl ?_
  refine q_7_orders h rfl tw_237 dX7_feedAll_4 ?_
  refine qN_3_numberCount h rfl tw_219 dX7_feedAll_7 (fun v8 hv8 => ?_)
  refine g_icmp_ge (tgt := 40) h dX7_feedAll_10 (by decide) (fun c9 => ?_) (fun c9 => ?_)
  · have hN10 : j1 = ((ω 529 4).toNatClampNeg - 1) := by clear ih5; replace hv8 := hv8.symm; subst hv8; rw [faI_529 (cB_of hI rfl)] at c9; exact fa_ge (Inv_19_4 (k := 529) hI rfl) c9 hj6
    refine g_iconst (v := 1) h dX7_feedAll_40 (by decide) ?_
    exact e_zret h iv7 dX7_feedAll_41 (nz (fa_01 _ _)) (by clear ih5; replace hv8 := hv8.symm; subst hv8; exact (fa_a hP1 hN10).1) (by clear ih5; replace hv8 := hv8.symm; subst hv8; exact (fa_a hP1 hN10).2)
  · have hlt11 : j1 < ((ω 529 4).toNatClampNeg - 1) := by clear ih5; replace hv8 := hv8.symm; subst hv8; rw [faI_529 (cB_of hI rfl)] at c9; exact fa_lt (Inv_19_4 (k := 529) hI rfl) c9 hj6
    refine g_aload_n h 1 dX7_feedAll_13 rfl ?_
    refine q_7_now h rfl tw_231 dX7_feedAll_14 ?_
    refine g_iload_n h 2 dX7_feedAll_17 rfl ?_
    refine g_aload_n h 1 dX7_feedAll_18 rfl ?_
    refine q_7_orders h rfl tw_237 dX7_feedAll_19 ?_
    refine g_iload_n h 0 dX7_feedAll_22 rfl ?_
    refine k_VN_i (st := [.int d, .ref (F + 1)]) h hX (tX3_number (xl X) G F (f_faI d ω j1) iv7 (nI (j1 + 1))) rfl ⟨kd_lt rfl, ob_19 rfl⟩ rfl miX3_number tw_674 (by decide) (by decide) rfl (Nat.le_of_ble_eq_true rfl) (by rw [hX]; exact Nat.zero_le _) (by rw [hX]; exact Nat.zero_le _) dX7_feedAll_23 (fun v12 hv12 => ?_)
    refine k_VN_j (st := []) h hX (tX6_feedDevice (xl X) G F (f_faI d ω j1) iv7 1 rfl d v12) rfl ⟨kd_lt rfl, ob_1 rfl⟩ rfl miX6_feedDevice tw_369 (by decide) (by decide) rfl (Nat.le_of_ble_eq_true rfl) (by rw [hX]; exact Nat.zero_le _) (by rw [hX]; exact Nat.zero_le _) dX7_feedAll_26 (fun v13 w14 hv13 hw14 iw14 => ?_)
    refine g_if_ge (tgt := 34) h dX7_feedAll_29 (by decide) (fun c15 => ?_) (fun c15 => ?_)
    · obtain ⟨v16, hv16⟩ : ∃ z : Int32, z = (nI (j1 + 1)) + 1 := ⟨_, rfl⟩
      refine g_iinc (v := v16) (loc2 := [(2, .int v16), (0, .ref (F + 0)), (1, .int d)]) h 0 dX7_feedAll_34 rfl (by rw [hv16]; rfl) (by decide) rfl ?_
      refine g_goto (tgt := 2) h dX7_feedAll_37 (by decide) ?_
      have e17 : v16 = nI ((j1 + 1) + 1) := by clear ih5 iw14; replace hv8 := hv8.symm; replace hv12 := hv12.symm; replace hv13 := hv13.symm; replace hw14 := hw14.symm; replace hv16 := hv16.symm; subst hv16 hw14 hv13 hv12 hv8; exact nI_1 _
      have e18 : w14 = f_faI d ω (j1 + 1) := by clear ih5 iw14; replace hv8 := hv8.symm; replace hv12 := hv12.symm; replace hv13 := hv13.symm; replace hw14 := hw14.symm; replace hv16 := hv16.symm; subst hv16 hw14 hv13 hv12 hv8; rfl
      exact g_lt e18 (lc_i e17 rfl) rfl (ih5 hlt11 ⟨(e18 ▸ iw14), (by clear ih5 iw14; replace hv8 := hv8.symm; replace hv12 := hv12.symm; replace hv13 := hv13.symm; replace hw14 := hw14.symm; replace hv16 := hv16.symm; subst hv16 hw14 hv13 hv12 hv8; exact fa_c hP1 hlt11 c15)⟩)
    · refine g_iconst (v := 0) h dX7_feedAll_32 (by decide) ?_
      exact e_zret h iw14 dX7_feedAll_33 (nz (fa_01 _ _)) (by clear ih5 iw14; replace hv8 := hv8.symm; replace hv12 := hv12.symm; replace hv13 := hv13.symm; replace hw14 := hw14.symm; subst hw14 hv13 hv12 hv8; exact (fa_b hP1 hlt11 c15).1) (by clear ih5 iw14; replace hv8 := hv8.symm; replace hv12 := hv12.symm; replace hv13 := hv13.symm; replace hw14 := hw14.symm; subst hw14 hv13 hv12 hv8; exact (fa_b hP1 hlt11 c15).2)
set_option maxHeartbeats 4000000 in
set_option maxRecDepth 100000 in
theorem tX7_carryOrder (l0 : Launch) (G : fG) (F : Nat) (ω : fOm) (hI : Inv ω) : CT l0 G F yX7_carryOrder cX7_carryOrder 2 (some .boolean) 6 [.ref (F + 0)] ω (some (.int ((f_co ω).1))) ((f_co ω).2) := by
  refine ct_met (own := RX7) (by decide +kernel) rfl (Nat.le_of_ble_eq_true rfl) (fun X hXl hX h => ?_)
  subst hXl
  refine g_aload_n h 0 dX7_carryOrder_0 rfl ?_
  refine q_7_orders h rfl tw_237 dX7_carryOrder_1 ?_
  refine g_iconst (v := 0) h dX7_carryOrder_4 (by decide) ?_
  refine k_VN_i (st := []) h hX (tX3_number (xl X) G F ω hI 0) rfl ⟨kd_lt rfl, ob_19 rfl⟩ rfl miX3_number tw_674 (by decide) (by decide) rfl (Nat.le_of_ble_eq_true rfl) (by rw [hX]; exact Nat.zero_le _) (by rw [hX]; exact Nat.zero_le _) dX7_carryOrder_5 (fun v1 hv1 => ?_)
  refine g_istore_n (loc2 := [(1, .int v1), (0, .ref (F + 0))]) h dX7_carryOrder_8 (by decide) rfl ?_
  refine g_aload_n h 1 dX7_carryOrder_9 rfl ?_
  refine q_7_orders h rfl tw_237 dX7_carryOrder_10 ?_
  refine qN_3_letter h rfl tw_216 dX7_carryOrder_13 (fun v2 hv2 => ?_)
  refine g_bipush (v := 102) h dX7_carryOrder_16 (by decide) ?_
  refine g_icmp_ne (tgt := 27) h dX7_carryOrder_18 (by decide) (fun c3 => ?_) (fun c3 => ?_)
  · refine g_aload_n h 1 dX7_carryOrder_27 rfl ?_
    refine q_7_orders h rfl tw_237 dX7_carryOrder_28 ?_
    refine qN_3_letter h rfl tw_216 dX7_carryOrder_31 (fun v4 hv4 => ?_)
    refine g_bipush (v := 106) h dX7_carryOrder_34 (by decide) ?_
    refine g_icmp_ne (tgt := 64) h dX7_carryOrder_36 (by decide) (fun c5 => ?_) (fun c5 => ?_)
    · refine g_aload_n h 1 dX7_carryOrder_64 rfl ?_
      refine q_7_orders h rfl tw_237 dX7_carryOrder_65 ?_
      refine qN_3_letter h rfl tw_216 dX7_carryOrder_68 (fun v6 hv6 => ?_)
      refine g_bipush (v := 108) h dX7_carryOrder_71 (by decide) ?_
      refine g_icmp_ne (tgt := 109) h dX7_carryOrder_73 (by decide) (fun c7 => ?_) (fun c7 => ?_)
      · refine g_aload_n h 1 dX7_carryOrder_109 rfl ?_
        refine q_7_now h rfl tw_231 dX7_carryOrder_110 ?_
        refine g_iload_n h 0 dX7_carryOrder_113 rfl ?_
        refine k_VN_j (st := []) h hX (tX6_passTicks (xl X) G F ω hI 1 rfl v1) rfl ⟨kd_lt rfl, ob_1 rfl⟩ rfl miX6_passTicks tw_411 (by decide) (by decide) rfl (Nat.le_of_ble_eq_true rfl) (by rw [hX]; exact Nat.zero_le _) (by rw [hX]; exact Nat.zero_le _) dX7_carryOrder_114 (fun v8 w9 hv8 hw9 iw9 => ?_)
        refine g_if_lt (tgt := 124) h dX7_carryOrder_117 (by decide) (fun c10 => ?_) (fun c10 => ?_)
        · refine g_iconst (v := 0) h dX7_carryOrder_124 (by decide) ?_
          exact e_zret h iw9 dX7_carryOrder_125 (nz (co_01 _)) (by clear iw9; replace hv1 := hv1.symm; replace hv2 := hv2.symm; replace hv4 := hv4.symm; replace hv6 := hv6.symm; replace hv8 := hv8.symm; replace hw9 := hw9.symm; subst hw9 hv8 hv6 hv4 hv2 hv1; unfold f_co bz; simp only [if_neg c3, if_neg c5, if_neg c7, if_pos c10]) (by clear iw9; replace hv1 := hv1.symm; replace hv2 := hv2.symm; replace hv4 := hv4.symm; replace hv6 := hv6.symm; replace hv8 := hv8.symm; replace hw9 := hw9.symm; subst hw9 hv8 hv6 hv4 hv2 hv1; unfold f_co bz; simp only [if_neg c3, if_neg c5, if_neg c7, if_pos c10])
        · refine g_iconst (v := 1) h dX7_carryOrder_120 (by decide) ?_
          refine g_goto (tgt := 125) h dX7_carryOrder_121 (by decide) ?_
          exact e_zret h iw9 dX7_carryOrder_125 (nz (co_01 _)) (by clear iw9; replace hv1 := hv1.symm; replace hv2 := hv2.symm; replace hv4 := hv4.symm; replace hv6 := hv6.symm; replace hv8 := hv8.symm; replace hw9 := hw9.symm; subst hw9 hv8 hv6 hv4 hv2 hv1; unfold f_co bz; simp only [if_neg c3, if_neg c5, if_neg c7, if_neg c10]) (by clear iw9; replace hv1 := hv1.symm; replace hv2 := hv2.symm; replace hv4 := hv4.symm; replace hv6 := hv6.symm; replace hv8 := hv8.symm; replace hw9 := hw9.symm; subst hw9 hv8 hv6 hv4 hv2 hv1; unfold f_co bz; simp only [if_neg c3, if_neg c5, if_neg c7, if_neg c10])
      · refine g_aload_n h 1 dX7_carryOrder_76 rfl ?_
        refine q_7_now h rfl tw_231 dX7_carryOrder_77 ?_
        refine g_iload_n h 0 dX7_carryOrder_80 rfl ?_
        refine g_aload_n h 1 dX7_carryOrder_81 rfl ?_
        refine q_7_orders h rfl tw_237 dX7_carryOrder_82 ?_
        refine g_iconst (v := 1) h dX7_carryOrder_85 (by decide) ?_
        refine k_VN_i (st := [.int v1, .ref (F + 1)]) h hX (tX3_number (xl X) G F ω hI 1) rfl ⟨kd_lt rfl, ob_19 rfl⟩ rfl miX3_number tw_674 (by decide) (by decide) rfl (Nat.le_of_ble_eq_true rfl) (by rw [hX]; exact Nat.zero_le _) (by rw [hX]; exact Nat.zero_le _) dX7_carryOrder_86 (fun v11 hv11 => ?_)
        refine g_aload_n h 1 dX7_carryOrder_89 rfl ?_
        refine q_7_orders h rfl tw_237 dX7_carryOrder_90 ?_
        refine g_iconst (v := 2) h dX7_carryOrder_93 (by decide) ?_
        refine k_VN_i (st := [.int v11, .int v1, .ref (F + 1)]) h hX (tX3_number (xl X) G F ω hI 2) rfl ⟨kd_lt rfl, ob_19 rfl⟩ rfl miX3_number tw_674 (by decide) (by decide) rfl (Nat.le_of_ble_eq_true rfl) (by rw [hX]; exact Nat.zero_le _) (by rw [hX]; exact Nat.zero_le _) dX7_carryOrder_94 (fun v12 hv12 => ?_)
        refine k_VN_j (st := []) h hX (tX6_lightFlash (xl X) G F ω hI 1 rfl v1 v11 v12) rfl ⟨kd_lt rfl, ob_1 rfl⟩ rfl miX6_lightFlash tw_386 (by decide) (by decide) rfl (Nat.le_of_ble_eq_true rfl) (by rw [hX]; exact Nat.zero_le _) (by rw [hX]; exact Nat.zero_le _) dX7_carryOrder_97 (fun v13 w14 hv13 hw14 iw14 => ?_)
        refine g_if_lt (tgt := 107) h dX7_carryOrder_100 (by decide) (fun c15 => ?_) (fun c15 => ?_)
        · refine g_iconst (v := 0) h dX7_carryOrder_107 (by decide) ?_
          exact e_zret h iw14 dX7_carryOrder_108 (nz (co_01 _)) (by clear iw14; replace hv1 := hv1.symm; replace hv2 := hv2.symm; replace hv4 := hv4.symm; replace hv6 := hv6.symm; replace hv11 := hv11.symm; replace hv12 := hv12.symm; replace hv13 := hv13.symm; replace hw14 := hw14.symm; subst hw14 hv13 hv12 hv11 hv6 hv4 hv2 hv1; unfold f_co bz; simp only [if_neg c3, if_neg c5, if_pos c7, if_pos c15]) (by clear iw14; replace hv1 := hv1.symm; replace hv2 := hv2.symm; replace hv4 := hv4.symm; replace hv6 := hv6.symm; replace hv11 := hv11.symm; replace hv12 := hv12.symm; replace hv13 := hv13.symm; replace hw14 := hw14.symm; subst hw14 hv13 hv12 hv11 hv6 hv4 hv2 hv1; unfold f_co bz; simp only [if_neg c3, if_neg c5, if_pos c7, if_pos c15])
        · refine g_iconst (v := 1) h dX7_carryOrder_103 (by decide) ?_
          refine g_goto (tgt := 108) h dX7_carryOrder_104 (by decide) ?_
          exact e_zret h iw14 dX7_carryOrder_108 (nz (co_01 _)) (by clear iw14; replace hv1 := hv1.symm; replace hv2 := hv2.symm; replace hv4 := hv4.symm; replace hv6 := hv6.symm; replace hv11 := hv11.symm; replace hv12 := hv12.symm; replace hv13 := hv13.symm; replace hw14 := hw14.symm; subst hw14 hv13 hv12 hv11 hv6 hv4 hv2 hv1; unfold f_co bz; simp only [if_neg c3, if_neg c5, if_pos c7, if_neg c15]) (by clear iw14; replace hv1 := hv1.symm; replace hv2 := hv2.symm; replace hv4 := hv4.symm; replace hv6 := hv6.symm; replace hv11 := hv11.symm; replace hv12 := hv12.symm; replace hv13 := hv13.symm; replace hw14 := hw14.symm; subst hw14 hv13 hv12 hv11 hv6 hv4 hv2 hv1; unfold f_co bz; simp only [if_neg c3, if_neg c5, if_pos c7, if_neg c15])
    · refine g_aload_n h 1 dX7_carryOrder_39 rfl ?_
      refine q_7_now h rfl tw_231 dX7_carryOrder_40 ?_
      refine g_iload_n h 0 dX7_carryOrder_43 rfl ?_
      refine g_aload_n h 1 dX7_carryOrder_44 rfl ?_
      refine q_7_orders h rfl tw_237 dX7_carryOrder_45 ?_
      refine g_iconst (v := 1) h dX7_carryOrder_48 (by decide) ?_
      refine k_VN_i (st := [.int v1, .ref (F + 1)]) h hX (tX3_number (xl X) G F ω hI 1) rfl ⟨kd_lt rfl, ob_19 rfl⟩ rfl miX3_number tw_674 (by decide) (by decide) rfl (Nat.le_of_ble_eq_true rfl) (by rw [hX]; exact Nat.zero_le _) (by rw [hX]; exact Nat.zero_le _) dX7_carryOrder_49 (fun v16 hv16 => ?_)
      refine k_VN_j (st := []) h hX (tX6_turnJoin (xl X) G F ω hI 1 rfl v1 v16) rfl ⟨kd_lt rfl, ob_1 rfl⟩ rfl miX6_turnJoin tw_357 (by decide) (by decide) rfl (Nat.le_of_ble_eq_true rfl) (by rw [hX]; exact Nat.zero_le _) (by rw [hX]; exact Nat.zero_le _) dX7_carryOrder_52 (fun v17 w18 hv17 hw18 iw18 => ?_)
      refine g_if_lt (tgt := 62) h dX7_carryOrder_55 (by decide) (fun c19 => ?_) (fun c19 => ?_)
      · refine g_iconst (v := 0) h dX7_carryOrder_62 (by decide) ?_
        exact e_zret h iw18 dX7_carryOrder_63 (nz (co_01 _)) (by clear iw18; replace hv1 := hv1.symm; replace hv2 := hv2.symm; replace hv4 := hv4.symm; replace hv16 := hv16.symm; replace hv17 := hv17.symm; replace hw18 := hw18.symm; subst hw18 hv17 hv16 hv4 hv2 hv1; unfold f_co bz; simp only [if_neg c3, if_pos c5, if_pos c19]) (by clear iw18; replace hv1 := hv1.symm; replace hv2 := hv2.symm; replace hv4 := hv4.symm; replace hv16 := hv16.symm; replace hv17 := hv17.symm; replace hw18 := hw18.symm; subst hw18 hv17 hv16 hv4 hv2 hv1; unfold f_co bz; simp only [if_neg c3, if_pos c5, if_pos c19])
      · refine g_iconst (v := 1) h dX7_carryOrder_58 (by decide) ?_
        refine g_goto (tgt := 63) h dX7_carryOrder_59 (by decide) ?_
        exact e_zret h iw18 dX7_carryOrder_63 (nz (co_01 _)) (by clear iw18; replace hv1 := hv1.symm; replace hv2 := hv2.symm; replace hv4 := hv4.symm; replace hv16 := hv16.symm; replace hv17 := hv17.symm; replace hw18 := hw18.symm; subst hw18 hv17 hv16 hv4 hv2 hv1; unfold f_co bz; simp only [if_neg c3, if_pos c5, if_neg c19]) (by clear iw18; replace hv1 := hv1.symm; replace hv2 := hv2.symm; replace hv4 := hv4.symm; replace hv16 := hv16.symm; replace hv17 := hv17.symm; replace hw18 := hw18.symm; subst hw18 hv17 hv16 hv4 hv2 hv1; unfold f_co bz; simp only [if_neg c3, if_pos c5, if_neg c19])
  · refine g_aload_n h 1 dX7_carryOrder_21 rfl ?_
    refine g_iload_n h 0 dX7_carryOrder_22 rfl ?_
    refine k_V_j (st := []) h hX (tX7_feedAll (xl X) G F ω hI v1) rfl ⟨kd_lt rfl, ob_12 rfl⟩ rfl miX7_feedAll tw_678 (by decide) (by decide) rfl (Nat.le_of_ble_eq_true rfl) (by rw [hX]; exact Nat.zero_le _) (by rw [hX]; exact Nat.zero_le _) dX7_carryOrder_23 (fun v20 w21 hv20 hw21 iw21 => ?_)
    exact e_zret h iw21 dX7_carryOrder_26 (nz (co_01 _)) (by clear iw21; replace hv1 := hv1.symm; replace hv2 := hv2.symm; replace hv20 := hv20.symm; replace hw21 := hw21.symm; subst hw21 hv20 hv2 hv1; unfold f_co bz; simp only [if_pos c3]) (by clear iw21; replace hv1 := hv1.symm; replace hv2 := hv2.symm; replace hv20 := hv20.symm; replace hw21 := hw21.symm; subst hw21 hv20 hv2 hv1; unfold f_co bz; simp only [if_pos c3])
set_option maxHeartbeats 4000000 in
set_option maxRecDepth 100000 in
theorem tX7_carryOut (l0 : Launch) (G : fG) (F : Nat) (ω : fOm) (hI : Inv ω) : CT l0 G F yX7_carryOut cX7_carryOut 2 (some .int) 7 [.ref (F + 0)] ω (some (.int (f_carryR ω))) (f_carryW ω) := by
  refine ct_met (own := RX7) (by decide +kernel) rfl (Nat.le_of_ble_eq_true rfl) (fun X hXl hX h => ?_)
  subst hXl
  refine g_aload_n h 0 dX7_carryOut_0 rfl ?_
  refine q_7_orders h rfl tw_237 dX7_carryOut_1 ?_
  refine k_VN_j (st := []) h hX (tX3_firstFault (xl X) G F ω hI) rfl ⟨kd_lt rfl, ob_19 rfl⟩ rfl miX3_firstFault tw_620 (by decide) (by decide) rfl (Nat.le_of_ble_eq_true rfl) (by rw [hX]; exact Nat.zero_le _) (by rw [hX]; exact Nat.zero_le _) dX7_carryOut_4 (fun v1 w2 hv1 hw2 iw2 => ?_)
  refine g_bipush (v := (-6)) h dX7_carryOut_7 (by decide) ?_
  refine g_icmp_eq (tgt := 15) h dX7_carryOut_9 (by decide) (fun c3 => ?_) (fun c3 => ?_)
  · refine g_aload_n h 0 dX7_carryOut_15 rfl ?_
    refine q_7_history h rfl tw_233 dX7_carryOut_16 ?_
    refine g_aload_n h 0 dX7_carryOut_19 rfl ?_
    refine q_7_now h rfl tw_231 dX7_carryOut_20 ?_
    refine k_VN_v (st := []) h hX (tX1_holdBack (xl X) G F w2 iw2 1 rfl) rfl ⟨kd_lt rfl, ob_13 rfl⟩ rfl miX1_holdBack tw_257 (by decide) (by decide) rfl (Nat.le_of_ble_eq_true rfl) (by rw [hX]; exact Nat.zero_le _) (by rw [hX]; exact Nat.zero_le _) dX7_carryOut_23 (fun w4 hw4 iw4 => ?_)
    refine g_aload_n h 0 dX7_carryOut_26 rfl ?_
    refine q_7_orders h rfl tw_237 dX7_carryOut_27 ?_
    refine k_VN_v (st := []) h hX (tX3_goToStart (xl X) G F w4 iw4) rfl ⟨kd_lt rfl, ob_19 rfl⟩ rfl miX3_goToStart tw_665 (by decide) (by decide) rfl (Nat.le_of_ble_eq_true rfl) (by rw [hX]; exact Nat.zero_le _) (by rw [hX]; exact Nat.zero_le _) dX7_carryOut_30 (fun w5 hw5 iw5 => ?_)
    refine g_iconst (v := 0) h dX7_carryOut_33 (by decide) ?_
    refine g_istore_n (loc2 := [(1, .int 0), (0, .ref (F + 0))]) h dX7_carryOut_34 (by decide) rfl ?_
    have e7 : 0 = nI 0 := by clear iw2 iw4 iw5; replace hv1 := hv1.symm; replace hw2 := hw2.symm; replace hw4 := hw4.symm; replace hw5 := hw5.symm; subst hw5 hw4 hw2 hv1; first | rfl | exact nI_0.symm | exact nI_0 | decide
    have e8 : w5 = f_caI (f_ca0 ω) 0 := by clear iw2 iw4 iw5; replace hv1 := hv1.symm; replace hw2 := hw2.symm; replace hw4 := hw4.symm; replace hw5 := hw5.symm; subst hw5 hw4 hw2 hv1; rfl
    refine g_lt (ω2 := f_caI (f_ca0 ω) 0) (loc2 := [(1, .int (nI 0)), (0, .ref (F + 0))]) e8 (lc_i e7 rfl) rfl ?_
    refine g_loop3 (hd := 35) (80) (fun j6 => Inv (f_caI (f_ca0 ω) j6) ∧ f_ca ω = f_caF (80 - j6) j6 (f_caI (f_ca0 ω) j6)) (fun j6 => [(1, .int (nI j6)), (0, .ref (F + 0))]) (fun j6 => cel F G (f_caI (f_ca0 ω) j6)) ⟨(e8 ▸ iw5), ca_0⟩ (fun j6 hj11 hP9 ih10 => ?_)
    (try dsimp only)
    obtain ⟨iv12, hP1⟩ := hP9
    refine g_iload_n h 0 dX7_carryOut_35 rfl ?_
    refine g_bipush (v := 80) h dX7_carryOut_36 (by decide) ?_
    refine g_icmp_ge (tgt := 64) h dX7_carryOut_38 (by decide) (fun c13 => ?_) (fun c13 => ?_)
    · have hN14 : j6 = 80 := lpc_ge (x := 80) (M := 80) rfl (by decide) c13 hj11
      refine g_aload_n h 1 dX7_carryOut_64 rfl ?_
      refine q_7_pad h rfl tw_236 dX7_carryOut_65 ?_
      refine k_VN_v (st := []) h hX (tX4_clear (xl X) G F (f_caI (f_ca0 ω) j6) iv12) rfl ⟨kd_lt rfl, ob_17 rfl⟩ rfl miX4_clear tw_612 (by decide) (by decide) rfl (Nat.le_of_ble_eq_true rfl) (by rw [hX]; exact Nat.zero_le _) (by rw [hX]; exact Nat.zero_le _) dX7_carryOut_68 (fun w15 hw15 iw15 => ?_)
      refine g_aload_n h 1 dX7_carryOut_71 rfl ?_
      refine q_7_history h rfl tw_233 dX7_carryOut_72 ?_
      refine g_iload_n h 0 dX7_carryOut_75 rfl ?_
      refine k_VN_j (st := []) h hX (tX1_keepIfDone (xl X) G F w15 iw15 (nI j6)) rfl ⟨kd_lt rfl, ob_13 rfl⟩ rfl miX1_keepIfDone tw_290 (by decide) (by decide) rfl (Nat.le_of_ble_eq_true rfl) (by rw [hX]; exact Nat.zero_le _) (by rw [hX]; exact Nat.zero_le _) dX7_carryOut_76 (fun v16 w17 hv16 hw17 iw17 => ?_)
      exact e_iret h iw17 dX7_carryOut_79 (by clear iw2 iw4 iw5 ih10 iw15 iw17; replace hv1 := hv1.symm; replace hw2 := hw2.symm; replace hw4 := hw4.symm; replace hw5 := hw5.symm; replace hw15 := hw15.symm; replace hv16 := hv16.symm; replace hw17 := hw17.symm; subst hw17 hv16 hw15 hw5 hw4 hw2 hv1; exact (carry_l c3 (ca_a hP1 hN14)).1) (by clear iw2 iw4 iw5 ih10 iw15 iw17; replace hv1 := hv1.symm; replace hw2 := hw2.symm; replace hw4 := hw4.symm; replace hw5 := hw5.symm; replace hw15 := hw15.symm; replace hv16 := hv16.symm; replace hw17 := hw17.symm; subst hw17 hv16 hw15 hw5 hw4 hw2 hv1; exact (carry_l c3 (ca_a hP1 hN14)).2)
    · have hlt18 : j6 < 80 := lpc_lt (x := 80) (M := 80) rfl (by decide) c13 hj11
      refine g_aload_n h 1 dX7_carryOut_41 rfl ?_
      refine q_7_orders h rfl tw_237 dX7_carryOut_42 ?_
      refine k_VN_j (st := []) h hX (tX3_readNext (xl X) G F (f_caI (f_ca0 ω) j6) iv12) rfl ⟨kd_lt rfl, ob_19 rfl⟩ rfl miX3_readNext tw_666 (by decide) (by decide) rfl (Nat.le_of_ble_eq_true rfl) (by rw [hX]; exact Nat.zero_le _) (by rw [hX]; exact Nat.zero_le _) dX7_carryOut_45 (fun v19 w20 hv19 hw20 iw20 => ?_)
      refine g_if_eq (tgt := 64) h dX7_carryOut_48 (by decide) (fun c21 => ?_) (fun c21 => ?_)
      · refine g_aload_n h 1 dX7_carryOut_64 rfl ?_
        refine q_7_pad h rfl tw_236 dX7_carryOut_65 ?_
        refine k_VN_v (st := []) h hX (tX4_clear (xl X) G F w20 iw20) rfl ⟨kd_lt rfl, ob_17 rfl⟩ rfl miX4_clear tw_612 (by decide) (by decide) rfl (Nat.le_of_ble_eq_true rfl) (by rw [hX]; exact Nat.zero_le _) (by rw [hX]; exact Nat.zero_le _) dX7_carryOut_68 (fun w22 hw22 iw22 => ?_)
        refine g_aload_n h 1 dX7_carryOut_71 rfl ?_
        refine q_7_history h rfl tw_233 dX7_carryOut_72 ?_
        refine g_iload_n h 0 dX7_carryOut_75 rfl ?_
        refine k_VN_j (st := []) h hX (tX1_keepIfDone (xl X) G F w22 iw22 (nI j6)) rfl ⟨kd_lt rfl, ob_13 rfl⟩ rfl miX1_keepIfDone tw_290 (by decide) (by decide) rfl (Nat.le_of_ble_eq_true rfl) (by rw [hX]; exact Nat.zero_le _) (by rw [hX]; exact Nat.zero_le _) dX7_carryOut_76 (fun v23 w24 hv23 hw24 iw24 => ?_)
        exact e_iret h iw24 dX7_carryOut_79 (by clear iw2 iw4 iw5 ih10 iw20 iw22 iw24; replace hv1 := hv1.symm; replace hw2 := hw2.symm; replace hw4 := hw4.symm; replace hw5 := hw5.symm; replace hv19 := hv19.symm; replace hw20 := hw20.symm; replace hw22 := hw22.symm; replace hv23 := hv23.symm; replace hw24 := hw24.symm; subst hw24 hv23 hw22 hw20 hv19 hw5 hw4 hw2 hv1; exact (carry_l c3 (ca_b hP1 hlt18 c21)).1) (by clear iw2 iw4 iw5 ih10 iw20 iw22 iw24; replace hv1 := hv1.symm; replace hw2 := hw2.symm; replace hw4 := hw4.symm; replace hw5 := hw5.symm; replace hv19 := hv19.symm; replace hw20 := hw20.symm; replace hw22 := hw22.symm; replace hv23 := hv23.symm; replace hw24 := hw24.symm; subst hw24 hv23 hw22 hw20 hv19 hw5 hw4 hw2 hv1; exact (carry_l c3 (ca_b hP1 hlt18 c21)).2)
      · refine g_aload_n h 1 dX7_carryOut_51 rfl ?_
        refine k_V_j (st := []) h hX (tX7_carryOrder (xl X) G F w20 iw20) rfl ⟨kd_lt rfl, ob_12 rfl⟩ rfl miX7_carryOrder tw_670 (by decide) (by decide) rfl (Nat.le_of_ble_eq_true rfl) (by rw [hX]; exact Nat.zero_le _) (by rw [hX]; exact Nat.zero_le _) dX7_carryOut_52 (fun v25 w26 hv25 hw26 iw26 => ?_)
        refine g_if_eq (tgt := 64) h dX7_carryOut_55 (by decide) (fun c27 => ?_) (fun c27 => ?_)
        · refine g_aload_n h 1 dX7_carryOut_64 rfl ?_
          refine q_7_pad h rfl tw_236 dX7_carryOut_65 ?_
          refine k_VN_v (st := []) h hX (tX4_clear (xl X) G F w26 iw26) rfl ⟨kd_lt rfl, ob_17 rfl⟩ rfl miX4_clear tw_612 (by decide) (by decide) rfl (Nat.le_of_ble_eq_true rfl) (by rw [hX]; exact Nat.zero_le _) (by rw [hX]; exact Nat.zero_le _) dX7_carryOut_68 (fun w28 hw28 iw28 => ?_)
          refine g_aload_n h 1 dX7_carryOut_71 rfl ?_
          refine q_7_history h rfl tw_233 dX7_carryOut_72 ?_
          refine g_iload_n h 0 dX7_carryOut_75 rfl ?_
          refine k_VN_j (st := []) h hX (tX1_keepIfDone (xl X) G F w28 iw28 (nI j6)) rfl ⟨kd_lt rfl, ob_13 rfl⟩ rfl miX1_keepIfDone tw_290 (by decide) (by decide) rfl (Nat.le_of_ble_eq_true rfl) (by rw [hX]; exact Nat.zero_le _) (by rw [hX]; exact Nat.zero_le _) dX7_carryOut_76 (fun v29 w30 hv29 hw30 iw30 => ?_)
          exact e_iret h iw30 dX7_carryOut_79 (by clear iw2 iw4 iw5 ih10 iw20 iw26 iw28 iw30; replace hv1 := hv1.symm; replace hw2 := hw2.symm; replace hw4 := hw4.symm; replace hw5 := hw5.symm; replace hv19 := hv19.symm; replace hw20 := hw20.symm; replace hv25 := hv25.symm; replace hw26 := hw26.symm; replace hw28 := hw28.symm; replace hv29 := hv29.symm; replace hw30 := hw30.symm; subst hw30 hv29 hw28 hw26 hv25 hw20 hv19 hw5 hw4 hw2 hv1; exact (carry_l c3 (ca_c hP1 hlt18 c21 c27)).1) (by clear iw2 iw4 iw5 ih10 iw20 iw26 iw28 iw30; replace hv1 := hv1.symm; replace hw2 := hw2.symm; replace hw4 := hw4.symm; replace hw5 := hw5.symm; replace hv19 := hv19.symm; replace hw20 := hw20.symm; replace hv25 := hv25.symm; replace hw26 := hw26.symm; replace hw28 := hw28.symm; replace hv29 := hv29.symm; replace hw30 := hw30.symm; subst hw30 hv29 hw28 hw26 hv25 hw20 hv19 hw5 hw4 hw2 hv1; exact (carry_l c3 (ca_c hP1 hlt18 c21 c27)).2)
        · obtain ⟨v31, hv31⟩ : ∃ z : Int32, z = (nI j6) + 1 := ⟨_, rfl⟩
          refine g_iinc (v := v31) (loc2 := [(1, .int v31), (0, .ref (F + 0))]) h 0 dX7_carryOut_58 rfl (by rw [hv31]; rfl) (by decide) rfl ?_
          refine g_goto (tgt := 35) h dX7_carryOut_61 (by decide) ?_
          have e32 : v31 = nI (j6 + 1) := by clear iw2 iw4 iw5 ih10 iw20 iw26; replace hv1 := hv1.symm; replace hw2 := hw2.symm; replace hw4 := hw4.symm; replace hw5 := hw5.symm; replace hv19 := hv19.symm; replace hw20 := hw20.symm; replace hv25 := hv25.symm; replace hw26 := hw26.symm; replace hv31 := hv31.symm; subst hv31 hw26 hv25 hw20 hv19 hw5 hw4 hw2 hv1; first | rfl | exact nI_1 _ | (rw [nI_succ])
          have e33 : w26 = f_caI (f_ca0 ω) (j6 + 1) := by clear iw2 iw4 iw5 ih10 iw20 iw26; replace hv1 := hv1.symm; replace hw2 := hw2.symm; replace hw4 := hw4.symm; replace hw5 := hw5.symm; replace hv19 := hv19.symm; replace hw20 := hw20.symm; replace hv25 := hv25.symm; replace hw26 := hw26.symm; replace hv31 := hv31.symm; subst hv31 hw26 hv25 hw20 hv19 hw5 hw4 hw2 hv1; rfl
          exact g_lt e33 (lc_i e32 rfl) rfl (ih10 hlt18 ⟨(e33 ▸ iw26), (by clear iw2 iw4 iw5 ih10 iw20 iw26; replace hv1 := hv1.symm; replace hw2 := hw2.symm; replace hw4 := hw4.symm; replace hw5 := hw5.symm; replace hv19 := hv19.symm; replace hw20 := hw20.symm; replace hv25 := hv25.symm; replace hw26 := hw26.symm; replace hv31 := hv31.symm; subst hv31 hw26 hv25 hw20 hv19 hw5 hw4 hw2 hv1; exact ca_d hP1 hlt18 c21 c27)⟩)
  · refine g_bipush (v := (-3)) h dX7_carryOut_12 (by decide) ?_
    exact e_iret h iw2 dX7_carryOut_14 (by clear iw2; replace hv1 := hv1.symm; replace hw2 := hw2.symm; subst hw2 hv1; unfold f_carryR; simp only [c3, ↓reduceIte]) (by clear iw2; replace hv1 := hv1.symm; replace hw2 := hw2.symm; subst hw2 hv1; unfold f_carryW; simp only [c3, ↓reduceIte])
