/-! ===== the reference: one row of numbers ===== -/
def iL (l w : Int32) : Nat := (8 + 6 * l + w).toNatClampNeg
def iD (d w : Int32) : Nat := (38 + 19 * d + w).toNatClampNeg
def iJ (j w : Int32) : Nat := (266 + 6 * j + w).toNatClampNeg
def mc (l p : Int32) : Int32 := 290 + 96 * l + 3 * p
theorem rgN {x M : Int32} {n : Nat} (h : 0 ≤ x ∧ x ≤ M) (hM : M.toInt = n) : ∃ m : Nat, m ≤ n ∧ x = nI m := nI_of2 hM (Int32.not_lt.mpr h.1) h.2
theorem iL_e {n m : Nat} (hn : n < 5) (hm : m < 6) : 8 + 6 * nI n + nI m = nI (8 + 6 * n + m) := by
  rw [show (8 : Int32) = nI 8 from rfl, show (6 : Int32) = nI 6 from rfl, pk_mul, nI_add, nI_add]
theorem iD_e {n m : Nat} (hn : n < 12) (hm : m < 19) : 38 + 19 * nI n + nI m = nI (38 + 19 * n + m) := by
  rw [show (38 : Int32) = nI 38 from rfl, show (19 : Int32) = nI 19 from rfl, pk_mul, nI_add, nI_add]
theorem iJ_e {n m : Nat} (hn : n < 4) (hm : m < 6) : 266 + 6 * nI n + nI m = nI (266 + 6 * n + m) := by
  rw [show (266 : Int32) = nI 266 from rfl, show (6 : Int32) = nI 6 from rfl, pk_mul, nI_add, nI_add]
theorem mc_e {n m : Nat} : mc (nI n) (nI m) = nI (290 + 96 * n + 3 * m) := by
  unfold mc
  rw [show (290 : Int32) = nI 290 from rfl, show (96 : Int32) = nI 96 from rfl, show (3 : Int32) = nI 3 from rfl, pk_mul, pk_mul, nI_add, nI_add]
theorem iL_n {n m : Nat} (hn : n < 5) (hm : m < 6) : iL (nI n) (nI m) = 8 + 6 * n + m := by
  unfold iL
  rw [iL_e hn hm, nI_clamp (by omega)]
theorem iD_n {n m : Nat} (hn : n < 12) (hm : m < 19) : iD (nI n) (nI m) = 38 + 19 * n + m := by
  unfold iD
  rw [iD_e hn hm, nI_clamp (by omega)]
theorem iJ_n {n m : Nat} (hn : n < 4) (hm : m < 6) : iJ (nI n) (nI m) = 266 + 6 * n + m := by
  unfold iJ
  rw [iJ_e hn hm, nI_clamp (by omega)]
theorem ixL {l w : Int32} (hl : 0 ≤ l ∧ l ≤ 4) (hw : 0 ≤ w ∧ w ≤ 5) : vp_in (8 + 6 * l + w) 770 := by
  obtain ⟨n, hn, rfl⟩ := rgN (n := 4) hl rfl
  obtain ⟨m, hm, rfl⟩ := rgN (n := 5) hw rfl
  rw [iL_e (by omega) (by omega)]
  exact vp_n (by omega) (by decide)
theorem ixD {l w : Int32} (hl : 0 ≤ l ∧ l ≤ 11) (hw : 0 ≤ w ∧ w ≤ 18) : vp_in (38 + 19 * l + w) 770 := by
  obtain ⟨n, hn, rfl⟩ := rgN (n := 11) hl rfl
  obtain ⟨m, hm, rfl⟩ := rgN (n := 18) hw rfl
  rw [iD_e (by omega) (by omega)]
  exact vp_n (by omega) (by decide)
theorem ixJ {l w : Int32} (hl : 0 ≤ l ∧ l ≤ 3) (hw : 0 ≤ w ∧ w ≤ 5) : vp_in (266 + 6 * l + w) 770 := by
  obtain ⟨n, hn, rfl⟩ := rgN (n := 3) hl rfl
  obtain ⟨m, hm, rfl⟩ := rgN (n := 5) hw rfl
  rw [iJ_e (by omega) (by omega)]
  exact vp_n (by omega) (by decide)
theorem pl_of {c : Int32} (hc : 290 ≤ c ∧ c ≤ 767) : ∃ n : Nat, n ≤ 767 ∧ 290 ≤ n ∧ c = nI n := by
  obtain ⟨n, hn, rfl⟩ := rgN (n := 767) ⟨Int32.le_trans (by decide) hc.1, hc.2⟩ rfl
  refine ⟨n, hn, ?_, rfl⟩
  have h1 := Int32.le_iff_toInt_le.mp hc.1
  rw [nI_toInt (by omega)] at h1
  have h2 : (290 : Int32).toInt = 290 := rfl
  omega
theorem ixc {c : Int32} (hc : 290 ≤ c ∧ c ≤ 767) : vp_in c 770 := by
  obtain ⟨n, hn, -, rfl⟩ := pl_of hc
  exact vp_n (by omega) (by decide)
theorem ixc1 {c : Int32} (hc : 290 ≤ c ∧ c ≤ 767) : vp_in (c + 1) 770 := by
  obtain ⟨n, hn, -, rfl⟩ := pl_of hc
  rw [nI_1]
  exact vp_n (by omega) (by decide)
theorem nI_2 (n : Nat) : nI n + 2 = nI (n + 2) := nI_add n 2
theorem ixc2 {c : Int32} (hc : 290 ≤ c ∧ c ≤ 767) : vp_in (c + 2) 770 := by
  obtain ⟨n, hn, -, rfl⟩ := pl_of hc
  rw [nI_2]
  exact vp_n (by omega) (by decide)
theorem ixcj {c : Int32} {j : Nat} (hc : 290 ≤ c ∧ c ≤ 767) (hj : j < 3) : vp_in (c + nI j) 770 := by
  obtain ⟨n, hn, -, rfl⟩ := pl_of hc
  rw [nI_add]
  exact vp_n (by omega) (by decide)
theorem mc_rg {l p : Int32} (hl : 0 ≤ l ∧ l ≤ 4) (hp : 0 ≤ p ∧ p ≤ 31) : 290 ≤ mc l p ∧ mc l p ≤ 767 := by
  obtain ⟨n, hn, rfl⟩ := rgN (n := 4) hl rfl
  obtain ⟨m, hm, rfl⟩ := rgN (n := 31) hp rfl
  rw [mc_e]
  exact ⟨nI_le (a := 290) (by omega) (by omega), nI_le (b := 767) (by omega) (by decide)⟩
/-- the numbers that are places or counts -/
def cQ (i : Nat) : Bool := i == 5 || i == 6 || i == 7 || (Nat.ble 8 i && Nat.blt i 38 && (i - 8) % 6 == 0) || (Nat.ble 38 i && Nat.blt i 266 && ((i - 38) % 19 == 0 || (i - 38) % 19 == 1 || (i - 38) % 19 == 2)) || (Nat.ble 266 i && Nat.blt i 290 && Nat.blt ((i - 266) % 6) 4)
def cS (i : Nat) : Bool := Nat.ble 38 i && Nat.blt i 266 && (i - 38) % 19 == 5
def cK (i : Nat) : Bool := cQ i || cS i
def KP (a b : Nat → Int32) : Prop := ∀ i, cK i = true → b i = a i
def KQ (a b : Nat → Int32) : Prop := ∀ i, cQ i = true → b i = a i
theorem cK_Q {i : Nat} (h : cQ i = true) : cK i = true := by unfold cK; rw [h]; rfl
theorem KP.Q {a b : Nat → Int32} (h : KP a b) : KQ a b := fun i hi => h i (cK_Q hi)
theorem KP.rf {a : Nat → Int32} : KP a a := fun _ _ => rfl
theorem KQ.rf {a : Nat → Int32} : KQ a a := fun _ _ => rfl
theorem KP.tr {a b c : Nat → Int32} (h : KP a b) (h2 : KP b c) : KP a c := fun i hi => (h2 i hi).trans (h i hi)
theorem KQ.tr {a b c : Nat → Int32} (h : KQ a b) (h2 : KQ b c) : KQ a c := fun i hi => (h2 i hi).trans (h i hi)
abbrev KPw (ω w : fOm) : Prop := KP (ω 648) (w 648)
abbrev KQw (ω w : fOm) : Prop := KQ (ω 648) (w 648)
theorem wu_648 {ω : fOm} {j : Nat} {v : Int32} : wu ω 648 j v 648 = upd (ω 648) j v := by unfold wu; rw [if_pos rfl]
theorem KPw.wu {ω w : fOm} {j : Nat} {v : Int32} (h : KPw ω w) (hj : cK j = false) : KPw ω (wu w 648 j v) := by
  intro i hi
  rw [wu_648]
  unfold upd
  rw [if_neg (fun e => by rw [e, hj] at hi; cases hi)]
  exact h i hi
theorem KQw.wu {ω w : fOm} {j : Nat} {v : Int32} (h : KQw ω w) (hj : cQ j = false) : KQw ω (wu w 648 j v) := by
  intro i hi
  rw [wu_648]
  unfold upd
  rw [if_neg (fun e => by rw [e, hj] at hi; cases hi)]
  exact h i hi
theorem ck_L : ∀ n, n < 5 → ∀ m, m < 6 → cQ (8 + 6 * n + m) = (m == 0) ∧ cS (8 + 6 * n + m) = false := by decide +kernel
theorem ck_D : ∀ n, n < 12 → ∀ m, m < 19 → cQ (38 + 19 * n + m) = Nat.blt m 3 ∧ cS (38 + 19 * n + m) = (m == 5) := by decide +kernel
theorem ck_J : ∀ n, n < 4 → ∀ m, m < 6 → cQ (266 + 6 * n + m) = Nat.blt m 4 ∧ cS (266 + 6 * n + m) = false := by decide +kernel
theorem ck_P {i : Nat} (h : 290 ≤ i) : cK i = false := by
  have h1 : (i == 5) = false := beq_eq_false_iff_ne.mpr (by omega)
  have h2 : (i == 6) = false := beq_eq_false_iff_ne.mpr (by omega)
  have h3 : (i == 7) = false := beq_eq_false_iff_ne.mpr (by omega)
  have h4 : Nat.blt i 38 = false := Bool.eq_false_iff.mpr (fun e => by have := Nat.le_of_ble_eq_true e; omega)
  have h5 : Nat.blt i 266 = false := Bool.eq_false_iff.mpr (fun e => by have := Nat.le_of_ble_eq_true e; omega)
  have h6 : Nat.blt i 290 = false := Bool.eq_false_iff.mpr (fun e => by have := Nat.le_of_ble_eq_true e; omega)
  unfold cK cQ cS
  rw [h1, h2, h3, h4, h5, h6]
  simp
theorem ck_L0 {l : Int32} (hl : 0 ≤ l ∧ l ≤ 4) : cQ (iL l 0) = true := by
  obtain ⟨n, hn, rfl⟩ := rgN (n := 4) hl rfl
  rw [show (0 : Int32) = nI 0 from rfl, iL_n (by omega) (by omega), (ck_L n (by omega) 0 (by omega)).1]
  rfl
theorem ck_Lw {l w : Int32} (hl : 0 ≤ l ∧ l ≤ 4) (hw : 1 ≤ w ∧ w ≤ 5) : cK (iL l w) = false := by
  obtain ⟨n, hn, rfl⟩ := rgN (n := 4) hl rfl
  obtain ⟨m, hm, rfl⟩ := rgN (n := 5) ⟨Int32.le_trans (by decide) hw.1, hw.2⟩ rfl
  have h1 := Int32.le_iff_toInt_le.mp hw.1
  rw [nI_toInt (by omega)] at h1
  have h2 : (1 : Int32).toInt = 1 := rfl
  have h3 : (m == 0) = false := beq_eq_false_iff_ne.mpr (by omega)
  have := ck_L n (by omega) m (by omega)
  rw [iL_n (by omega) (by omega)]
  unfold cK
  rw [this.1, this.2, h3]
  rfl
theorem ck_Dw {d w : Int32} (hd : 0 ≤ d ∧ d ≤ 11) (hw : 3 ≤ w ∧ w ≤ 18) (h5 : w ≠ 5) : cK (iD d w) = false := by
  obtain ⟨n, hn, rfl⟩ := rgN (n := 11) hd rfl
  obtain ⟨m, hm, rfl⟩ := rgN (n := 18) ⟨Int32.le_trans (by decide) hw.1, hw.2⟩ rfl
  have h1 := Int32.le_iff_toInt_le.mp hw.1
  rw [nI_toInt (by omega)] at h1
  have h2 : (3 : Int32).toInt = 3 := rfl
  have h3 : Nat.blt m 3 = false := Bool.eq_false_iff.mpr (fun e => by have := Nat.le_of_ble_eq_true e; omega)
  have h4 : (m == 5) = false := beq_eq_false_iff_ne.mpr (fun e => h5 (by rw [e]; rfl))
  have := ck_D n (by omega) m (by omega)
  rw [iD_n (by omega) (by omega)]
  unfold cK
  rw [this.1, this.2, h3, h4]
  rfl
theorem ck_D5 {d : Int32} (hd : 0 ≤ d ∧ d ≤ 11) : cQ (iD d 5) = false ∧ cK (iD d 5) = true := by
  obtain ⟨n, hn, rfl⟩ := rgN (n := 11) hd rfl
  have := ck_D n (by omega) 5 (by omega)
  rw [show (5 : Int32) = nI 5 from rfl, iD_n (by omega) (by omega)]
  unfold cK
  rw [this.1, this.2]
  exact ⟨rfl, rfl⟩
theorem ck_D3 {d w : Int32} (hd : 0 ≤ d ∧ d ≤ 11) (hw : 0 ≤ w ∧ w ≤ 2) : cQ (iD d w) = true := by
  obtain ⟨n, hn, rfl⟩ := rgN (n := 11) hd rfl
  obtain ⟨m, hm, rfl⟩ := rgN (n := 2) hw rfl
  have h3 : Nat.blt m 3 = true := Nat.ble_eq_true_of_le (by omega)
  rw [iD_n (by omega) (by omega), (ck_D n (by omega) m (by omega)).1, h3]
theorem ck_Jw {j w : Int32} (hj : 0 ≤ j ∧ j ≤ 3) (hw : 4 ≤ w ∧ w ≤ 5) : cK (iJ j w) = false := by
  obtain ⟨n, hn, rfl⟩ := rgN (n := 3) hj rfl
  obtain ⟨m, hm, rfl⟩ := rgN (n := 5) ⟨Int32.le_trans (by decide) hw.1, hw.2⟩ rfl
  have h1 := Int32.le_iff_toInt_le.mp hw.1
  rw [nI_toInt (by omega)] at h1
  have h2 : (4 : Int32).toInt = 4 := rfl
  have h3 : Nat.blt m 4 = false := Bool.eq_false_iff.mpr (fun e => by have := Nat.le_of_ble_eq_true e; omega)
  have := ck_J n (by omega) m (by omega)
  rw [iJ_n (by omega) (by omega)]
  unfold cK
  rw [this.1, this.2, h3]
  rfl
theorem ck_J3 {j w : Int32} (hj : 0 ≤ j ∧ j ≤ 3) (hw : 0 ≤ w ∧ w ≤ 3) : cQ (iJ j w) = true := by
  obtain ⟨n, hn, rfl⟩ := rgN (n := 3) hj rfl
  obtain ⟨m, hm, rfl⟩ := rgN (n := 3) hw rfl
  have h3 : Nat.blt m 4 = true := Nat.ble_eq_true_of_le (by omega)
  rw [iJ_n (by omega) (by omega), (ck_J n (by omega) m (by omega)).1, h3]
theorem tn_c {c : Int32} (hc : 290 ≤ c ∧ c ≤ 767) : 290 ≤ c.toNatClampNeg ∧ 290 ≤ (c + 1).toNatClampNeg ∧ 290 ≤ (c + 2).toNatClampNeg := by
  obtain ⟨n, hn, h2, rfl⟩ := pl_of hc
  rw [nI_1, nI_2, nI_clamp (by omega), nI_clamp (by omega), nI_clamp (by omega)]
  omega
theorem tn_cj {c : Int32} {j : Nat} (hc : 290 ≤ c ∧ c ≤ 767) (hj : j < 3) : 290 ≤ (c + nI j).toNatClampNeg := by
  obtain ⟨n, hn, h2, rfl⟩ := pl_of hc
  rw [nI_add, nI_clamp (by omega)]
  omega
/-- what the row must keep to -/
def MW (a : Nat → Int32) : Prop := (0 ≤ a 5 ∧ a 5 ≤ 5) ∧ (0 ≤ a 6 ∧ a 6 ≤ 12) ∧ (0 ≤ a 7 ∧ a 7 ≤ 4) ∧ (∀ l, l < 5 → 0 ≤ a (8 + 6 * l) ∧ a (8 + 6 * l) ≤ 32) ∧
  (∀ d, d < 12 → (0 ≤ a (38 + 19 * d + 1) ∧ a (38 + 19 * d + 1) ≤ 4) ∧ (0 ≤ a (38 + 19 * d + 2) ∧ a (38 + 19 * d + 2) ≤ 31)) ∧
  (∀ j, j < 4 → (0 ≤ a (266 + 6 * j) ∧ a (266 + 6 * j) ≤ 4) ∧ (0 ≤ a (266 + 6 * j + 1) ∧ a (266 + 6 * j + 1) ≤ 31) ∧ (0 ≤ a (266 + 6 * j + 2) ∧ a (266 + 6 * j + 2) ≤ 4) ∧ (0 ≤ a (266 + 6 * j + 3) ∧ a (266 + 6 * j + 3) ≤ 31)) ∧
  (∀ d, d < 12 → a (38 + 19 * d) = 1 ∨ a (38 + 19 * d) = 2 → 0 ≤ a (38 + 19 * d + 5) ∧ a (38 + 19 * d + 5) ≤ 12)
def MSt (a : Nat → Int32) : Prop := ∀ d, d < 12 → a (38 + 19 * d) = 1 ∨ a (38 + 19 * d) = 2 → 0 ≤ a (38 + 19 * d + 5) ∧ a (38 + 19 * d + 5) ≤ 12
theorem MW.q {a b : Nat → Int32} (h : MW a) (k : KQ a b) (s : MSt b) : MW b := by
  obtain ⟨h1, h2, h3, h4, h5, h6, h7⟩ := h
  refine ⟨by rw [k 5 rfl]; exact h1, by rw [k 6 rfl]; exact h2, by rw [k 7 rfl]; exact h3, fun l hl => ?_, fun d hd => ?_, fun j hj => ?_, s⟩
  · rw [k _ (by have := (ck_L l hl 0 (by omega)).1; exact this)]
    exact h4 l hl
  · rw [k _ (by have := (ck_D d hd 1 (by omega)).1; exact this), k _ (by have := (ck_D d hd 2 (by omega)).1; exact this)]
    exact h5 d hd
  · rw [k _ (by have := (ck_J j hj 0 (by omega)).1; exact this), k _ (by have := (ck_J j hj 1 (by omega)).1; exact this), k _ (by have := (ck_J j hj 2 (by omega)).1; exact this), k _ (by have := (ck_J j hj 3 (by omega)).1; exact this)]
    exact h6 j hj
theorem MW.s {a : Nat → Int32} (h : MW a) : MSt a := h.2.2.2.2.2.2
theorem MW.p {a b : Nat → Int32} (h : MW a) (k : KP a b) : MW b := by
  refine h.q k.Q fun d hd => ?_
  rw [k _ (cK_Q (by have := (ck_D d hd 0 (by omega)).1; exact this)), k (38 + 19 * d + 5) (by have := ck_D d hd 5 (by omega); unfold cK; rw [this.1, this.2]; rfl)]
  exact h.s d hd
theorem MW.L {a : Nat → Int32} (h : MW a) {l : Int32} (hl : 0 ≤ l ∧ l ≤ 4) : 0 ≤ a (iL l 0) ∧ a (iL l 0) ≤ 32 := by
  obtain ⟨n, hn, rfl⟩ := rgN (n := 4) hl rfl
  rw [show (0 : Int32) = nI 0 from rfl, iL_n (by omega) (by omega)]
  exact h.2.2.2.1 n (by omega)
theorem MW.D1 {a : Nat → Int32} (h : MW a) {d : Int32} (hd : 0 ≤ d ∧ d ≤ 11) : 0 ≤ a (iD d 1) ∧ a (iD d 1) ≤ 4 := by
  obtain ⟨n, hn, rfl⟩ := rgN (n := 11) hd rfl
  rw [show (1 : Int32) = nI 1 from rfl, iD_n (by omega) (by omega)]
  exact (h.2.2.2.2.1 n (by omega)).1
theorem MW.D2 {a : Nat → Int32} (h : MW a) {d : Int32} (hd : 0 ≤ d ∧ d ≤ 11) : 0 ≤ a (iD d 2) ∧ a (iD d 2) ≤ 31 := by
  obtain ⟨n, hn, rfl⟩ := rgN (n := 11) hd rfl
  rw [show (2 : Int32) = nI 2 from rfl, iD_n (by omega) (by omega)]
  exact (h.2.2.2.2.1 n (by omega)).2
theorem MW.D5 {a : Nat → Int32} (h : MW a) {d : Int32} (hd : 0 ≤ d ∧ d ≤ 11) (hk : a (iD d 0) = 1 ∨ a (iD d 0) = 2) : 0 ≤ a (iD d 5) ∧ a (iD d 5) ≤ 12 := by
  obtain ⟨n, hn, rfl⟩ := rgN (n := 11) hd rfl
  rw [show (0 : Int32) = nI 0 from rfl, iD_n (by omega) (by omega)] at hk
  rw [show (5 : Int32) = nI 5 from rfl, iD_n (by omega) (by omega)]
  exact h.s n (by omega) hk
theorem MW.J {a : Nat → Int32} (h : MW a) {j : Int32} (hj : 0 ≤ j ∧ j ≤ 3) : (0 ≤ a (iJ j 0) ∧ a (iJ j 0) ≤ 4) ∧ (0 ≤ a (iJ j 1) ∧ a (iJ j 1) ≤ 31) ∧ (0 ≤ a (iJ j 2) ∧ a (iJ j 2) ≤ 4) ∧ (0 ≤ a (iJ j 3) ∧ a (iJ j 3) ≤ 31) := by
  obtain ⟨n, hn, rfl⟩ := rgN (n := 3) hj rfl
  rw [show (0 : Int32) = nI 0 from rfl, show (1 : Int32) = nI 1 from rfl, show (2 : Int32) = nI 2 from rfl, show (3 : Int32) = nI 3 from rfl, iJ_n (by omega) (by omega), iJ_n (by omega) (by omega), iJ_n (by omega) (by omega), iJ_n (by omega) (by omega)]
  exact h.2.2.2.2.2.1 n (by omega)
/-- a store is written -/
theorem MSt.st {a : Nat → Int32} {d v : Int32} (h : MSt a) (hd : 0 ≤ d ∧ d ≤ 11) (hv : a (iD d 0) = 1 ∨ a (iD d 0) = 2 → 0 ≤ v ∧ v ≤ 12) : MSt (upd a (iD d 5) v) := by
  obtain ⟨n, hn, rfl⟩ := rgN (n := 11) hd rfl
  rw [show (0 : Int32) = nI 0 from rfl, iD_n (by omega) (by omega)] at hv
  rw [show (5 : Int32) = nI 5 from rfl, iD_n (by omega) (by omega)]
  intro q hq hk
  unfold upd at hk ⊢
  rw [if_neg (by omega)] at hk
  by_cases e : 38 + 19 * q + 5 = 38 + 19 * n + 5
  · have e2 : q = n := by omega
    subst e2
    rw [if_pos rfl]
    exact hv hk
  · rw [if_neg e]
    exact h q hq hk
theorem MW.st {ω : fOm} {d v : Int32} (h : MW (ω 648)) (hd : 0 ≤ d ∧ d ≤ 11) (hv : ω 648 (iD d 0) = 1 ∨ ω 648 (iD d 0) = 2 → 0 ≤ v ∧ v ≤ 12) : MW (wu ω 648 (iD d 5) v 648) := by
  refine h.q (KQw.wu KQ.rf (ck_D5 hd).1) ?_
  rw [wu_648]
  exact MSt.st h.s hd hv
theorem isL_rg {a : Nat → Int32} {l : Int32} (h : MW a) (c : ¬ f_btw l 0 (a 5 - 1) = 0) : 0 ≤ l ∧ l ≤ 4 := by
  have h1 := btw_pl c
  obtain ⟨n, hn, e⟩ := rgN (n := 5) h.1 rfl
  rw [e] at h1
  refine ⟨h1.1, Int32.le_trans h1.2 ?_⟩
  have key : ∀ n, n ≤ 5 → nI n - 1 ≤ 4 := by decide +kernel
  exact key n hn
theorem isD_rg {a : Nat → Int32} {l : Int32} (h : MW a) (c : ¬ f_btw l 0 (a 6 - 1) = 0) : 0 ≤ l ∧ l ≤ 11 := by
  have h1 := btw_pl c
  obtain ⟨n, hn, e⟩ := rgN (n := 12) h.2.1 rfl
  rw [e] at h1
  refine ⟨h1.1, Int32.le_trans h1.2 ?_⟩
  have key : ∀ n, n ≤ 12 → nI n - 1 ≤ 11 := by decide +kernel
  exact key n hn
theorem isJ_rg {a : Nat → Int32} {l : Int32} (h : MW a) (c : ¬ f_btw l 0 (a 7 - 1) = 0) : 0 ≤ l ∧ l ≤ 3 := by
  have h1 := btw_pl c
  obtain ⟨n, hn, e⟩ := rgN (n := 4) h.2.2.1 rfl
  rw [e] at h1
  refine ⟨h1.1, Int32.le_trans h1.2 ?_⟩
  have key : ∀ n, n ≤ 4 → nI n - 1 ≤ 3 := by decide +kernel
  exact key n hn
def m_isP (ω : fOm) (l p : Int32) : Int32 := if f_btw l 0 (ω 648 5 - 1) = 0 then 0 else if f_btw p 0 (ω 648 (iL l 0) - 1) = 0 then 0 else 1
theorem isP_01 (ω : fOm) (l p : Int32) : m_isP ω l p = 0 ∨ m_isP ω l p = 1 := if01 z01 (if01 z01 o01)
theorem isP_rg {ω : fOm} {l p : Int32} (h : MW (ω 648)) (c : ¬ m_isP ω l p = 0) : (0 ≤ l ∧ l ≤ 4) ∧ (0 ≤ p ∧ p ≤ 31) := by
  unfold m_isP at c
  by_cases h1 : f_btw l 0 (ω 648 5 - 1) = 0
  · rw [if_pos h1] at c; exact absurd rfl c
  · rw [if_neg h1] at c
    have hl := isL_rg h h1
    by_cases h2 : f_btw p 0 (ω 648 (iL l 0) - 1) = 0
    · rw [if_pos h2] at c; exact absurd rfl c
    · have h3 := btw_pl h2
      obtain ⟨n, hn, e⟩ := rgN (n := 32) (h.L hl) rfl
      rw [e] at h3
      have key : ∀ n, n ≤ 32 → nI n - 1 ≤ 31 := by decide +kernel
      exact ⟨hl, h3.1, Int32.le_trans h3.2 (key n hn)⟩
/-- the past -/
def MK (ω : fOm) : Prop := (0 ≤ ω 647 2 ∧ ω 647 2 ≤ 5) ∧ (0 ≤ ω 647 3 ∧ ω 647 3 ≤ 6)
def rem6 (x : Int32) : Int32 := x - x / 6 * 6
theorem rem6_n {n : Nat} (h : n < 1000) : rem6 (nI n) = nI (n % 6) := by
  unfold rem6
  exact pk_rem (d := 6) (by omega) (by decide) (by decide)
def m_kp0 (ω : fOm) : fOm := if ω 647 3 = 6 then wu (wu ω 647 2 (rem6 (ω 647 2 + 1))) 647 3 (wu ω 647 2 (rem6 (ω 647 2 + 1)) 647 3 - 1) else ω
def m_kpP (w : fOm) : Int32 := rem6 (w 647 2 + w 647 3)
theorem kp0_648 {ω : fOm} {k : Nat} (hk : k ≠ 647) : m_kp0 ω k = ω k := by
  unfold m_kp0
  split
  · rw [wu_ne hk, wu_ne hk]
  · rfl
theorem kp0_rg {ω : fOm} (h : MK ω) : (0 ≤ m_kp0 ω 647 2 ∧ m_kp0 ω 647 2 ≤ 5) ∧ (0 ≤ m_kp0 ω 647 3 ∧ m_kp0 ω 647 3 ≤ 5) := by
  obtain ⟨n, hn, e⟩ := rgN (n := 5) h.1 rfl
  obtain ⟨m, hm, e2⟩ := rgN (n := 6) h.2 rfl
  unfold m_kp0
  split
  · rename_i c
    have e3 : wu (wu ω 647 2 (rem6 (ω 647 2 + 1))) 647 3 (wu ω 647 2 (rem6 (ω 647 2 + 1)) 647 3 - 1) 647 2 = rem6 (ω 647 2 + 1) := by simp [wu, upd]
    have e4 : wu (wu ω 647 2 (rem6 (ω 647 2 + 1))) 647 3 (wu ω 647 2 (rem6 (ω 647 2 + 1)) 647 3 - 1) 647 3 = ω 647 3 - 1 := by simp [wu, upd]
    rw [e3, e4, c, e, nI_1, rem6_n (by omega)]
    exact ⟨⟨nI_pos' (by omega), nI_le (b := 5) (by omega) (by decide)⟩, by decide⟩
  · rename_i c
    rw [e, e2]
    rw [e2] at c
    have hm5 : m ≤ 5 := by
      rcases Nat.lt_or_ge m 6 with a | a
      · omega
      · have : m = 6 := by omega
        subst this
        exact absurd rfl c
    exact ⟨⟨nI_pos' (by omega), nI_le (b := 5) (by omega) (by decide)⟩, nI_pos' (by omega), nI_le (b := 5) (by omega) (by decide)⟩
theorem kpP_rg {ω : fOm} (h : MK ω) : 0 ≤ m_kpP (m_kp0 ω) ∧ m_kpP (m_kp0 ω) ≤ 5 := by
  obtain ⟨n, hn, e⟩ := rgN (n := 5) (kp0_rg h).1 rfl
  obtain ⟨m, hm, e2⟩ := rgN (n := 5) (kp0_rg h).2 rfl
  unfold m_kpP
  rw [e, e2, nI_add, rem6_n (by omega)]
  exact ⟨nI_pos' (by omega), nI_le (b := 5) (by omega) (by decide)⟩
theorem ixP {p : Int32} {j : Nat} (hp : 0 ≤ p ∧ p ≤ 5) (hj : j < 770) : vp_in (770 * p + nI j) 4620 := by
  obtain ⟨n, hn, rfl⟩ := rgN (n := 5) hp rfl
  rw [show (770 : Int32) = nI 770 from rfl, pk_mul, nI_add]
  exact vp_n (by omega) (by decide)
theorem ixS {p : Int32} {j : Nat} (hp : 0 ≤ p ∧ p ≤ 1) (hj : j < 770) : vp_in (770 * p + nI j) 1540 := by
  obtain ⟨n, hn, rfl⟩ := rgN (n := 1) hp rfl
  rw [show (770 : Int32) = nI 770 from rfl, pk_mul, nI_add]
  exact vp_n (by omega) (by decide)
def m_kpL (p : Int32) (w : fOm) : Nat → fOm
  | 0 => w
  | j + 1 => wu (m_kpL p w j) 649 (770 * p + nI j).toNatClampNeg (m_kpL p w j 648 j)
def m_keep (ω : fOm) : fOm := wu (m_kpL (m_kpP (m_kp0 ω)) (m_kp0 ω) 770) 647 3 (m_kpL (m_kpP (m_kp0 ω)) (m_kp0 ω) 770 647 3 + 1)
def m_kIf (ω : fOm) (b : Int32) : fOm := if b = 0 then ω else m_keep ω
theorem kpL_ne {p : Int32} {w : fOm} {k : Nat} (hk : k ≠ 649) (j : Nat) : m_kpL p w j k = w k := by
  induction j with
  | zero => rfl
  | succ j ih => exact (wu_ne hk).trans ih
theorem keep_648 {ω : fOm} : m_keep ω 648 = ω 648 := by
  unfold m_keep
  rw [wu_ne (by decide), kpL_ne (by decide), kp0_648 (by decide)]
theorem kIf_648 {ω : fOm} {b : Int32} : m_kIf ω b 648 = ω 648 := by
  unfold m_kIf
  split
  · rfl
  · exact keep_648
def m_asL (ω : fOm) : Nat → fOm
  | 0 => ω
  | j + 1 => wu (m_asL ω j) 652 j (m_asL ω j 648 j)
def m_lbL (ω : fOm) : Nat → fOm
  | 0 => ω
  | j + 1 => wu (m_lbL ω j) 648 j (m_lbL ω j 652 j)
def m_aside (ω : fOm) : fOm := m_asL ω 770
def m_back (ω : fOm) : fOm := m_lbL ω 770
theorem asL_ne {w : fOm} {k : Nat} (hk : k ≠ 652) (j : Nat) : m_asL w j k = w k := by
  induction j with
  | zero => rfl
  | succ j ih => exact (wu_ne hk).trans ih
theorem aside_648 {ω : fOm} : m_aside ω 648 = ω 648 := asL_ne (by decide) 770
/-- the places -/
def m_moreL (ω : fOm) (l w : Int32) : fOm := wu ω 648 (iL l w) (ω 648 (iL l w) + 1)
def m_clear (ω : fOm) (c : Int32) : fOm := wu (wu (wu ω 648 c.toNatClampNeg (-6)) 648 (c + 1).toNatClampNeg 0) 648 (c + 2).toNatClampNeg 0
def m_shine (ω : fOm) (l c v : Int32) : fOm :=
  let w1 := wu ω 648 c.toNatClampNeg v
  let w2 := wu w1 648 (c + 1).toNatClampNeg (w1 648 3)
  m_moreL (wu w2 648 (c + 2).toNatClampNeg (w2 648 4)) l 1
def m_mvL (fr tt : Int32) (ω : fOm) : Nat → fOm
  | 0 => ω
  | j + 1 => wu (m_mvL fr tt ω j) 648 (tt + nI j).toNatClampNeg (m_mvL fr tt ω j 648 (fr + nI j).toNatClampNeg)
def m_mv (ω : fOm) (fr tt : Int32) : fOm := m_clear (m_mvL fr tt ω 3) fr
def m_tnL (l x : Int32) (ω : fOm) : Nat → fOm
  | 0 => ω
  | j + 1 => m_mv (m_tnL l x ω j) (mc l (x - nI j - 1)) (mc l (x - nI j))
def m_turnX (ω : fOm) (l x : Int32) : fOm :=
  let w := m_tnL l x ω x.toNatClampNeg
  wu (wu (wu w 648 (mc l 0).toNatClampNeg (ω 648 (mc l x).toNatClampNeg)) 648 (mc l 0 + 1).toNatClampNeg (ω 648 (mc l x + 1).toNatClampNeg)) 648 (mc l 0 + 2).toNatClampNeg (ω 648 (mc l x + 2).toNatClampNeg)
def m_turn (ω : fOm) (l : Int32) : fOm := m_turnX ω l (ω 648 (iL l 0) - 1)
def m_fade (ω : fOm) (l c b_ : Int32) : fOm :=
  let w1 := wu ω 648 (c + 1).toNatClampNeg (ω 648 (c + 1).toNatClampNeg - b_)
  if 0 < w1 648 (c + 1).toNatClampNeg then w1 else m_moreL (m_clear w1 c) l 2
def m_faL (l : Int32) (ω : fOm) : Nat → fOm
  | 0 => ω
  | j + 1 => if m_faL l ω j 648 (mc l (nI j)).toNatClampNeg < 0 then m_faL l ω j else m_fade (m_faL l ω j) l (mc l (nI j)) (m_faL l ω j 648 0)
def m_fadeAll (ω : fOm) (l : Int32) : fOm := m_faL l ω (ω 648 (iL l 0)).toNatClampNeg
def m_did (ω : fOm) (d : Int32) : fOm := wu ω 648 (iD d 6) (ω 648 (iD d 6) + 1)
def m_mn (a b : Int32) : Int32 := if b ≤ a then b else a
def m_amp (ω : fOm) (d c : Int32) : fOm :=
  let b := m_mn (m_mn (ω 648 (iD d 3)) (ω 648 (iD d 5))) (1000 - ω 648 (c + 1).toNatClampNeg)
  let w1 := wu ω 648 (c + 1).toNatClampNeg (ω 648 (c + 1).toNatClampNeg + b)
  let w2 := wu w1 648 (iD d 5) (w1 648 (iD d 5) - b)
  if b ≤ 0 then w2 else m_did w2 d
def m_ntL (d : Int32) (ω : fOm) : Nat → fOm
  | 0 => ω
  | j + 1 => wu (m_ntL d ω j) 648 (iD d (7 + (7 - nI j))) (m_ntL d ω j 648 (iD d (7 + (7 - nI j) - 1)))
def m_nt4 (ω : fOm) (d c : Int32) : fOm :=
  let w1 := m_ntL d ω 7
  let w2 := wu w1 648 (iD d 7) (w1 648 c.toNatClampNeg)
  let w3 := wu w2 648 (iD d 5) (if 8 ≤ w2 648 (iD d 5) then 8 else w2 648 (iD d 5) + 1)
  m_did w3 d
def m_note (ω : fOm) (d c : Int32) : fOm := m_fade (m_nt4 ω d c) (m_nt4 ω d c 648 (iD d 1)) c (m_nt4 ω d c 648 1)
def m_piL (d : Int32) (ω : fOm) : Nat → fOm
  | 0 => ω
  | j + 1 => wu (m_piL d ω j) 648 (iD d (7 + nI j)) (m_piL d ω j 648 (iD d (7 + nI j + 1)))
def m_pi0 (ω : fOm) (d c : Int32) : fOm :=
  let w1 := m_shine ω (ω 648 (iD d 1)) c (ω 648 (iD d 7))
  wu w1 648 (iD d 5) (w1 648 (iD d 5) - 1)
def m_putIn (ω : fOm) (d c : Int32) : fOm := m_did (m_piL d (m_pi0 ω d c) (m_pi0 ω d c 648 (iD d 5)).toNatClampNeg) d
def m_actc (ω : fOm) (d : Int32) : Int32 := mc (ω 648 (iD d 1)) (ω 648 (iD d 2))
def m_act (ω : fOm) (d : Int32) : fOm :=
  if ω 648 (iD d 0) = 0 then (if ω 648 (m_actc ω d).toNatClampNeg < 0 then ω else m_amp ω d (m_actc ω d))
  else if ω 648 (iD d 0) = 1 then (if ω 648 (m_actc ω d).toNatClampNeg < 0 then ω else m_note ω d (m_actc ω d))
  else if ω 648 (iD d 0) = 2 then (if 0 ≤ ω 648 (m_actc ω d).toNatClampNeg then ω else if ω 648 (iD d 5) ≤ 0 then ω else m_putIn ω d (m_actc ω d))
  else if ω 648 (iD d 0) = 3 then (if ω 648 (m_actc ω d).toNatClampNeg = ω 648 (iD d 3) then m_did (wu ω 648 (m_actc ω d).toNatClampNeg (ω 648 (iD d 4))) d else ω)
  else (if ω 648 (m_actc ω d).toNatClampNeg = ω 648 (iD d 3) then m_did (m_moreL (m_clear ω (m_actc ω d)) (m_clear ω (m_actc ω d) 648 (iD d 1)) 3) d else ω)
def m_crossed (ω : fOm) (j fr tt : Int32) : fOm :=
  let w := m_moreL (m_moreL ω fr 5) tt 4
  wu w 648 (iJ j 5) (w 648 (iJ j 5) + 1)
def m_goes (ω : fOm) (n f md : Int32) : Int32 := if md ≤ 0 then 0 else if ω 648 n.toNatClampNeg < 0 then 0 else if md = 1 then 1 else if 0 ≤ ω 648 f.toNatClampNeg then 0 else 1
def m_comes (ω : fOm) (f md : Int32) : Int32 := if md = 1 then (if ω 648 f.toNatClampNeg < 0 then 0 else 1) else 0
def m_swL (n f : Int32) (ω : fOm) : Nat → fOm
  | 0 => ω
  | j + 1 =>
    let v := m_swL n f ω j 648 (n + nI j).toNatClampNeg
    let w1 := wu (m_swL n f ω j) 648 (n + nI j).toNatClampNeg (m_swL n f ω j 648 (f + nI j).toNatClampNeg)
    wu w1 648 (f + nI j).toNatClampNeg v
def m_sw (g k n f : Int32) (ω : fOm) (j : Nat) : fOm := if g = 0 ∧ k = 0 then ω else m_swL n f ω j
def m_crn (ω : fOm) (j : Int32) : Int32 := mc (ω 648 (iJ j 0)) (ω 648 (iJ j 1))
def m_crf (ω : fOm) (j : Int32) : Int32 := mc (ω 648 (iJ j 2)) (ω 648 (iJ j 3))
def m_cr2 (ω : fOm) (j g k : Int32) : fOm :=
  let w1 := if g = 0 then ω else m_crossed ω j (ω 648 (iJ j 0)) (ω 648 (iJ j 2))
  if k = 0 then w1 else m_crossed w1 j (w1 648 (iJ j 2)) (w1 648 (iJ j 0))
def m_crG (ω : fOm) (j : Int32) : Int32 := m_goes ω (m_crn ω j) (m_crf ω j) (ω 648 (iJ j 4))
def m_crC (ω : fOm) (j : Int32) : Int32 := m_comes ω (m_crf ω j) (ω 648 (iJ j 4))
def m_cross (ω : fOm) (j : Int32) : fOm := m_sw (m_crG ω j) (m_crC ω j) (m_crn ω j) (m_crf ω j) (m_cr2 ω j (m_crG ω j) (m_crC ω j)) 3
def m_rec (ω : fOm) (d : Int32) : fOm := if ω 648 (iD d 0) = 0 then wu ω 648 (iD d 5) (if ω 648 (iD d 4) ≤ ω 648 (iD d 5) + ω 648 2 then ω 648 (iD d 4) else ω 648 (iD d 5) + ω 648 2) else ω
def m_q1 (ω : fOm) : Nat → fOm
  | 0 => ω
  | j + 1 => m_fadeAll (m_turn (m_q1 ω j) (nI j)) (nI j)
def m_q2 (ω : fOm) : Nat → fOm
  | 0 => ω
  | j + 1 => m_act (m_q2 ω j) (nI j)
def m_q3 (ω : fOm) : Nat → fOm
  | 0 => ω
  | j + 1 => m_cross (m_q3 ω j) (nI j)
def m_q4 (ω : fOm) : Nat → fOm
  | 0 => ω
  | j + 1 => m_rec (m_q4 ω j) (nI j)
def m_pass (ω : fOm) : fOm :=
  let w1 := m_q1 ω (ω 648 5).toNatClampNeg
  let w2 := m_q2 w1 (w1 648 6).toNatClampNeg
  let w3 := m_q3 w2 (w2 648 7).toNatClampNeg
  let w4 := m_q4 w3 (w3 648 6).toNatClampNeg
  wu w4 648 4 (w4 648 4 + 1)
def m_pN (ω : fOm) : Nat → fOm
  | 0 => ω
  | j + 1 => m_pass (m_pN ω j)
/-- what each leaves as it is -/
theorem moreL_K {ω w : fOm} {l x : Int32} (h : KPw ω w) (hl : 0 ≤ l ∧ l ≤ 4) (hx : 1 ≤ x ∧ x ≤ 5) : KPw ω (m_moreL w l x) := KPw.wu h (ck_Lw hl hx)
theorem clear_K {ω w : fOm} {c : Int32} (h : KPw ω w) (hc : 290 ≤ c ∧ c ≤ 767) : KPw ω (m_clear w c) := KPw.wu (KPw.wu (KPw.wu h (ck_P (tn_c hc).1)) (ck_P (tn_c hc).2.1)) (ck_P (tn_c hc).2.2)
theorem shine_K {ω w : fOm} {l c v : Int32} (h : KPw ω w) (hl : 0 ≤ l ∧ l ≤ 4) (hc : 290 ≤ c ∧ c ≤ 767) : KPw ω (m_shine w l c v) := moreL_K (KPw.wu (KPw.wu (KPw.wu h (ck_P (tn_c hc).1)) (ck_P (tn_c hc).2.1)) (ck_P (tn_c hc).2.2)) hl (by decide)
theorem mvL_K {ω w : fOm} {fr tt : Int32} (h : KPw ω w) (ht : 290 ≤ tt ∧ tt ≤ 767) {j : Nat} (hj : j ≤ 3) : KPw ω (m_mvL fr tt w j) := by
  induction j with
  | zero => exact h
  | succ j ih => exact KPw.wu (ih (by omega)) (ck_P (tn_cj ht (by omega)))
theorem mv_K {ω w : fOm} {fr tt : Int32} (h : KPw ω w) (hf : 290 ≤ fr ∧ fr ≤ 767) (ht : 290 ≤ tt ∧ tt ≤ 767) : KPw ω (m_mv w fr tt) := clear_K (mvL_K h ht (Nat.le_refl 3)) hf
theorem x_of {y : Int32} (h : 0 ≤ y ∧ y ≤ 32) : (y - 1 = -1 ∧ y = 0) ∨ ∃ n : Nat, n ≤ 31 ∧ y - 1 = nI n ∧ y = nI (n + 1) := by
  obtain ⟨n, hn, rfl⟩ := rgN (n := 32) h rfl
  cases n with
  | zero => exact Or.inl ⟨rfl, rfl⟩
  | succ n => exact Or.inr ⟨n, by omega, nI_pred n, rfl⟩
theorem tn_rg {y : Int32} {j : Nat} (h : 0 ≤ y ∧ y ≤ 32) (hj : j < (y - 1).toNatClampNeg) : (0 ≤ y - 1 - nI j - 1 ∧ y - 1 - nI j - 1 ≤ 31) ∧ (0 ≤ y - 1 - nI j ∧ y - 1 - nI j ≤ 31) := by
  rcases x_of h with ⟨e, -⟩ | ⟨n, hn, e, -⟩
  · rw [e] at hj
    exact absurd hj (by simp [show (-1 : Int32).toNatClampNeg = 0 from rfl])
  · rw [e] at hj ⊢
    rw [nI_clamp (by omega)] at hj
    rw [pk_sub (by omega), show (1 : Int32) = nI 1 from rfl, pk_sub (by omega)]
    exact ⟨⟨nI_pos' (by omega), nI_le (b := 31) (by omega) (by decide)⟩, nI_pos' (by omega), nI_le (b := 31) (by omega) (by decide)⟩
theorem tnL_K {ω w : fOm} {l y : Int32} (h : KPw ω w) (hl : 0 ≤ l ∧ l ≤ 4) (hy : 0 ≤ y ∧ y ≤ 32) {j : Nat} (hj : j ≤ (y - 1).toNatClampNeg) : KPw ω (m_tnL l (y - 1) w j) := by
  induction j with
  | zero => exact h
  | succ j ih => exact mv_K (ih (by omega)) (mc_rg hl (tn_rg hy (by omega)).1) (mc_rg hl (tn_rg hy (by omega)).2)
theorem mc0_rg {l : Int32} (hl : 0 ≤ l ∧ l ≤ 4) : 290 ≤ mc l 0 ∧ mc l 0 ≤ 767 := mc_rg hl (by decide)
theorem turn_K {ω w : fOm} {l : Int32} (h : KPw ω w) (hl : 0 ≤ l ∧ l ≤ 4) (hW : MW (w 648)) : KPw ω (m_turn w l) := KPw.wu (KPw.wu (KPw.wu (tnL_K h hl (hW.L hl) (Nat.le_refl _)) (ck_P (tn_c (mc0_rg hl)).1)) (ck_P (tn_c (mc0_rg hl)).2.1)) (ck_P (tn_c (mc0_rg hl)).2.2)
theorem fade_K {ω w : fOm} {l c b_ : Int32} (h : KPw ω w) (hl : 0 ≤ l ∧ l ≤ 4) (hc : 290 ≤ c ∧ c ≤ 767) : KPw ω (m_fade w l c b_) := by
  unfold m_fade
  dsimp only
  split
  · exact KPw.wu h (ck_P (tn_c hc).2.1)
  · exact moreL_K (clear_K (KPw.wu h (ck_P (tn_c hc).2.1)) hc) hl (by decide)
theorem nj_rg {j : Nat} (hj : j < 32) : 0 ≤ nI j ∧ nI j ≤ 31 := ⟨nI_pos' (by omega), nI_le (b := 31) (by omega) (by decide)⟩
theorem faL_K {ω w : fOm} {l : Int32} (h : KPw ω w) (hl : 0 ≤ l ∧ l ≤ 4) {j : Nat} (hj : j ≤ 32) : KPw ω (m_faL l w j) := by
  induction j with
  | zero => exact h
  | succ j ih =>
    unfold m_faL
    split
    · exact ih (by omega)
    · exact fade_K (ih (by omega)) hl (mc_rg hl (nj_rg (by omega)))
theorem fadeAll_K {ω w : fOm} {l : Int32} (h : KPw ω w) (hl : 0 ≤ l ∧ l ≤ 4) (hW : MW (w 648)) : KPw ω (m_fadeAll w l) := faL_K h hl (tn_le (n := 32) (hW.L hl) rfl)
theorem did_K {ω w : fOm} {d : Int32} (h : KPw ω w) (hd : 0 ≤ d ∧ d ≤ 11) : KPw ω (m_did w d) := KPw.wu h (ck_Dw hd (by decide) (by decide))
theorem KP.mw {ω w : fOm} (h : KPw ω w) (hW : MW (ω 648)) : MW (w 648) := hW.p h
theorem amp_K {ω : fOm} {d c : Int32} (hW : MW (ω 648)) (hd : 0 ≤ d ∧ d ≤ 11) (hc : 290 ≤ c ∧ c ≤ 767) (h0 : ω 648 (iD d 0) = 0) : KQw ω (m_amp ω d c) ∧ MW (m_amp ω d c 648) := by
  have h1 : ∀ v, KPw ω (wu ω 648 (c + 1).toNatClampNeg v) := fun v => KPw.wu KP.rf (ck_P (tn_c hc).2.1)
  have h2 : ∀ v u, MW (wu (wu ω 648 (c + 1).toNatClampNeg v) 648 (iD d 5) u 648) := fun v u => MW.st ((h1 v).mw hW) hd (fun hk => by
    rw [h1 v _ (cK_Q (ck_D3 hd (by decide))), h0] at hk
    rcases hk with hk | hk <;> exact absurd hk (by decide))
  have h3 : ∀ v u, KQw ω (wu (wu ω 648 (c + 1).toNatClampNeg v) 648 (iD d 5) u) := fun v u => KQw.wu (h1 v).Q (ck_D5 hd).1
  unfold m_amp
  dsimp only
  split
  · exact ⟨h3 _ _, h2 _ _⟩
  · exact ⟨(h3 _ _).tr (did_K KP.rf hd).Q, (h2 _ _).p (did_K KP.rf hd)⟩
theorem nt_w {j : Nat} (hj : j < 7) : (0 ≤ 7 + (7 - nI j) ∧ 7 + (7 - nI j) ≤ 18) ∧ (0 ≤ 7 + (7 - nI j) - 1 ∧ 7 + (7 - nI j) - 1 ≤ 18) := by
  have key : ∀ j, j < 7 → (0 ≤ 7 + (7 - nI j) ∧ 7 + (7 - nI j) ≤ 18) ∧ (0 ≤ 7 + (7 - nI j) - 1 ∧ 7 + (7 - nI j) - 1 ≤ 18) := by decide +kernel
  exact key j hj
theorem nt_w2 {j : Nat} (hj : j < 7) : (3 ≤ 7 + (7 - nI j) ∧ 7 + (7 - nI j) ≤ 18) ∧ 7 + (7 - nI j) ≠ 5 := by
  have key : ∀ j, j < 7 → (3 ≤ 7 + (7 - nI j) ∧ 7 + (7 - nI j) ≤ 18) ∧ 7 + (7 - nI j) ≠ 5 := by decide +kernel
  exact key j hj
theorem ntL_K {ω w : fOm} {d : Int32} (h : KPw ω w) (hd : 0 ≤ d ∧ d ≤ 11) {j : Nat} (hj : j ≤ 7) : KPw ω (m_ntL d w j) := by
  induction j with
  | zero => exact h
  | succ j ih => exact KPw.wu (ih (by omega)) (ck_Dw hd (nt_w2 (by omega)).1 (nt_w2 (by omega)).2)
theorem nt4_K {ω : fOm} {d c : Int32} (hW : MW (ω 648)) (hd : 0 ≤ d ∧ d ≤ 11) (h1 : ω 648 (iD d 0) = 1) : KQw ω (m_nt4 ω d c) ∧ MW (m_nt4 ω d c 648) := by
  have k2 : ∀ v, KPw ω (wu (m_ntL d ω 7) 648 (iD d 7) v) := fun v => KPw.wu (ntL_K KP.rf hd (Nat.le_refl 7)) (ck_Dw hd (by decide) (by decide))
  unfold m_nt4
  dsimp only
  generalize hw2 : wu (m_ntL d ω 7) 648 (iD d 7) (m_ntL d ω 7 648 c.toNatClampNeg) = w2
  have k3 : KPw ω w2 := hw2 ▸ k2 _
  have hs := hW.D5 hd (Or.inl h1)
  have e5 : w2 648 (iD d 5) = ω 648 (iD d 5) := k3 _ (ck_D5 hd).2
  have hv : 0 ≤ (if 8 ≤ w2 648 (iD d 5) then (8 : Int32) else w2 648 (iD d 5) + 1) ∧ (if 8 ≤ w2 648 (iD d 5) then (8 : Int32) else w2 648 (iD d 5) + 1) ≤ 12 := by
    rw [e5]
    obtain ⟨n, hn, e⟩ := rgN (n := 12) hs rfl
    rw [e]
    have key : ∀ n, n ≤ 12 → 0 ≤ (if 8 ≤ nI n then (8 : Int32) else nI n + 1) ∧ (if 8 ≤ nI n then (8 : Int32) else nI n + 1) ≤ 12 := by decide +kernel
    exact key n hn
  have h3 := MW.st (ω := w2) (d := d) (k3.mw hW) hd (fun _ => hv)
  have h4 : KQw ω (wu w2 648 (iD d 5) (if 8 ≤ w2 648 (iD d 5) then 8 else w2 648 (iD d 5) + 1)) := KQw.wu k3.Q (ck_D5 hd).1
  exact ⟨h4.tr (did_K KP.rf hd).Q, h3.p (did_K KP.rf hd)⟩
theorem note_K {ω : fOm} {d c : Int32} (hW : MW (ω 648)) (hd : 0 ≤ d ∧ d ≤ 11) (hc : 290 ≤ c ∧ c ≤ 767) (h1 : ω 648 (iD d 0) = 1) : KQw ω (m_note ω d c) ∧ MW (m_note ω d c 648) := by
  have h := nt4_K (c := c) hW hd h1
  have hf : KPw (m_nt4 ω d c) (m_note ω d c) := fade_K KP.rf (h.2.D1 hd) hc
  exact ⟨h.1.tr hf.Q, h.2.p hf⟩
theorem pi0_K {ω : fOm} {d c : Int32} (hW : MW (ω 648)) (hd : 0 ≤ d ∧ d ≤ 11) (hc : 290 ≤ c ∧ c ≤ 767) (hs : 0 < ω 648 (iD d 5) ∧ ω 648 (iD d 5) ≤ 12) : KQw ω (m_pi0 ω d c) ∧ MW (m_pi0 ω d c 648) ∧ m_pi0 ω d c 648 (iD d 5) = ω 648 (iD d 5) - 1 ∧ (0 ≤ m_pi0 ω d c 648 (iD d 5) ∧ m_pi0 ω d c 648 (iD d 5) ≤ 11) := by
  have k1 : KPw ω (m_shine ω (ω 648 (iD d 1)) c (ω 648 (iD d 7))) := shine_K KP.rf (hW.D1 hd) hc
  unfold m_pi0
  dsimp only
  generalize m_shine ω (ω 648 (iD d 1)) c (ω 648 (iD d 7)) = w1 at k1
  have e5 : w1 648 (iD d 5) = ω 648 (iD d 5) := k1 _ (ck_D5 hd).2
  have hv : 0 ≤ ω 648 (iD d 5) - 1 ∧ ω 648 (iD d 5) - 1 ≤ 11 := by
    obtain ⟨n, hn, e⟩ := rgN (n := 12) ⟨Int32.le_of_lt hs.1, hs.2⟩ rfl
    rw [e] at hs ⊢
    have key : ∀ n, n ≤ 12 → 0 < nI n → 0 ≤ nI n - 1 ∧ nI n - 1 ≤ 11 := by decide +kernel
    exact key n hn hs.1
  rw [e5]
  have e6 : wu w1 648 (iD d 5) (ω 648 (iD d 5) - 1) 648 (iD d 5) = ω 648 (iD d 5) - 1 := by simp [wu, upd]
  refine ⟨KQw.wu k1.Q (ck_D5 hd).1, MW.st (k1.mw hW) hd (fun _ => ⟨hv.1, Int32.le_trans hv.2 (by decide)⟩), e6, ?_⟩
  rw [e6]
  exact hv
theorem pi_w {j : Nat} (hj : j < 11) : (0 ≤ 7 + nI j ∧ 7 + nI j ≤ 18) ∧ (0 ≤ 7 + nI j + 1 ∧ 7 + nI j + 1 ≤ 18) ∧ (3 ≤ 7 + nI j ∧ 7 + nI j ≤ 18) ∧ 7 + nI j ≠ 5 := by
  have key : ∀ j, j < 11 → (0 ≤ 7 + nI j ∧ 7 + nI j ≤ 18) ∧ (0 ≤ 7 + nI j + 1 ∧ 7 + nI j + 1 ≤ 18) ∧ (3 ≤ 7 + nI j ∧ 7 + nI j ≤ 18) ∧ 7 + nI j ≠ 5 := by decide +kernel
  exact key j hj
theorem piL_K {ω w : fOm} {d : Int32} (h : KPw ω w) (hd : 0 ≤ d ∧ d ≤ 11) {j : Nat} (hj : j ≤ 11) : KPw ω (m_piL d w j) := by
  induction j with
  | zero => exact h
  | succ j ih => exact KPw.wu (ih (by omega)) (ck_Dw hd (pi_w (by omega)).2.2.1 (pi_w (by omega)).2.2.2)
theorem putIn_K {ω : fOm} {d c : Int32} (hW : MW (ω 648)) (hd : 0 ≤ d ∧ d ≤ 11) (hc : 290 ≤ c ∧ c ≤ 767) (hs : 0 < ω 648 (iD d 5) ∧ ω 648 (iD d 5) ≤ 12) : KQw ω (m_putIn ω d c) ∧ MW (m_putIn ω d c 648) := by
  have h := pi0_K hW hd hc hs
  have hp : KPw (m_pi0 ω d c) (m_putIn ω d c) := did_K (piL_K KP.rf hd (tn_le (n := 11) h.2.2.2 rfl)) hd |>.tr KP.rf
  exact ⟨h.1.tr hp.Q, h.2.1.p hp⟩
theorem actc_rg {ω : fOm} {d : Int32} (hW : MW (ω 648)) (hd : 0 ≤ d ∧ d ≤ 11) : 290 ≤ m_actc ω d ∧ m_actc ω d ≤ 767 := mc_rg (hW.D1 hd) (hW.D2 hd)
theorem act_K {ω : fOm} {d : Int32} (hW : MW (ω 648)) (hd : 0 ≤ d ∧ d ≤ 11) : KQw ω (m_act ω d) ∧ MW (m_act ω d 648) := by
  have hc := actc_rg hW hd
  have z : KQw ω ω ∧ MW (ω 648) := ⟨KQ.rf, hW⟩
  unfold m_act
  split
  · rename_i h0
    split
    · exact z
    · exact amp_K hW hd hc h0
  · split
    · rename_i h1
      split
      · exact z
      · exact note_K hW hd hc h1
    · split
      · rename_i h2
        split
        · exact z
        · split
          · exact z
          · rename_i h5
            exact putIn_K hW hd hc ⟨Int32.not_le.mp h5, (hW.D5 hd (Or.inr h2)).2⟩
      · split
        · split
          · have k : KPw ω (m_did (wu ω 648 (m_actc ω d).toNatClampNeg (ω 648 (iD d 4))) d) := did_K (KPw.wu KP.rf (ck_P (tn_c hc).1)) hd
            exact ⟨k.Q, hW.p k⟩
          · exact z
        · split
          · have k1 : KPw ω (m_clear ω (m_actc ω d)) := clear_K KP.rf hc
            have k : KPw ω (m_did (m_moreL (m_clear ω (m_actc ω d)) (m_clear ω (m_actc ω d) 648 (iD d 1)) 3) d) := did_K (moreL_K k1 ((k1.mw hW).D1 hd) (by decide)) hd
            exact ⟨k.Q, hW.p k⟩
          · exact z
theorem crossed_K {ω w : fOm} {j fr tt : Int32} (h : KPw ω w) (hj : 0 ≤ j ∧ j ≤ 3) (hf : 0 ≤ fr ∧ fr ≤ 4) (ht : 0 ≤ tt ∧ tt ≤ 4) : KPw ω (m_crossed w j fr tt) := KPw.wu (moreL_K (moreL_K h hf (by decide)) ht (by decide)) (ck_Jw hj (by decide))
theorem cr1_K {ω : fOm} {j g : Int32} (hW : MW (ω 648)) (hj : 0 ≤ j ∧ j ≤ 3) : KPw ω (if g = 0 then ω else m_crossed ω j (ω 648 (iJ j 0)) (ω 648 (iJ j 2))) := by
  have hJ := hW.J hj
  split
  · exact KP.rf
  · exact crossed_K KP.rf hj hJ.1 hJ.2.2.1
theorem sw_0 {g k n f : Int32} {w : fOm} : m_sw g k n f w 0 = w := by
  unfold m_sw
  split <;> rfl
theorem sw_x {g k n f : Int32} {w : fOm} {i j : Nat} (h : g = 0 ∧ k = 0) : m_sw g k n f w j = m_sw g k n f w i := by
  unfold m_sw
  rw [if_pos h, if_pos h]
theorem sw_s {g k n f : Int32} {w : fOm} {j : Nat} (h : ¬ (g = 0 ∧ k = 0)) : wu (wu (m_sw g k n f w j) 648 (n + nI j).toNatClampNeg (m_sw g k n f w j 648 (f + nI j).toNatClampNeg)) 648 (f + nI j).toNatClampNeg (m_sw g k n f w j 648 (n + nI j).toNatClampNeg) = m_sw g k n f w (j + 1) := by
  unfold m_sw
  rw [if_neg h, if_neg h]
  rfl
theorem cr2_K {ω : fOm} {j g k : Int32} (hW : MW (ω 648)) (hj : 0 ≤ j ∧ j ≤ 3) : KPw ω (m_cr2 ω j g k) := by
  have hJ := hW.J hj
  have k1 : KPw ω (if g = 0 then ω else m_crossed ω j (ω 648 (iJ j 0)) (ω 648 (iJ j 2))) := by
    split
    · exact KP.rf
    · exact crossed_K KP.rf hj hJ.1 hJ.2.2.1
  unfold m_cr2
  dsimp only
  split
  · exact k1
  · have hJ2 := (k1.mw hW).J hj
    exact crossed_K k1 hj hJ2.2.2.1 hJ2.1
theorem crn_rg {ω : fOm} {j : Int32} (hW : MW (ω 648)) (hj : 0 ≤ j ∧ j ≤ 3) : 290 ≤ m_crn ω j ∧ m_crn ω j ≤ 767 := mc_rg (hW.J hj).1 (hW.J hj).2.1
theorem crf_rg {ω : fOm} {j : Int32} (hW : MW (ω 648)) (hj : 0 ≤ j ∧ j ≤ 3) : 290 ≤ m_crf ω j ∧ m_crf ω j ≤ 767 := mc_rg (hW.J hj).2.2.1 (hW.J hj).2.2.2
theorem swL_K {ω w : fOm} {n f : Int32} (h : KPw ω w) (hn : 290 ≤ n ∧ n ≤ 767) (hf : 290 ≤ f ∧ f ≤ 767) {j : Nat} (hj : j ≤ 3) : KPw ω (m_swL n f w j) := by
  induction j with
  | zero => exact h
  | succ j ih => exact KPw.wu (KPw.wu (ih (by omega)) (ck_P (tn_cj hn (by omega)))) (ck_P (tn_cj hf (by omega)))
theorem sw_K {ω w : fOm} {g k n f : Int32} (h : KPw ω w) (hn : 290 ≤ n ∧ n ≤ 767) (hf : 290 ≤ f ∧ f ≤ 767) {j : Nat} (hj : j ≤ 3) : KPw ω (m_sw g k n f w j) := by
  unfold m_sw
  split
  · exact h
  · exact swL_K h hn hf hj
theorem cross_K {ω : fOm} {j : Int32} (hW : MW (ω 648)) (hj : 0 ≤ j ∧ j ≤ 3) : KPw ω (m_cross ω j) := sw_K (cr2_K hW hj) (crn_rg hW hj) (crf_rg hW hj) (Nat.le_refl 3)
theorem rec_K {ω : fOm} {d : Int32} (hW : MW (ω 648)) (hd : 0 ≤ d ∧ d ≤ 11) : KQw ω (m_rec ω d) ∧ MW (m_rec ω d 648) := by
  unfold m_rec
  split
  · rename_i h0
    exact ⟨KQw.wu KQ.rf (ck_D5 hd).1, MW.st hW hd (fun hk => by
      rw [h0] at hk
      rcases hk with hk | hk <;> exact absurd hk (by decide))⟩
  · exact ⟨KQ.rf, hW⟩
theorem nj4 {j : Nat} (hj : j < 5) : 0 ≤ nI j ∧ nI j ≤ 4 := ⟨nI_pos' (by omega), nI_le (b := 4) (by omega) (by decide)⟩
theorem nj11 {j : Nat} (hj : j < 12) : 0 ≤ nI j ∧ nI j ≤ 11 := ⟨nI_pos' (by omega), nI_le (b := 11) (by omega) (by decide)⟩
theorem nj3 {j : Nat} (hj : j < 4) : 0 ≤ nI j ∧ nI j ≤ 3 := ⟨nI_pos' (by omega), nI_le (b := 3) (by omega) (by decide)⟩
abbrev KW (ω w : fOm) : Prop := KQw ω w ∧ MW (w 648)
theorem q1_K {ω w : fOm} (h : KW ω w) {j : Nat} (hj : j ≤ 5) : KW ω (m_q1 w j) := by
  induction j with
  | zero => exact h
  | succ j ih =>
    have i := ih (by omega)
    have hl := nj4 (j := j) (by omega)
    have k1 : KPw (m_q1 w j) (m_turn (m_q1 w j) (nI j)) := turn_K KP.rf hl i.2
    have k2 : KPw (m_turn (m_q1 w j) (nI j)) (m_q1 w (j + 1)) := fadeAll_K KP.rf hl (k1.mw i.2)
    exact ⟨i.1.tr (k1.tr k2).Q, (k1.tr k2).mw i.2⟩
theorem q2_K {ω w : fOm} (h : KW ω w) {j : Nat} (hj : j ≤ 12) : KW ω (m_q2 w j) := by
  induction j with
  | zero => exact h
  | succ j ih =>
    have i := ih (by omega)
    have k := act_K i.2 (nj11 (j := j) (by omega))
    exact ⟨i.1.tr k.1, k.2⟩
theorem q3_K {ω w : fOm} (h : KW ω w) {j : Nat} (hj : j ≤ 4) : KW ω (m_q3 w j) := by
  induction j with
  | zero => exact h
  | succ j ih =>
    have i := ih (by omega)
    have k := cross_K i.2 (nj3 (j := j) (by omega))
    exact ⟨i.1.tr k.Q, k.mw i.2⟩
theorem q4_K {ω w : fOm} (h : KW ω w) {j : Nat} (hj : j ≤ 12) : KW ω (m_q4 w j) := by
  induction j with
  | zero => exact h
  | succ j ih =>
    have i := ih (by omega)
    have k := rec_K i.2 (nj11 (j := j) (by omega))
    exact ⟨i.1.tr k.1, k.2⟩
theorem MW.n5 {a : Nat → Int32} (h : MW a) : (a 5).toNatClampNeg ≤ 5 := tn_le h.1 rfl
theorem MW.n6 {a : Nat → Int32} (h : MW a) : (a 6).toNatClampNeg ≤ 12 := tn_le h.2.1 rfl
theorem MW.n7 {a : Nat → Int32} (h : MW a) : (a 7).toNatClampNeg ≤ 4 := tn_le h.2.2.1 rfl
theorem pass_K {ω : fOm} (hW : MW (ω 648)) : KW ω (m_pass ω) := by
  have h1 := q1_K (w := ω) ⟨KQ.rf, hW⟩ hW.n5
  have h2 := q2_K h1 h1.2.n6
  have h3 := q3_K h2 h2.2.n7
  have h4 := q4_K h3 h3.2.n6
  unfold m_pass
  dsimp only
  generalize m_q4 (m_q3 (m_q2 (m_q1 ω (ω 648 5).toNatClampNeg) (m_q1 ω (ω 648 5).toNatClampNeg 648 6).toNatClampNeg) (m_q2 (m_q1 ω (ω 648 5).toNatClampNeg) (m_q1 ω (ω 648 5).toNatClampNeg 648 6).toNatClampNeg 648 7).toNatClampNeg) (m_q3 (m_q2 (m_q1 ω (ω 648 5).toNatClampNeg) (m_q1 ω (ω 648 5).toNatClampNeg 648 6).toNatClampNeg) (m_q2 (m_q1 ω (ω 648 5).toNatClampNeg) (m_q1 ω (ω 648 5).toNatClampNeg 648 6).toNatClampNeg 648 7).toNatClampNeg 648 6).toNatClampNeg = w4 at h4
  have k : KPw w4 (wu w4 648 4 (w4 648 4 + 1)) := KPw.wu KP.rf (by decide)
  exact ⟨h4.1.tr k.Q, k.mw h4.2⟩
theorem pN_K {ω : fOm} (hW : MW (ω 648)) (n : Nat) : KW ω (m_pN ω n) := by
  induction n with
  | zero => exact ⟨KQ.rf, hW⟩
  | succ n ih => exact ⟨ih.1.tr (pass_K ih.2).1, (pass_K ih.2).2⟩
theorem sub_0 (x : Int32) : x = x - nI 0 := by
  rw [nI_0, Int32.sub_zero]
theorem sub_n (x : Int32) (j : Nat) : x - nI j + (-1) = x - nI (j + 1) := by
  rw [nI_succ]
  simp only [Int32.sub_eq_add_neg, Int32.neg_add, Int32.add_assoc]
theorem tn_ge {y : Int32} {j : Nat} (h : 0 ≤ y ∧ y ≤ 32) (c : y - 1 - nI j ≤ 0) (hj : j ≤ (y - 1).toNatClampNeg) : j = (y - 1).toNatClampNeg := by
  rcases x_of h with ⟨e, -⟩ | ⟨n, hn, e, -⟩
  · rw [e] at hj ⊢
    rw [show (-1 : Int32).toNatClampNeg = 0 from rfl] at hj ⊢
    omega
  · rw [e] at c hj ⊢
    rw [nI_clamp (by omega)] at hj ⊢
    rw [pk_sub hj] at c
    have h1 := Int32.le_iff_toInt_le.mp c
    rw [nI_toInt (by omega)] at h1
    have h2 : (0 : Int32).toInt = 0 := rfl
    omega
theorem tn_lt2 {y : Int32} {j : Nat} (h : 0 ≤ y ∧ y ≤ 32) (c : ¬ y - 1 - nI j ≤ 0) (hj : j ≤ (y - 1).toNatClampNeg) : j < (y - 1).toNatClampNeg := by
  rcases Nat.lt_or_ge j (y - 1).toNatClampNeg with a | a
  · exact a
  · exfalso
    have e1 : j = (y - 1).toNatClampNeg := by omega
    apply c
    rcases x_of h with ⟨e, -⟩ | ⟨n, hn, e, -⟩
    · rw [e] at e1 ⊢
      rw [show (-1 : Int32).toNatClampNeg = 0 from rfl] at e1
      subst e1
      decide
    · rw [e] at e1 ⊢
      rw [nI_clamp (by omega)] at e1
      subst e1
      rw [pk_sub (Nat.le_refl _), Nat.sub_self]
      decide
theorem ixl {l y : Int32} (hl : 0 ≤ l ∧ l ≤ 4) (hy : 0 ≤ y ∧ y ≤ 32) : vp_in (mc l (y - 1)) 770 ∧ vp_in (mc l (y - 1) + 1) 770 ∧ vp_in (mc l (y - 1) + 2) 770 := by
  rcases x_of hy with ⟨e, -⟩ | ⟨n, hn, e, -⟩
  · rw [e]
    obtain ⟨m, hm, rfl⟩ := rgN (n := 4) hl rfl
    have key : ∀ m, m ≤ 4 → mc (nI m) (-1) = nI (287 + 96 * m) := by decide +kernel
    rw [key m hm, nI_1, nI_2]
    exact ⟨vp_n (by omega) (by decide), vp_n (by omega) (by decide), vp_n (by omega) (by decide)⟩
  · rw [e]
    have hc := mc_rg hl (nj_rg (j := n) (by omega))
    exact ⟨ixc hc, ixc1 hc, ixc2 hc⟩
theorem nt_ge {j : Nat} (c : 7 - nI j ≤ 0) (hj : j ≤ 7) : j = 7 := by
  have key : ∀ j, j ≤ 7 → 7 - nI j ≤ 0 → j = 7 := by decide +kernel
  exact key j hj c
theorem nt_lt {j : Nat} (c : ¬ 7 - nI j ≤ 0) (hj : j ≤ 7) : j < 7 := by
  have key : ∀ j, j ≤ 7 → ¬ 7 - nI j ≤ 0 → j < 7 := by decide +kernel
  exact key j hj c
set_option maxHeartbeats 4000000 in
set_option maxRecDepth 100000 in
theorem tX8_in (l0 : Launch) (G : fG) (F : Nat) (ω : fOm) (hI : Inv ω) (n : Int32) (lo : Int32) (hi : Int32) : CT l0 G F yX8_in cX8_in 3 (some .boolean) 0 [.int n, .int lo, .int hi] ω (some (.int (f_btw n lo hi))) ω := by
  refine ct_met (own := RX8) (by decide +kernel) rfl (Nat.le_of_ble_eq_true rfl) (fun X hXl hX h => ?_)
  subst hXl
  refine g_iload_n h 0 dX8_in_0 rfl ?_
  refine g_iload_n h 1 dX8_in_1 rfl ?_
  refine g_icmp_lt (tgt := 14) h dX8_in_2 (by decide) (fun c1 => ?_) (fun c1 => ?_)
  · refine g_iconst (v := 0) h dX8_in_14 (by decide) ?_
    exact e_zret h hI dX8_in_15 (nz (f_btw_01 _ _ _)) (by skip; first | contradiction | (unfold f_btw; simp only [c1, ↓reduceIte]; done) | (unfold f_btw; simp only [c1, ↓reduceIte] <;> rfl) | rfl | (unfold f_btw; simp [c1]; done)) rfl
  · refine g_iload_n h 0 dX8_in_5 rfl ?_
    refine g_iload_n h 2 dX8_in_6 rfl ?_
    refine g_icmp_gt (tgt := 14) h dX8_in_7 (by decide) (fun c2 => ?_) (fun c2 => ?_)
    · refine g_iconst (v := 0) h dX8_in_14 (by decide) ?_
      exact e_zret h hI dX8_in_15 (nz (f_btw_01 _ _ _)) (by skip; first | contradiction | (unfold f_btw; simp only [c1, c2, ↓reduceIte]; done) | (unfold f_btw; simp only [c1, c2, ↓reduceIte] <;> rfl) | rfl | (unfold f_btw; simp [c1, c2]; done)) rfl
    · refine g_iconst (v := 1) h dX8_in_10 (by decide) ?_
      refine g_goto (tgt := 15) h dX8_in_11 (by decide) ?_
      exact e_zret h hI dX8_in_15 (nz (f_btw_01 _ _ _)) (by skip; first | contradiction | (unfold f_btw; simp only [c1, c2, ↓reduceIte]; done) | (unfold f_btw; simp only [c1, c2, ↓reduceIte] <;> rfl) | rfl | (unfold f_btw; simp [c1, c2]; done)) rfl
set_option maxHeartbeats 4000000 in
set_option maxRecDepth 100000 in
theorem tX8_ofL (l0 : Launch) (G : fG) (F : Nat) (ω : fOm) (hI : Inv ω) (l : Int32) (w : Int32) (hl : 0 ≤ l ∧ l ≤ 4) (hw : 0 ≤ w ∧ w ≤ 5) : CT l0 G F yX8_ofL cX8_ofL 3 (some .int) 0 [.ref (F + 647), .int l, .int w] ω (some (.int (ω 648 (iL l w)))) ω := by
  refine ct_met (own := RX8) (by decide +kernel) rfl (Nat.le_of_ble_eq_true rfl) (fun X hXl hX h => ?_)
  subst hXl
  refine g_aload_n h 0 dX8_ofL_0 rfl ?_
  refine q_8_at h rfl tw_708 dX8_ofL_1 ?_
  refine g_bipush (v := 8) h dX8_ofL_4 (by decide) ?_
  refine g_bipush (v := 6) h dX8_ofL_6 (by decide) ?_
  refine g_iload_n h 1 dX8_ofL_8 rfl ?_
  refine g_imul h dX8_ofL_9 (g_name fun v1 hv1 => ?_)
  refine g_iadd h dX8_ofL_10 (g_name fun v2 hv2 => ?_)
  refine g_iload_n h 2 dX8_ofL_11 rfl ?_
  refine g_iadd h dX8_ofL_12 (g_name fun v3 hv3 => ?_)
  refine g_ia (q := 22) h rfl rfl (by decide) (by replace hv1 := hv1.symm; replace hv2 := hv2.symm; replace hv3 := hv3.symm; subst hv3 hv2 hv1; exact ixL hl hw) dX8_ofL_13 (fun v4 hv4 => ?_)
  exact e_iret h hI dX8_ofL_14 (by replace hv1 := hv1.symm; replace hv2 := hv2.symm; replace hv3 := hv3.symm; replace hv4 := hv4.symm; subst hv4 hv3 hv2 hv1; first | rfl | contradiction) rfl
set_option maxHeartbeats 4000000 in
set_option maxRecDepth 100000 in
theorem tX8_moreL (l0 : Launch) (G : fG) (F : Nat) (ω : fOm) (hI : Inv ω) (l : Int32) (w : Int32) (hl : 0 ≤ l ∧ l ≤ 4) (hw : 0 ≤ w ∧ w ≤ 5) : CT l0 G F yX8_moreL cX8_moreL 3 none 0 [.ref (F + 647), .int l, .int w] ω none (m_moreL ω l w) := by
  refine ct_met (own := RX8) (by decide +kernel) rfl (Nat.le_of_ble_eq_true rfl) (fun X hXl hX h => ?_)
  subst hXl
  refine g_aload_n h 0 dX8_moreL_0 rfl ?_
  refine q_8_at h rfl tw_708 dX8_moreL_1 ?_
  refine g_bipush (v := 8) h dX8_moreL_4 (by decide) ?_
  refine g_bipush (v := 6) h dX8_moreL_6 (by decide) ?_
  refine g_iload_n h 1 dX8_moreL_8 rfl ?_
  refine g_imul h dX8_moreL_9 (g_name fun v1 hv1 => ?_)
  refine g_iadd h dX8_moreL_10 (g_name fun v2 hv2 => ?_)
  refine g_iload_n h 2 dX8_moreL_11 rfl ?_
  refine g_iadd h dX8_moreL_12 (g_name fun v3 hv3 => ?_)
  refine g_dup2 h dX8_moreL_13 rfl rfl ?_
  refine g_ia (q := 22) h rfl rfl (by decide) (by replace hv1 := hv1.symm; replace hv2 := hv2.symm; replace hv3 := hv3.symm; subst hv3 hv2 hv1; exact ixL hl hw) dX8_moreL_14 (fun v4 hv4 => ?_)
  refine g_iconst (v := 1) h dX8_moreL_15 (by decide) ?_
  refine g_iadd h dX8_moreL_16 (g_name fun v5 hv5 => ?_)
  refine g_is (q := 22) h hI rfl rfl (by decide) (by replace hv1 := hv1.symm; replace hv2 := hv2.symm; replace hv3 := hv3.symm; replace hv4 := hv4.symm; replace hv5 := hv5.symm; subst hv5 hv4 hv3 hv2 hv1; exact ixL hl hw) dX8_moreL_17 (fun w6 hw6 iw6 => ?_)
  exact e_vret h iw6 dX8_moreL_18 (by clear iw6; replace hv1 := hv1.symm; replace hv2 := hv2.symm; replace hv3 := hv3.symm; replace hv4 := hv4.symm; replace hv5 := hv5.symm; replace hw6 := hw6.symm; subst hw6 hv5 hv4 hv3 hv2 hv1; first | rfl | contradiction)
set_option maxHeartbeats 4000000 in
set_option maxRecDepth 100000 in
theorem tX8_ofD (l0 : Launch) (G : fG) (F : Nat) (ω : fOm) (hI : Inv ω) (d : Int32) (w : Int32) (hd : 0 ≤ d ∧ d ≤ 11) (hw : 0 ≤ w ∧ w ≤ 18) : CT l0 G F yX8_ofD cX8_ofD 3 (some .int) 0 [.ref (F + 647), .int d, .int w] ω (some (.int (ω 648 (iD d w)))) ω := by
  refine ct_met (own := RX8) (by decide +kernel) rfl (Nat.le_of_ble_eq_true rfl) (fun X hXl hX h => ?_)
  subst hXl
  refine g_aload_n h 0 dX8_ofD_0 rfl ?_
  refine q_8_at h rfl tw_708 dX8_ofD_1 ?_
  refine g_bipush (v := 38) h dX8_ofD_4 (by decide) ?_
  refine g_bipush (v := 19) h dX8_ofD_6 (by decide) ?_
  refine g_iload_n h 1 dX8_ofD_8 rfl ?_
  refine g_imul h dX8_ofD_9 (g_name fun v1 hv1 => ?_)
  refine g_iadd h dX8_ofD_10 (g_name fun v2 hv2 => ?_)
  refine g_iload_n h 2 dX8_ofD_11 rfl ?_
  refine g_iadd h dX8_ofD_12 (g_name fun v3 hv3 => ?_)
  refine g_ia (q := 22) h rfl rfl (by decide) (by replace hv1 := hv1.symm; replace hv2 := hv2.symm; replace hv3 := hv3.symm; subst hv3 hv2 hv1; exact ixD hd hw) dX8_ofD_13 (fun v4 hv4 => ?_)
  exact e_iret h hI dX8_ofD_14 (by replace hv1 := hv1.symm; replace hv2 := hv2.symm; replace hv3 := hv3.symm; replace hv4 := hv4.symm; subst hv4 hv3 hv2 hv1; first | rfl | contradiction) rfl
set_option maxHeartbeats 4000000 in
set_option maxRecDepth 100000 in
theorem tX8_layD (l0 : Launch) (G : fG) (F : Nat) (ω : fOm) (hI : Inv ω) (d : Int32) (w : Int32) (v : Int32) (hd : 0 ≤ d ∧ d ≤ 11) (hw : 0 ≤ w ∧ w ≤ 18) : CT l0 G F yX8_layD cX8_layD 4 none 0 [.ref (F + 647), .int d, .int w, .int v] ω none (wu ω 648 (iD d w) v) := by
  refine ct_met (own := RX8) (by decide +kernel) rfl (Nat.le_of_ble_eq_true rfl) (fun X hXl hX h => ?_)
  subst hXl
  refine g_aload_n h 0 dX8_layD_0 rfl ?_
  refine q_8_at h rfl tw_708 dX8_layD_1 ?_
  refine g_bipush (v := 38) h dX8_layD_4 (by decide) ?_
  refine g_bipush (v := 19) h dX8_layD_6 (by decide) ?_
  refine g_iload_n h 1 dX8_layD_8 rfl ?_
  refine g_imul h dX8_layD_9 (g_name fun v1 hv1 => ?_)
  refine g_iadd h dX8_layD_10 (g_name fun v2 hv2 => ?_)
  refine g_iload_n h 2 dX8_layD_11 rfl ?_
  refine g_iadd h dX8_layD_12 (g_name fun v3 hv3 => ?_)
  refine g_iload_n h 3 dX8_layD_13 rfl ?_
  refine g_is (q := 22) h hI rfl rfl (by decide) (by replace hv1 := hv1.symm; replace hv2 := hv2.symm; replace hv3 := hv3.symm; subst hv3 hv2 hv1; exact ixD hd hw) dX8_layD_14 (fun w4 hw4 iw4 => ?_)
  exact e_vret h iw4 dX8_layD_15 (by clear iw4; replace hv1 := hv1.symm; replace hv2 := hv2.symm; replace hv3 := hv3.symm; replace hw4 := hw4.symm; subst hw4 hv3 hv2 hv1; first | rfl | contradiction)
set_option maxHeartbeats 4000000 in
set_option maxRecDepth 100000 in
theorem tX8_ofJ (l0 : Launch) (G : fG) (F : Nat) (ω : fOm) (hI : Inv ω) (j : Int32) (w : Int32) (hj : 0 ≤ j ∧ j ≤ 3) (hw : 0 ≤ w ∧ w ≤ 5) : CT l0 G F yX8_ofJ cX8_ofJ 3 (some .int) 0 [.ref (F + 647), .int j, .int w] ω (some (.int (ω 648 (iJ j w)))) ω := by
  refine ct_met (own := RX8) (by decide +kernel) rfl (Nat.le_of_ble_eq_true rfl) (fun X hXl hX h => ?_)
  subst hXl
  refine g_aload_n h 0 dX8_ofJ_0 rfl ?_
  refine q_8_at h rfl tw_708 dX8_ofJ_1 ?_
  refine g_sipush (v := 266) h dX8_ofJ_4 (by decide) ?_
  refine g_bipush (v := 6) h dX8_ofJ_7 (by decide) ?_
  refine g_iload_n h 1 dX8_ofJ_9 rfl ?_
  refine g_imul h dX8_ofJ_10 (g_name fun v1 hv1 => ?_)
  refine g_iadd h dX8_ofJ_11 (g_name fun v2 hv2 => ?_)
  refine g_iload_n h 2 dX8_ofJ_12 rfl ?_
  refine g_iadd h dX8_ofJ_13 (g_name fun v3 hv3 => ?_)
  refine g_ia (q := 22) h rfl rfl (by decide) (by replace hv1 := hv1.symm; replace hv2 := hv2.symm; replace hv3 := hv3.symm; subst hv3 hv2 hv1; exact ixJ hj hw) dX8_ofJ_14 (fun v4 hv4 => ?_)
  exact e_iret h hI dX8_ofJ_15 (by replace hv1 := hv1.symm; replace hv2 := hv2.symm; replace hv3 := hv3.symm; replace hv4 := hv4.symm; subst hv4 hv3 hv2 hv1; first | rfl | contradiction) rfl
set_option maxHeartbeats 4000000 in
set_option maxRecDepth 100000 in
theorem tX8_cell (l0 : Launch) (G : fG) (F : Nat) (ω : fOm) (hI : Inv ω) (l : Int32) (p : Int32) : CT l0 G F yX8_cell cX8_cell 2 (some .int) 0 [.int l, .int p] ω (some (.int (mc l p))) ω := by
  refine ct_met (own := RX8) (by decide +kernel) rfl (Nat.le_of_ble_eq_true rfl) (fun X hXl hX h => ?_)
  subst hXl
  refine g_sipush (v := 290) h dX8_cell_0 (by decide) ?_
  refine g_bipush (v := 96) h dX8_cell_3 (by decide) ?_
  refine g_iload_n h 0 dX8_cell_5 rfl ?_
  refine g_imul h dX8_cell_6 (g_name fun v1 hv1 => ?_)
  refine g_iadd h dX8_cell_7 (g_name fun v2 hv2 => ?_)
  refine g_iconst (v := 3) h dX8_cell_8 (by decide) ?_
  refine g_iload_n h 1 dX8_cell_9 rfl ?_
  refine g_imul h dX8_cell_10 (g_name fun v3 hv3 => ?_)
  refine g_iadd h dX8_cell_11 (g_name fun v4 hv4 => ?_)
  exact e_iret h hI dX8_cell_12 (by replace hv1 := hv1.symm; replace hv2 := hv2.symm; replace hv3 := hv3.symm; replace hv4 := hv4.symm; subst hv4 hv3 hv2 hv1; first | rfl | contradiction) rfl
set_option maxHeartbeats 4000000 in
set_option maxRecDepth 100000 in
theorem tX8_isLoop (l0 : Launch) (G : fG) (F : Nat) (ω : fOm) (hI : Inv ω) (l : Int32) : CT l0 G F yX8_isLoop cX8_isLoop 2 (some .boolean) 1 [.ref (F + 647), .int l] ω (some (.int (f_btw l 0 (ω 648 5 - 1)))) ω := by
  refine ct_met (own := RX8) (by decide +kernel) rfl (Nat.le_of_ble_eq_true rfl) (fun X hXl hX h => ?_)
  subst hXl
  refine g_iload_n h 1 dX8_isLoop_0 rfl ?_
  refine g_iconst (v := 0) h dX8_isLoop_1 (by decide) ?_
  refine g_aload_n h 0 dX8_isLoop_2 rfl ?_
  refine q_8_at h rfl tw_708 dX8_isLoop_3 ?_
  refine g_iconst (v := 5) h dX8_isLoop_6 (by decide) ?_
  refine g_ia (q := 22) h rfl rfl (by decide) (vp_n (j := 5) (Nat.le_of_ble_eq_true rfl) (Nat.le_of_ble_eq_true rfl)) dX8_isLoop_7 (fun v1 hv1 => ?_)
  replace hv1 : v1 = ω 648 5 := hv1
  refine g_iconst (v := 1) h dX8_isLoop_8 (by decide) ?_
  refine g_isub h dX8_isLoop_9 (g_name fun v2 hv2 => ?_)
  refine k_S_i (st := []) h hX (tX8_in (xl X) G F ω hI l 0 v2) rfl miX8_in tw_761 (by decide) (by decide) rfl (Nat.le_of_ble_eq_true rfl) (by rw [hX]; exact Nat.zero_le _) (by rw [hX]; exact Nat.zero_le _) dX8_isLoop_10 (fun v3 hv3 => ?_)
  exact e_zret h hI dX8_isLoop_13 (nz (f_btw_01 _ _ _)) (by replace hv1 := hv1.symm; replace hv2 := hv2.symm; replace hv3 := hv3.symm; subst hv3 hv2 hv1; rfl) rfl
set_option maxHeartbeats 4000000 in
set_option maxRecDepth 100000 in
theorem tX8_isPlace (l0 : Launch) (G : fG) (F : Nat) (ω : fOm) (hI : Inv ω) (l : Int32) (p : Int32) (hW : MW (ω 648)) : CT l0 G F yX8_isPlace cX8_isPlace 3 (some .boolean) 2 [.ref (F + 647), .int l, .int p] ω (some (.int (m_isP ω l p))) ω := by
  refine ct_met (own := RX8) (by decide +kernel) rfl (Nat.le_of_ble_eq_true rfl) (fun X hXl hX h => ?_)
  subst hXl
  refine g_aload_n h 0 dX8_isPlace_0 rfl ?_
  refine g_iload_n h 1 dX8_isPlace_1 rfl ?_
  refine k_V_i (st := []) h hX (tX8_isLoop (xl X) G F ω hI l) rfl ⟨kd_lt rfl, ob_21 rfl⟩ rfl miX8_isLoop tw_783 (by decide) (by decide) rfl (Nat.le_of_ble_eq_true rfl) (by rw [hX]; exact Nat.zero_le _) (by rw [hX]; exact Nat.zero_le _) dX8_isPlace_2 (fun v1 hv1 => ?_)
  refine g_if_eq (tgt := 28) h dX8_isPlace_5 (by decide) (fun c2 => ?_) (fun c2 => ?_)
  · refine g_iconst (v := 0) h dX8_isPlace_28 (by decide) ?_
    exact e_zret h hI dX8_isPlace_29 (nz (isP_01 _ _ _)) (by replace hv1 := hv1.symm; subst hv1; first | contradiction | (unfold m_isP; simp only [c2, ↓reduceIte]; done) | (unfold m_isP; simp only [c2, ↓reduceIte] <;> rfl) | rfl | (unfold m_isP; simp [c2]; done)) rfl
  · refine g_iload_n h 2 dX8_isPlace_8 rfl ?_
    refine g_iconst (v := 0) h dX8_isPlace_9 (by decide) ?_
    refine g_aload_n h 0 dX8_isPlace_10 rfl ?_
    refine g_iload_n h 1 dX8_isPlace_11 rfl ?_
    refine g_iconst (v := 0) h dX8_isPlace_12 (by decide) ?_
    refine k_V_i (st := [.int 0, .int p]) h hX (tX8_ofL (xl X) G F ω hI l 0 (by replace hv1 := hv1.symm; subst hv1; exact isL_rg hW c2) (by decide)) rfl ⟨kd_lt rfl, ob_21 rfl⟩ rfl miX8_ofL tw_787 (by decide) (by decide) rfl (Nat.le_of_ble_eq_true rfl) (by rw [hX]; exact Nat.zero_le _) (by rw [hX]; exact Nat.zero_le _) dX8_isPlace_13 (fun v3 hv3 => ?_)
    refine g_iconst (v := 1) h dX8_isPlace_16 (by decide) ?_
    refine g_isub h dX8_isPlace_17 (g_name fun v4 hv4 => ?_)
    refine k_S_i (st := []) h hX (tX8_in (xl X) G F ω hI p 0 v4) rfl miX8_in tw_761 (by decide) (by decide) rfl (Nat.le_of_ble_eq_true rfl) (by rw [hX]; exact Nat.zero_le _) (by rw [hX]; exact Nat.zero_le _) dX8_isPlace_18 (fun v5 hv5 => ?_)
    refine g_if_eq (tgt := 28) h dX8_isPlace_21 (by decide) (fun c6 => ?_) (fun c6 => ?_)
    · refine g_iconst (v := 0) h dX8_isPlace_28 (by decide) ?_
      exact e_zret h hI dX8_isPlace_29 (nz (isP_01 _ _ _)) (by replace hv1 := hv1.symm; replace hv3 := hv3.symm; replace hv4 := hv4.symm; replace hv5 := hv5.symm; subst hv5 hv4 hv3 hv1; first | contradiction | (unfold m_isP; simp only [c2, c6, ↓reduceIte]; done) | (unfold m_isP; simp only [c2, c6, ↓reduceIte] <;> rfl) | rfl | (unfold m_isP; simp [c2, c6]; done)) rfl
    · refine g_iconst (v := 1) h dX8_isPlace_24 (by decide) ?_
      refine g_goto (tgt := 29) h dX8_isPlace_25 (by decide) ?_
      exact e_zret h hI dX8_isPlace_29 (nz (isP_01 _ _ _)) (by replace hv1 := hv1.symm; replace hv3 := hv3.symm; replace hv4 := hv4.symm; replace hv5 := hv5.symm; subst hv5 hv4 hv3 hv1; first | contradiction | (unfold m_isP; simp only [c2, c6, ↓reduceIte]; done) | (unfold m_isP; simp only [c2, c6, ↓reduceIte] <;> rfl) | rfl | (unfold m_isP; simp [c2, c6]; done)) rfl
set_option maxHeartbeats 4000000 in
set_option maxRecDepth 100000 in
theorem tX8_isDevice (l0 : Launch) (G : fG) (F : Nat) (ω : fOm) (hI : Inv ω) (d : Int32) : CT l0 G F yX8_isDevice cX8_isDevice 2 (some .boolean) 1 [.ref (F + 647), .int d] ω (some (.int (f_btw d 0 (ω 648 6 - 1)))) ω := by
  refine ct_met (own := RX8) (by decide +kernel) rfl (Nat.le_of_ble_eq_true rfl) (fun X hXl hX h => ?_)
  subst hXl
  refine g_iload_n h 1 dX8_isDevice_0 rfl ?_
  refine g_iconst (v := 0) h dX8_isDevice_1 (by decide) ?_
  refine g_aload_n h 0 dX8_isDevice_2 rfl ?_
  refine q_8_at h rfl tw_708 dX8_isDevice_3 ?_
  refine g_bipush (v := 6) h dX8_isDevice_6 (by decide) ?_
  refine g_ia (q := 22) h rfl rfl (by decide) (vp_n (j := 6) (Nat.le_of_ble_eq_true rfl) (Nat.le_of_ble_eq_true rfl)) dX8_isDevice_8 (fun v1 hv1 => ?_)
  replace hv1 : v1 = ω 648 6 := hv1
  refine g_iconst (v := 1) h dX8_isDevice_9 (by decide) ?_
  refine g_isub h dX8_isDevice_10 (g_name fun v2 hv2 => ?_)
  refine k_S_i (st := []) h hX (tX8_in (xl X) G F ω hI d 0 v2) rfl miX8_in tw_761 (by decide) (by decide) rfl (Nat.le_of_ble_eq_true rfl) (by rw [hX]; exact Nat.zero_le _) (by rw [hX]; exact Nat.zero_le _) dX8_isDevice_11 (fun v3 hv3 => ?_)
  exact e_zret h hI dX8_isDevice_14 (nz (f_btw_01 _ _ _)) (by replace hv1 := hv1.symm; replace hv2 := hv2.symm; replace hv3 := hv3.symm; subst hv3 hv2 hv1; rfl) rfl
set_option maxHeartbeats 4000000 in
set_option maxRecDepth 100000 in
theorem tX8_isValue (l0 : Launch) (G : fG) (F : Nat) (ω : fOm) (hI : Inv ω) (v : Int32) : CT l0 G F yX8_isValue cX8_isValue 1 (some .boolean) 1 [.int v] ω (some (.int (f_isV v))) ω := by
  refine ct_met (own := RX8) (by decide +kernel) rfl (Nat.le_of_ble_eq_true rfl) (fun X hXl hX h => ?_)
  subst hXl
  refine g_iload_n h 0 dX8_isValue_0 rfl ?_
  refine g_iconst (v := 0) h dX8_isValue_1 (by decide) ?_
  refine g_bipush (v := 99) h dX8_isValue_2 (by decide) ?_
  refine k_S_i (st := []) h hX (tX8_in (xl X) G F ω hI v 0 99) rfl miX8_in tw_761 (by decide) (by decide) rfl (Nat.le_of_ble_eq_true rfl) (by rw [hX]; exact Nat.zero_le _) (by rw [hX]; exact Nat.zero_le _) dX8_isValue_4 (fun v1 hv1 => ?_)
  exact e_zret h hI dX8_isValue_7 (nz (f_btw_01 _ _ _)) (by replace hv1 := hv1.symm; subst hv1; first | rfl | contradiction) rfl
set_option maxHeartbeats 4000000 in
set_option maxRecDepth 100000 in
theorem tX8_keep (l0 : Launch) (G : fG) (F : Nat) (ω : fOm) (hI : Inv ω) (hK : MK ω) : CT l0 G F yX8_keep cX8_keep 3 none 0 [.ref (F + 647)] ω none (m_keep ω) := by
  refine ct_met (own := RX8) (by decide +kernel) rfl (Nat.le_of_ble_eq_true rfl) (fun X hXl hX h => ?_)
  subst hXl
  refine g_aload_n h 0 dX8_keep_0 rfl ?_
  refine q_8_pastMany h rfl tw_711 dX8_keep_1 (fun v1 hv1 => ?_)
  refine g_bipush (v := 6) h dX8_keep_4 (by decide) ?_
  have hm32_13 : ∀ w12 : fOm, w12 = (if v1 = 6 then (wu (wu ω 647 2 (((ω 647 2) + 1) - ((ω 647 2) + 1) / 6 * 6)) 647 3 (((wu ω 647 2 (((ω 647 2) + 1) - ((ω 647 2) + 1) / 6 * 6)) 647 3) - 1)) else ω) → Inv w12 → Vg X (MQ (xb X) (fQ G F (fP F G none (m_keep ω))) (xa X) (xs X) 0 0 (fA F)) G F 3 NC (cel F G w12) 0 0 32 [(0, .ref (F + 647))] [] := by
    intro w12 hw12 iw12
    refine g_aload_n h 0 dX8_keep_32 rfl ?_
    refine q_8_pastFirst h rfl tw_710 dX8_keep_33 (fun v14 hv14 => ?_)
    refine g_aload_n h 0 dX8_keep_36 rfl ?_
    refine q_8_pastMany h rfl tw_711 dX8_keep_37 (fun v15 hv15 => ?_)
    refine g_iadd h dX8_keep_40 (g_name fun v16 hv16 => ?_)
    refine g_bipush (v := 6) h dX8_keep_41 (by decide) ?_
    refine g_irem h dX8_keep_43 (by decide) (g_name fun v17 hv17 => ?_)
    refine g_istore_n (loc2 := [(1, .int v17), (0, .ref (F + 647))]) h dX8_keep_44 (by decide) rfl ?_
    refine g_iconst (v := 0) h dX8_keep_45 (by decide) ?_
    refine g_istore_n (loc2 := [(2, .int 0), (1, .int v17), (0, .ref (F + 647))]) h dX8_keep_46 (by decide) rfl ?_
    have e19 : 0 = nI 0 := by clear iw12; replace hv1 := hv1.symm; replace hw12 := hw12.symm; replace hv14 := hv14.symm; replace hv15 := hv15.symm; replace hv16 := hv16.symm; replace hv17 := hv17.symm; subst hv17 hv16 hv15 hv14 hw12 hv1; first | rfl | exact nI_0.symm | exact nI_0 | decide
    have e20 : w12 = m_kpL v17 w12 0 := rfl
    refine g_lt (ω2 := m_kpL v17 w12 0) (loc2 := [(2, .int (nI 0)), (1, .int v17), (0, .ref (F + 647))]) e20 (lc_i e19 rfl) rfl ?_
    refine g_loop3 (hd := 47) (770) (fun j18 => Inv (m_kpL v17 w12 j18)) (fun j18 => [(2, .int (nI j18)), (1, .int v17), (0, .ref (F + 647))]) (fun j18 => cel F G (m_kpL v17 w12 j18)) (e20 ▸ iw12) (fun j18 hj23 hP21 ih22 => ?_)
    (try dsimp only)
    have iv24 := hP21
    refine g_iload_n h 0 dX8_keep_47 rfl ?_
    refine g_sipush (v := 770) h dX8_keep_48 (by decide) ?_
    refine g_icmp_ge (tgt := 78) h dX8_keep_51 (by decide) (fun c25 => ?_) (fun c25 => ?_)
    · have hN26 : j18 = 770 := lpc_ge (x := 770) (M := 770) rfl (by decide) c25 hj23
      refine g_aload_n h 2 dX8_keep_78 rfl ?_
      refine g_dup h dX8_keep_79 rfl ?_
      refine q_8_pastMany h rfl tw_711 dX8_keep_80 (fun v27 hv27 => ?_)
      refine g_iconst (v := 1) h dX8_keep_83 (by decide) ?_
      refine g_iadd h dX8_keep_84 (g_name fun v28 hv28 => ?_)
      refine p_8_pastMany h iv24 rfl tw_711 dX8_keep_85 (fun w29 hw29 iw29 => ?_)
      exact e_vret h iw29 dX8_keep_88 (by clear iw12 ih22 iw29; replace hv1 := hv1.symm; replace hw12 := hw12.symm; replace hv14 := hv14.symm; replace hv15 := hv15.symm; replace hv16 := hv16.symm; replace hv17 := hv17.symm; replace hv27 := hv27.symm; replace hv28 := hv28.symm; replace hw29 := hw29.symm; subst hw29 hv28 hv27 hv17 hv16 hv15 hv14 hw12 hv1; rw [hN26]; rfl)
    · have hlt30 : j18 < 770 := lpc_lt (x := 770) (M := 770) rfl (by decide) c25 hj23
      refine g_aload_n h 2 dX8_keep_54 rfl ?_
      refine q_8_past h rfl tw_709 dX8_keep_55 ?_
      refine g_sipush (v := 770) h dX8_keep_58 (by decide) ?_
      refine g_iload_n h 1 dX8_keep_61 rfl ?_
      refine g_imul h dX8_keep_62 (g_name fun v31 hv31 => ?_)
      refine g_iload_n h 0 dX8_keep_63 rfl ?_
      refine g_iadd h dX8_keep_64 (g_name fun v32 hv32 => ?_)
      refine g_aload_n h 2 dX8_keep_65 rfl ?_
      refine q_8_at h rfl tw_708 dX8_keep_66 ?_
      refine g_iload_n h 0 dX8_keep_69 rfl ?_
      refine g_ia (q := 22) h rfl rfl (by decide) (vp_n hlt30 (by decide)) dX8_keep_70 (fun v33 hv33 => ?_)
      refine g_is (q := 23) h iv24 rfl rfl (by decide) (by clear iw12 ih22; replace hv1 := hv1.symm; replace hw12 := hw12.symm; replace hv14 := hv14.symm; replace hv15 := hv15.symm; replace hv16 := hv16.symm; replace hv17 := hv17.symm; replace hv31 := hv31.symm; replace hv32 := hv32.symm; replace hv33 := hv33.symm; subst hv33 hv32 hv31 hv17 hv16 hv15 hv14 hw12 hv1; exact ixP (kpP_rg hK) hlt30) dX8_keep_71 (fun w34 hw34 iw34 => ?_)
      obtain ⟨v35, hv35⟩ : ∃ z : Int32, z = (nI j18) + 1 := ⟨_, rfl⟩
      refine g_iinc (v := v35) (loc2 := [(2, .int v35), (1, .int v17), (0, .ref (F + 647))]) h 0 dX8_keep_72 rfl (by rw [hv35]; rfl) (by decide) rfl ?_
      refine g_goto (tgt := 47) h dX8_keep_75 (by decide) ?_
      have e36 : v35 = nI (j18 + 1) := by clear iw12 ih22 iw34; replace hv1 := hv1.symm; replace hw12 := hw12.symm; replace hv14 := hv14.symm; replace hv15 := hv15.symm; replace hv16 := hv16.symm; replace hv17 := hv17.symm; replace hv31 := hv31.symm; replace hv32 := hv32.symm; replace hv33 := hv33.symm; replace hw34 := hw34.symm; replace hv35 := hv35.symm; subst hv35 hw34 hv33 hv32 hv31 hv17 hv16 hv15 hv14 hw12 hv1; first | rfl | exact nI_1 _ | (rw [nI_succ])
      have e37 : w34 = m_kpL v17 w12 (j18 + 1) := by clear iw12 ih22 iw34; replace hv1 := hv1.symm; replace hw12 := hw12.symm; replace hv14 := hv14.symm; replace hv15 := hv15.symm; replace hv16 := hv16.symm; replace hv17 := hv17.symm; replace hv31 := hv31.symm; replace hv32 := hv32.symm; replace hv33 := hv33.symm; replace hw34 := hw34.symm; replace hv35 := hv35.symm; subst hv35 hw34 hv33 hv32 hv31 hv17 hv16 hv15 hv14 hw12 hv1; rw [nI_clamp (Nat.lt_trans hlt30 (by decide))]; rfl
      exact g_lt e37 (lc_i e36 rfl) rfl (ih22 hlt30 (e37 ▸ iw34))
  refine g_icmp_ne (tgt := 32) h dX8_keep_6 (by decide) (fun c2 => ?_) (fun c2 => ?_)
  · exact hm32_13 _ (by replace hv1 := hv1.symm; subst hv1; rw [if_neg c2]) hI
  · refine g_aload_n h 0 dX8_keep_9 rfl ?_
    refine g_aload_n h 0 dX8_keep_10 rfl ?_
    refine q_8_pastFirst h rfl tw_710 dX8_keep_11 (fun v4 hv4 => ?_)
    refine g_iconst (v := 1) h dX8_keep_14 (by decide) ?_
    refine g_iadd h dX8_keep_15 (g_name fun v5 hv5 => ?_)
    refine g_bipush (v := 6) h dX8_keep_16 (by decide) ?_
    refine g_irem h dX8_keep_18 (by decide) (g_name fun v6 hv6 => ?_)
    refine p_8_pastFirst h hI rfl tw_710 dX8_keep_19 (fun w7 hw7 iw7 => ?_)
    refine g_aload_n h 0 dX8_keep_22 rfl ?_
    refine g_dup h dX8_keep_23 rfl ?_
    refine q_8_pastMany h rfl tw_711 dX8_keep_24 (fun v8 hv8 => ?_)
    refine g_iconst (v := 1) h dX8_keep_27 (by decide) ?_
    refine g_isub h dX8_keep_28 (g_name fun v9 hv9 => ?_)
    refine p_8_pastMany h iw7 rfl tw_711 dX8_keep_29 (fun w10 hw10 iw10 => ?_)
    exact hm32_13 _ (by clear iw7 iw10; replace hv1 := hv1.symm; replace hv4 := hv4.symm; replace hv5 := hv5.symm; replace hv6 := hv6.symm; replace hw7 := hw7.symm; replace hv8 := hv8.symm; replace hv9 := hv9.symm; replace hw10 := hw10.symm; subst hw10 hv9 hv8 hw7 hv6 hv5 hv4 hv1; rw [if_pos c2]) iw10
set_option maxHeartbeats 4000000 in
set_option maxRecDepth 100000 in
theorem tX8_keepIf (l0 : Launch) (G : fG) (F : Nat) (ω : fOm) (hI : Inv ω) (b : Int32) (hK : MK ω) : CT l0 G F yX8_keepIf cX8_keepIf 2 none 1 [.ref (F + 647), .int b] ω none (m_kIf ω b) := by
  refine ct_met (own := RX8) (by decide +kernel) rfl (Nat.le_of_ble_eq_true rfl) (fun X hXl hX h => ?_)
  subst hXl
  refine g_iload_n h 1 dX8_keepIf_0 rfl ?_
  refine g_if_eq (tgt := 8) h dX8_keepIf_1 (by decide) (fun c1 => ?_) (fun c1 => ?_)
  · exact e_vret h hI dX8_keepIf_8 (by skip; first | contradiction | (unfold m_kIf; simp only [c1, ↓reduceIte]; done) | (unfold m_kIf; simp only [c1, ↓reduceIte] <;> rfl) | rfl | (unfold m_kIf; simp [c1]; done))
  · refine g_aload_n h 0 dX8_keepIf_4 rfl ?_
    refine k_V_v (st := []) h hX (tX8_keep (xl X) G F ω hI (hK)) rfl ⟨kd_lt rfl, ob_21 rfl⟩ rfl miX8_keep tw_767 (by decide) (by decide) rfl (Nat.le_of_ble_eq_true rfl) (by rw [hX]; exact Nat.zero_le _) (by rw [hX]; exact Nat.zero_le _) dX8_keepIf_5 (fun w2 hw2 iw2 => ?_)
    exact e_vret h iw2 dX8_keepIf_8 (by clear iw2; replace hw2 := hw2.symm; subst hw2; first | contradiction | (unfold m_kIf; simp only [c1, ↓reduceIte]; done) | (unfold m_kIf; simp only [c1, ↓reduceIte] <;> rfl) | rfl | (unfold m_kIf; simp [c1]; done))
set_option maxHeartbeats 4000000 in
set_option maxRecDepth 100000 in
theorem tX8_layAside (l0 : Launch) (G : fG) (F : Nat) (ω : fOm) (hI : Inv ω) : CT l0 G F yX8_layAside cX8_layAside 2 none 0 [.ref (F + 647)] ω none (m_aside ω) := by
  refine ct_met (own := RX8) (by decide +kernel) rfl (Nat.le_of_ble_eq_true rfl) (fun X hXl hX h => ?_)
  subst hXl
  refine g_iconst (v := 0) h dX8_layAside_0 (by decide) ?_
  refine g_istore_n (loc2 := [(1, .int 0), (0, .ref (F + 647))]) h dX8_layAside_1 (by decide) rfl ?_
  have e2 : 0 = nI 0 := by skip; first | rfl | exact nI_0.symm | exact nI_0 | decide
  have e3 : ω = m_asL ω 0 := rfl
  refine g_lt (ω2 := m_asL ω 0) (loc2 := [(1, .int (nI 0)), (0, .ref (F + 647))]) e3 (lc_i e2 rfl) rfl ?_
  refine g_loop3 (hd := 2) (770) (fun j1 => Inv (m_asL ω j1)) (fun j1 => [(1, .int (nI j1)), (0, .ref (F + 647))]) (fun j1 => cel F G (m_asL ω j1)) (e3 ▸ hI) (fun j1 hj6 hP4 ih5 => ?_)
  (try dsimp only)
  have iv7 := hP4
  refine g_iload_n h 0 dX8_layAside_2 rfl ?_
  refine g_sipush (v := 770) h dX8_layAside_3 (by decide) ?_
  refine g_icmp_ge (tgt := 27) h dX8_layAside_6 (by decide) (fun c8 => ?_) (fun c8 => ?_)
  · have hN9 : j1 = 770 := lpc_ge (x := 770) (M := 770) rfl (by decide) c8 hj6
    exact e_vret h iv7 dX8_layAside_27 (by clear ih5; skip; rw [hN9]; rfl)
  · have hlt10 : j1 < 770 := lpc_lt (x := 770) (M := 770) rfl (by decide) c8 hj6
    refine g_aload_n h 1 dX8_layAside_9 rfl ?_
    refine q_8_aside h rfl tw_714 dX8_layAside_10 ?_
    refine g_iload_n h 0 dX8_layAside_13 rfl ?_
    refine g_aload_n h 1 dX8_layAside_14 rfl ?_
    refine q_8_at h rfl tw_708 dX8_layAside_15 ?_
    refine g_iload_n h 0 dX8_layAside_18 rfl ?_
    refine g_ia (q := 22) h rfl rfl (by decide) (vp_n hlt10 (by decide)) dX8_layAside_19 (fun v11 hv11 => ?_)
    refine g_is (q := 26) h iv7 rfl rfl (by decide) (vp_n hlt10 (by decide)) dX8_layAside_20 (fun w12 hw12 iw12 => ?_)
    obtain ⟨v13, hv13⟩ : ∃ z : Int32, z = (nI j1) + 1 := ⟨_, rfl⟩
    refine g_iinc (v := v13) (loc2 := [(1, .int v13), (0, .ref (F + 647))]) h 0 dX8_layAside_21 rfl (by rw [hv13]; rfl) (by decide) rfl ?_
    refine g_goto (tgt := 2) h dX8_layAside_24 (by decide) ?_
    have e14 : v13 = nI (j1 + 1) := by clear ih5 iw12; replace hv11 := hv11.symm; replace hw12 := hw12.symm; replace hv13 := hv13.symm; subst hv13 hw12 hv11; first | rfl | exact nI_1 _ | (rw [nI_succ])
    have e15 : w12 = m_asL ω (j1 + 1) := by clear ih5 iw12; replace hv11 := hv11.symm; replace hw12 := hw12.symm; replace hv13 := hv13.symm; subst hv13 hw12 hv11; rw [nI_clamp (Nat.lt_trans hlt10 (by decide))]; rfl
    exact g_lt e15 (lc_i e14 rfl) rfl (ih5 hlt10 (e15 ▸ iw12))
set_option maxHeartbeats 4000000 in
set_option maxRecDepth 100000 in
theorem tX8_layBack (l0 : Launch) (G : fG) (F : Nat) (ω : fOm) (hI : Inv ω) : CT l0 G F yX8_layBack cX8_layBack 2 none 0 [.ref (F + 647)] ω none (m_back ω) := by
  refine ct_met (own := RX8) (by decide +kernel) rfl (Nat.le_of_ble_eq_true rfl) (fun X hXl hX h => ?_)
  subst hXl
  refine g_iconst (v := 0) h dX8_layBack_0 (by decide) ?_
  refine g_istore_n (loc2 := [(1, .int 0), (0, .ref (F + 647))]) h dX8_layBack_1 (by decide) rfl ?_
  have e2 : 0 = nI 0 := by skip; first | rfl | exact nI_0.symm | exact nI_0 | decide
  have e3 : ω = m_lbL ω 0 := rfl
  refine g_lt (ω2 := m_lbL ω 0) (loc2 := [(1, .int (nI 0)), (0, .ref (F + 647))]) e3 (lc_i e2 rfl) rfl ?_
  refine g_loop3 (hd := 2) (770) (fun j1 => Inv (m_lbL ω j1)) (fun j1 => [(1, .int (nI j1)), (0, .ref (F + 647))]) (fun j1 => cel F G (m_lbL ω j1)) (e3 ▸ hI) (fun j1 hj6 hP4 ih5 => ?_)
  (try dsimp only)
  have iv7 := hP4
  refine g_iload_n h 0 dX8_layBack_2 rfl ?_
  refine g_sipush (v := 770) h dX8_layBack_3 (by decide) ?_
  refine g_icmp_ge (tgt := 27) h dX8_layBack_6 (by decide) (fun c8 => ?_) (fun c8 => ?_)
  · have hN9 : j1 = 770 := lpc_ge (x := 770) (M := 770) rfl (by decide) c8 hj6
    exact e_vret h iv7 dX8_layBack_27 (by clear ih5; skip; rw [hN9]; rfl)
  · have hlt10 : j1 < 770 := lpc_lt (x := 770) (M := 770) rfl (by decide) c8 hj6
    refine g_aload_n h 1 dX8_layBack_9 rfl ?_
    refine q_8_at h rfl tw_708 dX8_layBack_10 ?_
    refine g_iload_n h 0 dX8_layBack_13 rfl ?_
    refine g_aload_n h 1 dX8_layBack_14 rfl ?_
    refine q_8_aside h rfl tw_714 dX8_layBack_15 ?_
    refine g_iload_n h 0 dX8_layBack_18 rfl ?_
    refine g_ia (q := 26) h rfl rfl (by decide) (vp_n hlt10 (by decide)) dX8_layBack_19 (fun v11 hv11 => ?_)
    refine g_is (q := 22) h iv7 rfl rfl (by decide) (vp_n hlt10 (by decide)) dX8_layBack_20 (fun w12 hw12 iw12 => ?_)
    obtain ⟨v13, hv13⟩ : ∃ z : Int32, z = (nI j1) + 1 := ⟨_, rfl⟩
    refine g_iinc (v := v13) (loc2 := [(1, .int v13), (0, .ref (F + 647))]) h 0 dX8_layBack_21 rfl (by rw [hv13]; rfl) (by decide) rfl ?_
    refine g_goto (tgt := 2) h dX8_layBack_24 (by decide) ?_
    have e14 : v13 = nI (j1 + 1) := by clear ih5 iw12; replace hv11 := hv11.symm; replace hw12 := hw12.symm; replace hv13 := hv13.symm; subst hv13 hw12 hv11; first | rfl | exact nI_1 _ | (rw [nI_succ])
    have e15 : w12 = m_lbL ω (j1 + 1) := by clear ih5 iw12; replace hv11 := hv11.symm; replace hw12 := hw12.symm; replace hv13 := hv13.symm; subst hv13 hw12 hv11; rw [nI_clamp (Nat.lt_trans hlt10 (by decide))]; rfl
    exact g_lt e15 (lc_i e14 rfl) rfl (ih5 hlt10 (e15 ▸ iw12))
set_option maxHeartbeats 4000000 in
set_option maxRecDepth 100000 in
theorem tX8_clear (l0 : Launch) (G : fG) (F : Nat) (ω : fOm) (hI : Inv ω) (c : Int32) (hc : 290 ≤ c ∧ c ≤ 767) : CT l0 G F yX8_clear cX8_clear 2 none 0 [.ref (F + 647), .int c] ω none (m_clear ω c) := by
  refine ct_met (own := RX8) (by decide +kernel) rfl (Nat.le_of_ble_eq_true rfl) (fun X hXl hX h => ?_)
  subst hXl
  refine g_aload_n h 0 dX8_clear_0 rfl ?_
  refine q_8_at h rfl tw_708 dX8_clear_1 ?_
  refine g_iload_n h 1 dX8_clear_4 rfl ?_
  refine g_bipush (v := (-6)) h dX8_clear_5 (by decide) ?_
  refine g_is (q := 22) h hI rfl rfl (by decide) (by skip; exact ixc hc) dX8_clear_7 (fun w1 hw1 iw1 => ?_)
  refine g_aload_n h 0 dX8_clear_8 rfl ?_
  refine q_8_at h rfl tw_708 dX8_clear_9 ?_
  refine g_iload_n h 1 dX8_clear_12 rfl ?_
  refine g_iconst (v := 1) h dX8_clear_13 (by decide) ?_
  refine g_iadd h dX8_clear_14 (g_name fun v2 hv2 => ?_)
  refine g_iconst (v := 0) h dX8_clear_15 (by decide) ?_
  refine g_is (q := 22) h iw1 rfl rfl (by decide) (by clear iw1; replace hw1 := hw1.symm; replace hv2 := hv2.symm; subst hv2 hw1; exact ixc1 hc) dX8_clear_16 (fun w3 hw3 iw3 => ?_)
  refine g_aload_n h 0 dX8_clear_17 rfl ?_
  refine q_8_at h rfl tw_708 dX8_clear_18 ?_
  refine g_iload_n h 1 dX8_clear_21 rfl ?_
  refine g_iconst (v := 2) h dX8_clear_22 (by decide) ?_
  refine g_iadd h dX8_clear_23 (g_name fun v4 hv4 => ?_)
  refine g_iconst (v := 0) h dX8_clear_24 (by decide) ?_
  refine g_is (q := 22) h iw3 rfl rfl (by decide) (by clear iw1 iw3; replace hw1 := hw1.symm; replace hv2 := hv2.symm; replace hw3 := hw3.symm; replace hv4 := hv4.symm; subst hv4 hw3 hv2 hw1; exact ixc2 hc) dX8_clear_25 (fun w5 hw5 iw5 => ?_)
  exact e_vret h iw5 dX8_clear_26 (by clear iw1 iw3 iw5; replace hw1 := hw1.symm; replace hv2 := hv2.symm; replace hw3 := hw3.symm; replace hv4 := hv4.symm; replace hw5 := hw5.symm; subst hw5 hv4 hw3 hv2 hw1; first | rfl | contradiction)
set_option maxHeartbeats 4000000 in
set_option maxRecDepth 100000 in
theorem tX8_shine (l0 : Launch) (G : fG) (F : Nat) (ω : fOm) (hI : Inv ω) (l : Int32) (c : Int32) (v : Int32) (hl : 0 ≤ l ∧ l ≤ 4) (hc : 290 ≤ c ∧ c ≤ 767) : CT l0 G F yX8_shine cX8_shine 4 none 1 [.ref (F + 647), .int l, .int c, .int v] ω none (m_shine ω l c v) := by
  refine ct_met (own := RX8) (by decide +kernel) rfl (Nat.le_of_ble_eq_true rfl) (fun X hXl hX h => ?_)
  subst hXl
  refine g_aload_n h 0 dX8_shine_0 rfl ?_
  refine q_8_at h rfl tw_708 dX8_shine_1 ?_
  refine g_iload_n h 2 dX8_shine_4 rfl ?_
  refine g_iload_n h 3 dX8_shine_5 rfl ?_
  refine g_is (q := 22) h hI rfl rfl (by decide) (by skip; exact ixc hc) dX8_shine_6 (fun w1 hw1 iw1 => ?_)
  refine g_aload_n h 0 dX8_shine_7 rfl ?_
  refine q_8_at h rfl tw_708 dX8_shine_8 ?_
  refine g_iload_n h 2 dX8_shine_11 rfl ?_
  refine g_iconst (v := 1) h dX8_shine_12 (by decide) ?_
  refine g_iadd h dX8_shine_13 (g_name fun v2 hv2 => ?_)
  refine g_aload_n h 0 dX8_shine_14 rfl ?_
  refine q_8_at h rfl tw_708 dX8_shine_15 ?_
  refine g_iconst (v := 3) h dX8_shine_18 (by decide) ?_
  refine g_ia (q := 22) h rfl rfl (by decide) (vp_n (j := 3) (by decide) (by decide)) dX8_shine_19 (fun v3 hv3 => ?_)
  replace hv3 : v3 = w1 648 3 := hv3
  refine g_is (q := 22) h iw1 rfl rfl (by decide) (by clear iw1; replace hw1 := hw1.symm; replace hv2 := hv2.symm; replace hv3 := hv3.symm; subst hv3 hv2 hw1; exact ixc1 hc) dX8_shine_20 (fun w4 hw4 iw4 => ?_)
  refine g_aload_n h 0 dX8_shine_21 rfl ?_
  refine q_8_at h rfl tw_708 dX8_shine_22 ?_
  refine g_iload_n h 2 dX8_shine_25 rfl ?_
  refine g_iconst (v := 2) h dX8_shine_26 (by decide) ?_
  refine g_iadd h dX8_shine_27 (g_name fun v5 hv5 => ?_)
  refine g_aload_n h 0 dX8_shine_28 rfl ?_
  refine q_8_at h rfl tw_708 dX8_shine_29 ?_
  refine g_iconst (v := 4) h dX8_shine_32 (by decide) ?_
  refine g_ia (q := 22) h rfl rfl (by decide) (vp_n (j := 4) (by decide) (by decide)) dX8_shine_33 (fun v6 hv6 => ?_)
  replace hv6 : v6 = w4 648 4 := hv6
  refine g_is (q := 22) h iw4 rfl rfl (by decide) (by clear iw1 iw4; replace hw1 := hw1.symm; replace hv2 := hv2.symm; replace hv3 := hv3.symm; replace hw4 := hw4.symm; replace hv5 := hv5.symm; replace hv6 := hv6.symm; subst hv6 hv5 hw4 hv3 hv2 hw1; exact ixc2 hc) dX8_shine_34 (fun w7 hw7 iw7 => ?_)
  refine g_aload_n h 0 dX8_shine_35 rfl ?_
  refine g_iload_n h 1 dX8_shine_36 rfl ?_
  refine g_iconst (v := 1) h dX8_shine_37 (by decide) ?_
  refine k_V_v (st := []) h hX (tX8_moreL (xl X) G F w7 iw7 l 1 (hl) (by decide)) rfl ⟨kd_lt rfl, ob_21 rfl⟩ rfl miX8_moreL tw_856 (by decide) (by decide) rfl (Nat.le_of_ble_eq_true rfl) (by rw [hX]; exact Nat.zero_le _) (by rw [hX]; exact Nat.zero_le _) dX8_shine_38 (fun w8 hw8 iw8 => ?_)
  exact e_vret h iw8 dX8_shine_41 (by clear iw1 iw4 iw7 iw8; replace hw1 := hw1.symm; replace hv2 := hv2.symm; replace hv3 := hv3.symm; replace hw4 := hw4.symm; replace hv5 := hv5.symm; replace hv6 := hv6.symm; replace hw7 := hw7.symm; replace hw8 := hw8.symm; subst hw8 hw7 hv6 hv5 hw4 hv3 hv2 hw1; first | rfl | contradiction)
set_option maxHeartbeats 4000000 in
set_option maxRecDepth 100000 in
theorem tX8_moveTo (l0 : Launch) (G : fG) (F : Nat) (ω : fOm) (hI : Inv ω) (fr : Int32) (tt : Int32) (hf : 290 ≤ fr ∧ fr ≤ 767) (ht : 290 ≤ tt ∧ tt ≤ 767) : CT l0 G F yX8_moveTo cX8_moveTo 4 none 1 [.ref (F + 647), .int fr, .int tt] ω none (m_mv ω fr tt) := by
  refine ct_met (own := RX8) (by decide +kernel) rfl (Nat.le_of_ble_eq_true rfl) (fun X hXl hX h => ?_)
  subst hXl
  refine g_iconst (v := 0) h dX8_moveTo_0 (by decide) ?_
  refine g_istore_n (loc2 := [(3, .int 0), (0, .ref (F + 647)), (1, .int fr), (2, .int tt)]) h dX8_moveTo_1 (by decide) rfl ?_
  have e2 : 0 = nI 0 := by skip; first | rfl | exact nI_0.symm | exact nI_0 | decide
  have e3 : ω = m_mvL fr tt ω 0 := rfl
  refine g_lt (ω2 := m_mvL fr tt ω 0) (loc2 := [(3, .int (nI 0)), (0, .ref (F + 647)), (1, .int fr), (2, .int tt)]) e3 (lc_i e2 rfl) rfl ?_
  refine g_loop3 (hd := 2) (3) (fun j1 => Inv (m_mvL fr tt ω j1)) (fun j1 => [(3, .int (nI j1)), (0, .ref (F + 647)), (1, .int fr), (2, .int tt)]) (fun j1 => cel F G (m_mvL fr tt ω j1)) (e3 ▸ hI) (fun j1 hj6 hP4 ih5 => ?_)
  (try dsimp only)
  have iv7 := hP4
  refine g_iload_n h 0 dX8_moveTo_2 rfl ?_
  refine g_iconst (v := 3) h dX8_moveTo_3 (by decide) ?_
  refine g_icmp_ge (tgt := 29) h dX8_moveTo_4 (by decide) (fun c8 => ?_) (fun c8 => ?_)
  · have hN9 : j1 = 3 := lpc_ge (x := 3) (M := 3) rfl (by decide) c8 hj6
    refine g_aload_n h 1 dX8_moveTo_29 rfl ?_
    refine g_iload_n h 2 dX8_moveTo_30 rfl ?_
    refine k_V_v (st := []) h hX (tX8_clear (xl X) G F (m_mvL fr tt ω j1) iv7 fr (hf)) rfl ⟨kd_lt rfl, ob_21 rfl⟩ rfl miX8_clear tw_888 (by decide) (by decide) rfl (Nat.le_of_ble_eq_true rfl) (by rw [hX]; exact Nat.zero_le _) (by rw [hX]; exact Nat.zero_le _) dX8_moveTo_31 (fun w10 hw10 iw10 => ?_)
    exact e_vret h iw10 dX8_moveTo_34 (by clear ih5 iw10; replace hw10 := hw10.symm; subst hw10; rw [hN9]; rfl)
  · have hlt11 : j1 < 3 := lpc_lt (x := 3) (M := 3) rfl (by decide) c8 hj6
    refine g_aload_n h 1 dX8_moveTo_7 rfl ?_
    refine q_8_at h rfl tw_708 dX8_moveTo_8 ?_
    refine g_iload_n h 3 dX8_moveTo_11 rfl ?_
    refine g_iload_n h 0 dX8_moveTo_12 rfl ?_
    refine g_iadd h dX8_moveTo_13 (g_name fun v12 hv12 => ?_)
    refine g_aload_n h 1 dX8_moveTo_14 rfl ?_
    refine q_8_at h rfl tw_708 dX8_moveTo_15 ?_
    refine g_iload_n h 2 dX8_moveTo_18 rfl ?_
    refine g_iload_n h 0 dX8_moveTo_19 rfl ?_
    refine g_iadd h dX8_moveTo_20 (g_name fun v13 hv13 => ?_)
    refine g_ia (q := 22) h rfl rfl (by decide) (by clear ih5; replace hv12 := hv12.symm; replace hv13 := hv13.symm; subst hv13 hv12; exact ixcj hf hlt11) dX8_moveTo_21 (fun v14 hv14 => ?_)
    refine g_is (q := 22) h iv7 rfl rfl (by decide) (by clear ih5; replace hv12 := hv12.symm; replace hv13 := hv13.symm; replace hv14 := hv14.symm; subst hv14 hv13 hv12; exact ixcj ht hlt11) dX8_moveTo_22 (fun w15 hw15 iw15 => ?_)
    obtain ⟨v16, hv16⟩ : ∃ z : Int32, z = (nI j1) + 1 := ⟨_, rfl⟩
    refine g_iinc (v := v16) (loc2 := [(3, .int v16), (0, .ref (F + 647)), (1, .int fr), (2, .int tt)]) h 0 dX8_moveTo_23 rfl (by rw [hv16]; rfl) (by decide) rfl ?_
    refine g_goto (tgt := 2) h dX8_moveTo_26 (by decide) ?_
    have e17 : v16 = nI (j1 + 1) := by clear ih5 iw15; replace hv12 := hv12.symm; replace hv13 := hv13.symm; replace hv14 := hv14.symm; replace hw15 := hw15.symm; replace hv16 := hv16.symm; subst hv16 hw15 hv14 hv13 hv12; first | rfl | exact nI_1 _ | (rw [nI_succ])
    have e18 : w15 = m_mvL fr tt ω (j1 + 1) := by clear ih5 iw15; replace hv12 := hv12.symm; replace hv13 := hv13.symm; replace hv14 := hv14.symm; replace hw15 := hw15.symm; replace hv16 := hv16.symm; subst hv16 hw15 hv14 hv13 hv12; rfl
    exact g_lt e18 (lc_i e17 rfl) rfl (ih5 hlt11 (e18 ▸ iw15))
set_option maxHeartbeats 4000000 in
set_option maxRecDepth 100000 in
theorem tX8_turnOn (l0 : Launch) (G : fG) (F : Nat) (ω : fOm) (hI : Inv ω) (l : Int32) (hl : 0 ≤ l ∧ l ≤ 4) (hW : MW (ω 648)) : CT l0 G F yX8_turnOn cX8_turnOn 7 none 2 [.ref (F + 647), .int l] ω none (m_turn ω l) := by
  refine ct_met (own := RX8) (by decide +kernel) rfl (Nat.le_of_ble_eq_true rfl) (fun X hXl hX h => ?_)
  subst hXl
  refine g_iload_n h 1 dX8_turnOn_0 rfl ?_
  refine g_aload_n h 0 dX8_turnOn_1 rfl ?_
  refine g_iload_n h 1 dX8_turnOn_2 rfl ?_
  refine g_iconst (v := 0) h dX8_turnOn_3 (by decide) ?_
  refine k_V_i (st := [.int l]) h hX (tX8_ofL (xl X) G F ω hI l 0 (hl) (by decide)) rfl ⟨kd_lt rfl, ob_21 rfl⟩ rfl miX8_ofL tw_787 (by decide) (by decide) rfl (Nat.le_of_ble_eq_true rfl) (by rw [hX]; exact Nat.zero_le _) (by rw [hX]; exact Nat.zero_le _) dX8_turnOn_4 (fun v1 hv1 => ?_)
  refine g_iconst (v := 1) h dX8_turnOn_7 (by decide) ?_
  refine g_isub h dX8_turnOn_8 (g_name fun v2 hv2 => ?_)
  refine k_S_i (st := []) h hX (tX8_cell (xl X) G F ω hI l v2) rfl miX8_cell tw_849 (by decide) (by decide) rfl (Nat.le_of_ble_eq_true rfl) (by rw [hX]; exact Nat.zero_le _) (by rw [hX]; exact Nat.zero_le _) dX8_turnOn_9 (fun v3 hv3 => ?_)
  refine g_istore_n (loc2 := [(2, .int v3), (0, .ref (F + 647)), (1, .int l)]) h dX8_turnOn_12 (by decide) rfl ?_
  refine g_aload_n h 1 dX8_turnOn_13 rfl ?_
  refine q_8_at h rfl tw_708 dX8_turnOn_14 ?_
  refine g_iload_n h 0 dX8_turnOn_17 rfl ?_
  refine g_ia (q := 22) h rfl rfl (by decide) (by replace hv1 := hv1.symm; replace hv2 := hv2.symm; replace hv3 := hv3.symm; subst hv3 hv2 hv1; exact (ixl hl (hW.L hl)).1) dX8_turnOn_18 (fun v4 hv4 => ?_)
  refine g_istore_n (loc2 := [(3, .int v4), (2, .int v3), (0, .ref (F + 647)), (1, .int l)]) h dX8_turnOn_19 (by decide) rfl ?_
  refine g_aload_n h 2 dX8_turnOn_20 rfl ?_
  refine q_8_at h rfl tw_708 dX8_turnOn_21 ?_
  refine g_iload_n h 1 dX8_turnOn_24 rfl ?_
  refine g_iconst (v := 1) h dX8_turnOn_25 (by decide) ?_
  refine g_iadd h dX8_turnOn_26 (g_name fun v5 hv5 => ?_)
  refine g_ia (q := 22) h rfl rfl (by decide) (by replace hv1 := hv1.symm; replace hv2 := hv2.symm; replace hv3 := hv3.symm; replace hv4 := hv4.symm; replace hv5 := hv5.symm; subst hv5 hv4 hv3 hv2 hv1; exact (ixl hl (hW.L hl)).2.1) dX8_turnOn_27 (fun v6 hv6 => ?_)
  refine g_istore (loc2 := [(4, .int v6), (3, .int v4), (2, .int v3), (0, .ref (F + 647)), (1, .int l)]) h dX8_turnOn_28 (by decide) rfl ?_
  refine g_aload_n h 3 dX8_turnOn_30 rfl ?_
  refine q_8_at h rfl tw_708 dX8_turnOn_31 ?_
  refine g_iload_n h 2 dX8_turnOn_34 rfl ?_
  refine g_iconst (v := 2) h dX8_turnOn_35 (by decide) ?_
  refine g_iadd h dX8_turnOn_36 (g_name fun v7 hv7 => ?_)
  refine g_ia (q := 22) h rfl rfl (by decide) (by replace hv1 := hv1.symm; replace hv2 := hv2.symm; replace hv3 := hv3.symm; replace hv4 := hv4.symm; replace hv5 := hv5.symm; replace hv6 := hv6.symm; replace hv7 := hv7.symm; subst hv7 hv6 hv5 hv4 hv3 hv2 hv1; exact (ixl hl (hW.L hl)).2.2) dX8_turnOn_37 (fun v8 hv8 => ?_)
  refine g_istore (loc2 := [(5, .int v8), (4, .int v6), (3, .int v4), (2, .int v3), (0, .ref (F + 647)), (1, .int l)]) h dX8_turnOn_38 (by decide) rfl ?_
  refine g_aload_n h 4 dX8_turnOn_40 rfl ?_
  refine g_iload_n h 5 dX8_turnOn_41 rfl ?_
  refine g_iconst (v := 0) h dX8_turnOn_42 (by decide) ?_
  refine k_V_i (st := []) h hX (tX8_ofL (xl X) G F ω hI l 0 (hl) (by decide)) rfl ⟨kd_lt rfl, ob_21 rfl⟩ rfl miX8_ofL tw_787 (by decide) (by decide) rfl (Nat.le_of_ble_eq_true rfl) (by rw [hX]; exact Nat.zero_le _) (by rw [hX]; exact Nat.zero_le _) dX8_turnOn_43 (fun v9 hv9 => ?_)
  refine g_iconst (v := 1) h dX8_turnOn_46 (by decide) ?_
  refine g_isub h dX8_turnOn_47 (g_name fun v10 hv10 => ?_)
  refine g_istore (loc2 := [(6, .int v10), (5, .int v8), (4, .int v6), (3, .int v4), (2, .int v3), (0, .ref (F + 647)), (1, .int l)]) h dX8_turnOn_48 (by decide) rfl ?_
  have e12 : v10 = ω 648 (iL l 0) - 1 - nI 0 := by replace hv1 := hv1.symm; replace hv2 := hv2.symm; replace hv3 := hv3.symm; replace hv4 := hv4.symm; replace hv5 := hv5.symm; replace hv6 := hv6.symm; replace hv7 := hv7.symm; replace hv8 := hv8.symm; replace hv9 := hv9.symm; replace hv10 := hv10.symm; subst hv10 hv9 hv8 hv7 hv6 hv5 hv4 hv3 hv2 hv1; exact sub_0 _
  have e13 : ω = m_tnL l (ω 648 (iL l 0) - 1) ω 0 := rfl
  refine g_lt (ω2 := m_tnL l (ω 648 (iL l 0) - 1) ω 0) (loc2 := [(6, .int (ω 648 (iL l 0) - 1 - nI 0)), (5, .int v8), (4, .int v6), (3, .int v4), (2, .int v3), (0, .ref (F + 647)), (1, .int l)]) e13 (lc_i e12 rfl) rfl ?_
  refine g_loop3 (hd := 50) ((ω 648 (iL l 0) - 1).toNatClampNeg) (fun j11 => Inv (m_tnL l (ω 648 (iL l 0) - 1) ω j11)) (fun j11 => [(6, .int (ω 648 (iL l 0) - 1 - nI j11)), (5, .int v8), (4, .int v6), (3, .int v4), (2, .int v3), (0, .ref (F + 647)), (1, .int l)]) (fun j11 => cel F G (m_tnL l (ω 648 (iL l 0) - 1) ω j11)) (e13 ▸ hI) (fun j11 hj16 hP14 ih15 => ?_)
  (try dsimp only)
  have iv17 := hP14
  refine g_iload h 0 dX8_turnOn_50 rfl ?_
  refine g_if_le (tgt := 79) h dX8_turnOn_52 (by decide) (fun c18 => ?_) (fun c18 => ?_)
  · have hN19 : j11 = ((ω 648 (iL l 0) - 1).toNatClampNeg) := by clear ih15; replace hv1 := hv1.symm; replace hv2 := hv2.symm; replace hv3 := hv3.symm; replace hv4 := hv4.symm; replace hv5 := hv5.symm; replace hv6 := hv6.symm; replace hv7 := hv7.symm; replace hv8 := hv8.symm; replace hv9 := hv9.symm; replace hv10 := hv10.symm; subst hv10 hv9 hv8 hv7 hv6 hv5 hv4 hv3 hv2 hv1; exact tn_ge (hW.L hl) c18 hj16
    refine g_iload_n h 6 dX8_turnOn_79 rfl ?_
    refine g_iconst (v := 0) h dX8_turnOn_80 (by decide) ?_
    refine k_S_i (st := []) h hX (tX8_cell (xl X) G F (m_tnL l (ω 648 (iL l 0) - 1) ω j11) iv17 l 0) rfl miX8_cell tw_849 (by decide) (by decide) rfl (Nat.le_of_ble_eq_true rfl) (by rw [hX]; exact Nat.zero_le _) (by rw [hX]; exact Nat.zero_le _) dX8_turnOn_81 (fun v20 hv20 => ?_)
    refine g_istore (loc2 := [(6, .int v20), (5, .int v8), (4, .int v6), (3, .int v4), (2, .int v3), (0, .ref (F + 647)), (1, .int l)]) h dX8_turnOn_84 (by decide) rfl ?_
    refine g_aload_n h 5 dX8_turnOn_86 rfl ?_
    refine q_8_at h rfl tw_708 dX8_turnOn_87 ?_
    refine g_iload h 0 dX8_turnOn_90 rfl ?_
    refine g_iload_n h 3 dX8_turnOn_92 rfl ?_
    refine g_is (q := 22) h iv17 rfl rfl (by decide) (by clear ih15; replace hv1 := hv1.symm; replace hv2 := hv2.symm; replace hv3 := hv3.symm; replace hv4 := hv4.symm; replace hv5 := hv5.symm; replace hv6 := hv6.symm; replace hv7 := hv7.symm; replace hv8 := hv8.symm; replace hv9 := hv9.symm; replace hv10 := hv10.symm; replace hv20 := hv20.symm; subst hv20 hv10 hv9 hv8 hv7 hv6 hv5 hv4 hv3 hv2 hv1; exact ixc (mc0_rg hl)) dX8_turnOn_93 (fun w21 hw21 iw21 => ?_)
    refine g_aload_n h 5 dX8_turnOn_94 rfl ?_
    refine q_8_at h rfl tw_708 dX8_turnOn_95 ?_
    refine g_iload h 0 dX8_turnOn_98 rfl ?_
    refine g_iconst (v := 1) h dX8_turnOn_100 (by decide) ?_
    refine g_iadd h dX8_turnOn_101 (g_name fun v22 hv22 => ?_)
    refine g_iload h 2 dX8_turnOn_102 rfl ?_
    refine g_is (q := 22) h iw21 rfl rfl (by decide) (by clear ih15 iw21; replace hv1 := hv1.symm; replace hv2 := hv2.symm; replace hv3 := hv3.symm; replace hv4 := hv4.symm; replace hv5 := hv5.symm; replace hv6 := hv6.symm; replace hv7 := hv7.symm; replace hv8 := hv8.symm; replace hv9 := hv9.symm; replace hv10 := hv10.symm; replace hv20 := hv20.symm; replace hw21 := hw21.symm; replace hv22 := hv22.symm; subst hv22 hw21 hv20 hv10 hv9 hv8 hv7 hv6 hv5 hv4 hv3 hv2 hv1; exact ixc1 (mc0_rg hl)) dX8_turnOn_104 (fun w23 hw23 iw23 => ?_)
    refine g_aload_n h 5 dX8_turnOn_105 rfl ?_
    refine q_8_at h rfl tw_708 dX8_turnOn_106 ?_
    refine g_iload h 0 dX8_turnOn_109 rfl ?_
    refine g_iconst (v := 2) h dX8_turnOn_111 (by decide) ?_
    refine g_iadd h dX8_turnOn_112 (g_name fun v24 hv24 => ?_)
    refine g_iload h 1 dX8_turnOn_113 rfl ?_
    refine g_is (q := 22) h iw23 rfl rfl (by decide) (by clear ih15 iw21 iw23; replace hv1 := hv1.symm; replace hv2 := hv2.symm; replace hv3 := hv3.symm; replace hv4 := hv4.symm; replace hv5 := hv5.symm; replace hv6 := hv6.symm; replace hv7 := hv7.symm; replace hv8 := hv8.symm; replace hv9 := hv9.symm; replace hv10 := hv10.symm; replace hv20 := hv20.symm; replace hw21 := hw21.symm; replace hv22 := hv22.symm; replace hw23 := hw23.symm; replace hv24 := hv24.symm; subst hv24 hw23 hv22 hw21 hv20 hv10 hv9 hv8 hv7 hv6 hv5 hv4 hv3 hv2 hv1; exact ixc2 (mc0_rg hl)) dX8_turnOn_115 (fun w25 hw25 iw25 => ?_)
    exact e_vret h iw25 dX8_turnOn_116 (by clear ih15 iw21 iw23 iw25; replace hv1 := hv1.symm; replace hv2 := hv2.symm; replace hv3 := hv3.symm; replace hv4 := hv4.symm; replace hv5 := hv5.symm; replace hv6 := hv6.symm; replace hv7 := hv7.symm; replace hv8 := hv8.symm; replace hv9 := hv9.symm; replace hv10 := hv10.symm; replace hv20 := hv20.symm; replace hw21 := hw21.symm; replace hv22 := hv22.symm; replace hw23 := hw23.symm; replace hv24 := hv24.symm; replace hw25 := hw25.symm; subst hw25 hv24 hw23 hv22 hw21 hv20 hv10 hv9 hv8 hv7 hv6 hv5 hv4 hv3 hv2 hv1; rw [hN19]; rfl)
  · have hlt26 : j11 < ((ω 648 (iL l 0) - 1).toNatClampNeg) := by clear ih15; replace hv1 := hv1.symm; replace hv2 := hv2.symm; replace hv3 := hv3.symm; replace hv4 := hv4.symm; replace hv5 := hv5.symm; replace hv6 := hv6.symm; replace hv7 := hv7.symm; replace hv8 := hv8.symm; replace hv9 := hv9.symm; replace hv10 := hv10.symm; subst hv10 hv9 hv8 hv7 hv6 hv5 hv4 hv3 hv2 hv1; exact tn_lt2 (hW.L hl) c18 hj16
    refine g_aload_n h 5 dX8_turnOn_55 rfl ?_
    refine g_iload_n h 6 dX8_turnOn_56 rfl ?_
    refine g_iload h 0 dX8_turnOn_57 rfl ?_
    refine g_iconst (v := 1) h dX8_turnOn_59 (by decide) ?_
    refine g_isub h dX8_turnOn_60 (g_name fun v27 hv27 => ?_)
    refine k_S_i (st := [.ref (F + 647)]) h hX (tX8_cell (xl X) G F (m_tnL l (ω 648 (iL l 0) - 1) ω j11) iv17 l v27) rfl miX8_cell tw_849 (by decide) (by decide) rfl (Nat.le_of_ble_eq_true rfl) (by rw [hX]; exact Nat.zero_le _) (by rw [hX]; exact Nat.zero_le _) dX8_turnOn_61 (fun v28 hv28 => ?_)
    refine g_iload_n h 6 dX8_turnOn_64 rfl ?_
    refine g_iload h 0 dX8_turnOn_65 rfl ?_
    refine k_S_i (st := [.int v28, .ref (F + 647)]) h hX (tX8_cell (xl X) G F (m_tnL l (ω 648 (iL l 0) - 1) ω j11) iv17 l (ω 648 (iL l 0) - 1 - nI j11)) rfl miX8_cell tw_849 (by decide) (by decide) rfl (Nat.le_of_ble_eq_true rfl) (by rw [hX]; exact Nat.zero_le _) (by rw [hX]; exact Nat.zero_le _) dX8_turnOn_67 (fun v29 hv29 => ?_)
    refine k_V_v (st := []) h hX (tX8_moveTo (xl X) G F (m_tnL l (ω 648 (iL l 0) - 1) ω j11) iv17 v28 v29 (by clear ih15; replace hv1 := hv1.symm; replace hv2 := hv2.symm; replace hv3 := hv3.symm; replace hv4 := hv4.symm; replace hv5 := hv5.symm; replace hv6 := hv6.symm; replace hv7 := hv7.symm; replace hv8 := hv8.symm; replace hv9 := hv9.symm; replace hv10 := hv10.symm; replace hv27 := hv27.symm; replace hv28 := hv28.symm; replace hv29 := hv29.symm; subst hv29 hv28 hv27 hv10 hv9 hv8 hv7 hv6 hv5 hv4 hv3 hv2 hv1; exact mc_rg hl (tn_rg (hW.L hl) hlt26).1) (by clear ih15; replace hv1 := hv1.symm; replace hv2 := hv2.symm; replace hv3 := hv3.symm; replace hv4 := hv4.symm; replace hv5 := hv5.symm; replace hv6 := hv6.symm; replace hv7 := hv7.symm; replace hv8 := hv8.symm; replace hv9 := hv9.symm; replace hv10 := hv10.symm; replace hv27 := hv27.symm; replace hv28 := hv28.symm; replace hv29 := hv29.symm; subst hv29 hv28 hv27 hv10 hv9 hv8 hv7 hv6 hv5 hv4 hv3 hv2 hv1; exact mc_rg hl (tn_rg (hW.L hl) hlt26).2)) rfl ⟨kd_lt rfl, ob_21 rfl⟩ rfl miX8_moveTo tw_884 (by decide) (by decide) rfl (Nat.le_of_ble_eq_true rfl) (by rw [hX]; exact Nat.zero_le _) (by rw [hX]; exact Nat.zero_le _) dX8_turnOn_70 (fun w30 hw30 iw30 => ?_)
    obtain ⟨v31, hv31⟩ : ∃ z : Int32, z = (ω 648 (iL l 0) - 1 - nI j11) + (-1) := ⟨_, rfl⟩
    refine g_iinc (v := v31) (loc2 := [(6, .int v31), (5, .int v8), (4, .int v6), (3, .int v4), (2, .int v3), (0, .ref (F + 647)), (1, .int l)]) h 0 dX8_turnOn_73 rfl (by rw [hv31]; rfl) (by decide) rfl ?_
    refine g_goto (tgt := 50) h dX8_turnOn_76 (by decide) ?_
    have e32 : v31 = ω 648 (iL l 0) - 1 - nI (j11 + 1) := by clear ih15 iw30; replace hv1 := hv1.symm; replace hv2 := hv2.symm; replace hv3 := hv3.symm; replace hv4 := hv4.symm; replace hv5 := hv5.symm; replace hv6 := hv6.symm; replace hv7 := hv7.symm; replace hv8 := hv8.symm; replace hv9 := hv9.symm; replace hv10 := hv10.symm; replace hv27 := hv27.symm; replace hv28 := hv28.symm; replace hv29 := hv29.symm; replace hw30 := hw30.symm; replace hv31 := hv31.symm; subst hv31 hw30 hv29 hv28 hv27 hv10 hv9 hv8 hv7 hv6 hv5 hv4 hv3 hv2 hv1; exact sub_n _ _
    have e33 : w30 = m_tnL l (ω 648 (iL l 0) - 1) ω (j11 + 1) := by clear ih15 iw30; replace hv1 := hv1.symm; replace hv2 := hv2.symm; replace hv3 := hv3.symm; replace hv4 := hv4.symm; replace hv5 := hv5.symm; replace hv6 := hv6.symm; replace hv7 := hv7.symm; replace hv8 := hv8.symm; replace hv9 := hv9.symm; replace hv10 := hv10.symm; replace hv27 := hv27.symm; replace hv28 := hv28.symm; replace hv29 := hv29.symm; replace hw30 := hw30.symm; replace hv31 := hv31.symm; subst hv31 hw30 hv29 hv28 hv27 hv10 hv9 hv8 hv7 hv6 hv5 hv4 hv3 hv2 hv1; rfl
    exact g_lt e33 (lc_i e32 rfl) rfl (ih15 hlt26 (e33 ▸ iw30))
set_option maxHeartbeats 4000000 in
set_option maxRecDepth 100000 in
theorem tX8_fade (l0 : Launch) (G : fG) (F : Nat) (ω : fOm) (hI : Inv ω) (l : Int32) (c : Int32) (b_ : Int32) (hl : 0 ≤ l ∧ l ≤ 4) (hc : 290 ≤ c ∧ c ≤ 767) : CT l0 G F yX8_fade cX8_fade 4 none 1 [.ref (F + 647), .int l, .int c, .int b_] ω none (m_fade ω l c b_) := by
  refine ct_met (own := RX8) (by decide +kernel) rfl (Nat.le_of_ble_eq_true rfl) (fun X hXl hX h => ?_)
  subst hXl
  refine g_aload_n h 0 dX8_fade_0 rfl ?_
  refine q_8_at h rfl tw_708 dX8_fade_1 ?_
  refine g_iload_n h 2 dX8_fade_4 rfl ?_
  refine g_iconst (v := 1) h dX8_fade_5 (by decide) ?_
  refine g_iadd h dX8_fade_6 (g_name fun v1 hv1 => ?_)
  refine g_dup2 h dX8_fade_7 rfl rfl ?_
  refine g_ia (q := 22) h rfl rfl (by decide) (by replace hv1 := hv1.symm; subst hv1; exact ixc1 hc) dX8_fade_8 (fun v2 hv2 => ?_)
  refine g_iload_n h 3 dX8_fade_9 rfl ?_
  refine g_isub h dX8_fade_10 (g_name fun v3 hv3 => ?_)
  refine g_is (q := 22) h hI rfl rfl (by decide) (by replace hv1 := hv1.symm; replace hv2 := hv2.symm; replace hv3 := hv3.symm; subst hv3 hv2 hv1; exact ixc1 hc) dX8_fade_11 (fun w4 hw4 iw4 => ?_)
  refine g_aload_n h 0 dX8_fade_12 rfl ?_
  refine q_8_at h rfl tw_708 dX8_fade_13 ?_
  refine g_iload_n h 2 dX8_fade_16 rfl ?_
  refine g_iconst (v := 1) h dX8_fade_17 (by decide) ?_
  refine g_iadd h dX8_fade_18 (g_name fun v5 hv5 => ?_)
  refine g_ia (q := 22) h rfl rfl (by decide) (by clear iw4; replace hv1 := hv1.symm; replace hv2 := hv2.symm; replace hv3 := hv3.symm; replace hw4 := hw4.symm; replace hv5 := hv5.symm; subst hv5 hw4 hv3 hv2 hv1; exact ixc1 hc) dX8_fade_19 (fun v6 hv6 => ?_)
  refine g_if_gt (tgt := 34) h dX8_fade_20 (by decide) (fun c7 => ?_) (fun c7 => ?_)
  · exact e_vret h iw4 dX8_fade_34 (by clear iw4; replace hv1 := hv1.symm; replace hv2 := hv2.symm; replace hv3 := hv3.symm; replace hw4 := hw4.symm; replace hv5 := hv5.symm; replace hv6 := hv6.symm; subst hv6 hv5 hw4 hv3 hv2 hv1; unfold m_fade; dsimp only; simp only [if_pos c7])
  · refine g_aload_n h 0 dX8_fade_23 rfl ?_
    refine g_iload_n h 2 dX8_fade_24 rfl ?_
    refine k_V_v (st := []) h hX (tX8_clear (xl X) G F w4 iw4 c (hc)) rfl ⟨kd_lt rfl, ob_21 rfl⟩ rfl miX8_clear tw_888 (by decide) (by decide) rfl (Nat.le_of_ble_eq_true rfl) (by rw [hX]; exact Nat.zero_le _) (by rw [hX]; exact Nat.zero_le _) dX8_fade_25 (fun w8 hw8 iw8 => ?_)
    refine g_aload_n h 0 dX8_fade_28 rfl ?_
    refine g_iload_n h 1 dX8_fade_29 rfl ?_
    refine g_iconst (v := 2) h dX8_fade_30 (by decide) ?_
    refine k_V_v (st := []) h hX (tX8_moreL (xl X) G F w8 iw8 l 2 (hl) (by decide)) rfl ⟨kd_lt rfl, ob_21 rfl⟩ rfl miX8_moreL tw_856 (by decide) (by decide) rfl (Nat.le_of_ble_eq_true rfl) (by rw [hX]; exact Nat.zero_le _) (by rw [hX]; exact Nat.zero_le _) dX8_fade_31 (fun w9 hw9 iw9 => ?_)
    exact e_vret h iw9 dX8_fade_34 (by clear iw4 iw8 iw9; replace hv1 := hv1.symm; replace hv2 := hv2.symm; replace hv3 := hv3.symm; replace hw4 := hw4.symm; replace hv5 := hv5.symm; replace hv6 := hv6.symm; replace hw8 := hw8.symm; replace hw9 := hw9.symm; subst hw9 hw8 hv6 hv5 hw4 hv3 hv2 hv1; unfold m_fade; dsimp only; simp only [if_neg c7])
set_option maxHeartbeats 4000000 in
set_option maxRecDepth 100000 in
theorem tX8_fadeAll (l0 : Launch) (G : fG) (F : Nat) (ω : fOm) (hI : Inv ω) (l : Int32) (hl : 0 ≤ l ∧ l ≤ 4) (hW : MW (ω 648)) : CT l0 G F yX8_fadeAll cX8_fadeAll 4 none 2 [.ref (F + 647), .int l] ω none (m_fadeAll ω l) := by
  refine ct_met (own := RX8) (by decide +kernel) rfl (Nat.le_of_ble_eq_true rfl) (fun X hXl hX h => ?_)
  subst hXl
  refine g_iconst (v := 0) h dX8_fadeAll_0 (by decide) ?_
  refine g_istore_n (loc2 := [(2, .int 0), (0, .ref (F + 647)), (1, .int l)]) h dX8_fadeAll_1 (by decide) rfl ?_
  have e2 : 0 = nI 0 := by skip; first | rfl | exact nI_0.symm | exact nI_0 | decide
  have e3 : ω = m_faL l ω 0 := rfl
  refine g_lt (ω2 := m_faL l ω 0) (loc2 := [(2, .int (nI 0)), (0, .ref (F + 647)), (1, .int l)]) e3 (lc_i e2 rfl) rfl ?_
  refine g_loop3 (hd := 2) ((ω 648 (iL l 0)).toNatClampNeg) (fun j1 => Inv (m_faL l ω j1) ∧ KPw ω (m_faL l ω j1) ∧ j1 ≤ 32) (fun j1 => [(2, .int (nI j1)), (0, .ref (F + 647)), (1, .int l)]) (fun j1 => cel F G (m_faL l ω j1)) ⟨(e3 ▸ hI), KP.rf, (Nat.zero_le _)⟩ (fun j1 hj6 hP4 ih5 => ?_)
  (try dsimp only)
  obtain ⟨iv7, hkp, hj32⟩ := hP4
  refine g_iload_n h 0 dX8_fadeAll_2 rfl ?_
  refine g_aload_n h 1 dX8_fadeAll_3 rfl ?_
  refine g_iload_n h 2 dX8_fadeAll_4 rfl ?_
  refine g_iconst (v := 0) h dX8_fadeAll_5 (by decide) ?_
  refine k_V_i (st := [.int (nI j1)]) h hX (tX8_ofL (xl X) G F (m_faL l ω j1) iv7 l 0 (hl) (by decide)) rfl ⟨kd_lt rfl, ob_21 rfl⟩ rfl miX8_ofL tw_787 (by decide) (by decide) rfl (Nat.le_of_ble_eq_true rfl) (by rw [hX]; exact Nat.zero_le _) (by rw [hX]; exact Nat.zero_le _) dX8_fadeAll_6 (fun v8 hv8 => ?_)
  refine g_icmp_ge (tgt := 45) h dX8_fadeAll_9 (by decide) (fun c9 => ?_) (fun c9 => ?_)
  · have hN10 : j1 = ((ω 648 (iL l 0)).toNatClampNeg) := by have hq9 := hkp _ (cK_Q (ck_L0 hl)); clear ih5; replace hv8 := hv8.symm; subst hv8; rw [hq9] at c9; exact lp_ge (hW.L hl).1 c9 hj6
    exact e_vret h iv7 dX8_fadeAll_45 (by clear ih5; replace hv8 := hv8.symm; subst hv8; rw [hN10]; rfl)
  · have hlt11 : j1 < ((ω 648 (iL l 0)).toNatClampNeg) := by have hq9 := hkp _ (cK_Q (ck_L0 hl)); clear ih5; replace hv8 := hv8.symm; subst hv8; rw [hq9] at c9; exact lp_lt (hW.L hl).1 c9 hj6
    refine g_iload_n h 2 dX8_fadeAll_12 rfl ?_
    refine g_iload_n h 0 dX8_fadeAll_13 rfl ?_
    refine k_S_i (st := []) h hX (tX8_cell (xl X) G F (m_faL l ω j1) iv7 l (nI j1)) rfl miX8_cell tw_849 (by decide) (by decide) rfl (Nat.le_of_ble_eq_true rfl) (by rw [hX]; exact Nat.zero_le _) (by rw [hX]; exact Nat.zero_le _) dX8_fadeAll_14 (fun v12 hv12 => ?_)
    refine g_istore_n (loc2 := [(3, .int v12), (2, .int (nI j1)), (0, .ref (F + 647)), (1, .int l)]) h dX8_fadeAll_17 (by decide) rfl ?_
    refine g_aload_n h 2 dX8_fadeAll_18 rfl ?_
    refine q_8_at h rfl tw_708 dX8_fadeAll_19 ?_
    refine g_iload_n h 0 dX8_fadeAll_22 rfl ?_
    refine g_ia (q := 22) h rfl rfl (by decide) (by clear ih5; replace hv8 := hv8.symm; replace hv12 := hv12.symm; subst hv12 hv8; exact ixc (mc_rg hl (nj_rg (Nat.lt_of_lt_of_le hlt11 (tn_le (n := 32) (hW.L hl) rfl))))) dX8_fadeAll_23 (fun v13 hv13 => ?_)
    have hm39_20 : ∀ w19 : fOm, w19 = (if v13 < 0 then m_faL l ω j1 else (m_fade (m_faL l ω j1) l v12 ((m_faL l ω j1) 648 0))) → Inv w19 → Vg X (MQ (xb X) (fQ G F (fP F G none (m_fadeAll ω l))) (xa X) (xs X) 0 0 (fA F)) G F 4 NC (cel F G w19) 0 0 39 [(3, .int v12), (2, .int (nI j1)), (0, .ref (F + 647)), (1, .int l)] [] := by
      intro w19 hw19 iw19
      obtain ⟨v21, hv21⟩ : ∃ z : Int32, z = (nI j1) + 1 := ⟨_, rfl⟩
      refine g_iinc (v := v21) (loc2 := [(2, .int v21), (3, .int v12), (0, .ref (F + 647)), (1, .int l)]) h 1 dX8_fadeAll_39 rfl (by rw [hv21]; rfl) (by decide) rfl ?_
      refine g_goto (tgt := 2) h dX8_fadeAll_42 (by decide) ?_
      refine g_loc [0, 2, 3] rfl ?_
      have e22 : v21 = nI (j1 + 1) := by clear ih5 iw19; replace hv8 := hv8.symm; replace hv12 := hv12.symm; replace hv13 := hv13.symm; replace hw19 := hw19.symm; replace hv21 := hv21.symm; subst hv21 hw19 hv13 hv12 hv8; first | rfl | exact nI_1 _ | (rw [nI_succ])
      have e23 : w19 = m_faL l ω (j1 + 1) := by clear ih5 iw19; replace hv8 := hv8.symm; replace hv12 := hv12.symm; replace hv13 := hv13.symm; replace hw19 := hw19.symm; replace hv21 := hv21.symm; subst hv21 hw19 hv13 hv12 hv8; rfl
      exact g_lt e23 (lc_i e22 rfl) rfl (ih5 hlt11 ⟨(e23 ▸ iw19), (faL_K KP.rf hl (Nat.succ_le_of_lt (Nat.lt_of_lt_of_le hlt11 (tn_le (n := 32) (hW.L hl) rfl)))), (Nat.succ_le_of_lt (Nat.lt_of_lt_of_le hlt11 (tn_le (n := 32) (hW.L hl) rfl)))⟩)
    refine g_if_lt (tgt := 39) h dX8_fadeAll_24 (by decide) (fun c14 => ?_) (fun c14 => ?_)
    · exact hm39_20 _ (by clear ih5; replace hv8 := hv8.symm; replace hv12 := hv12.symm; replace hv13 := hv13.symm; subst hv13 hv12 hv8; rw [if_pos c14]) iv7
    · refine g_aload_n h 2 dX8_fadeAll_27 rfl ?_
      refine g_iload_n h 3 dX8_fadeAll_28 rfl ?_
      refine g_iload_n h 0 dX8_fadeAll_29 rfl ?_
      refine g_aload_n h 2 dX8_fadeAll_30 rfl ?_
      refine q_8_at h rfl tw_708 dX8_fadeAll_31 ?_
      refine g_iconst (v := 0) h dX8_fadeAll_34 (by decide) ?_
      refine g_ia (q := 22) h rfl rfl (by decide) (vp_n (j := 0) (Nat.le_of_ble_eq_true rfl) (Nat.le_of_ble_eq_true rfl)) dX8_fadeAll_35 (fun v16 hv16 => ?_)
      replace hv16 : v16 = (m_faL l ω j1) 648 0 := hv16
      refine k_V_v (st := []) h hX (tX8_fade (xl X) G F (m_faL l ω j1) iv7 l v12 v16 (hl) (by clear ih5; replace hv8 := hv8.symm; replace hv12 := hv12.symm; replace hv13 := hv13.symm; replace hv16 := hv16.symm; subst hv16 hv13 hv12 hv8; exact mc_rg hl (nj_rg (Nat.lt_of_lt_of_le hlt11 (tn_le (n := 32) (hW.L hl) rfl))))) rfl ⟨kd_lt rfl, ob_21 rfl⟩ rfl miX8_fade tw_896 (by decide) (by decide) rfl (Nat.le_of_ble_eq_true rfl) (by rw [hX]; exact Nat.zero_le _) (by rw [hX]; exact Nat.zero_le _) dX8_fadeAll_36 (fun w17 hw17 iw17 => ?_)
      exact hm39_20 _ (by clear ih5 iw17; replace hv8 := hv8.symm; replace hv12 := hv12.symm; replace hv13 := hv13.symm; replace hv16 := hv16.symm; replace hw17 := hw17.symm; subst hw17 hv16 hv13 hv12 hv8; rw [if_neg c14]) iw17
set_option maxHeartbeats 4000000 in
set_option maxRecDepth 100000 in
theorem tX8_did (l0 : Launch) (G : fG) (F : Nat) (ω : fOm) (hI : Inv ω) (d : Int32) (hd : 0 ≤ d ∧ d ≤ 11) : CT l0 G F yX8_did cX8_did 2 none 1 [.ref (F + 647), .int d] ω none (m_did ω d) := by
  refine ct_met (own := RX8) (by decide +kernel) rfl (Nat.le_of_ble_eq_true rfl) (fun X hXl hX h => ?_)
  subst hXl
  refine g_aload_n h 0 dX8_did_0 rfl ?_
  refine g_iload_n h 1 dX8_did_1 rfl ?_
  refine g_bipush (v := 6) h dX8_did_2 (by decide) ?_
  refine g_aload_n h 0 dX8_did_4 rfl ?_
  refine g_iload_n h 1 dX8_did_5 rfl ?_
  refine g_bipush (v := 6) h dX8_did_6 (by decide) ?_
  refine k_V_i (st := [.int 6, .int d, .ref (F + 647)]) h hX (tX8_ofD (xl X) G F ω hI d 6 (hd) (by decide)) rfl ⟨kd_lt rfl, ob_21 rfl⟩ rfl miX8_ofD tw_837 (by decide) (by decide) rfl (Nat.le_of_ble_eq_true rfl) (by rw [hX]; exact Nat.zero_le _) (by rw [hX]; exact Nat.zero_le _) dX8_did_8 (fun v1 hv1 => ?_)
  refine g_iconst (v := 1) h dX8_did_11 (by decide) ?_
  refine g_iadd h dX8_did_12 (g_name fun v2 hv2 => ?_)
  refine k_V_v (st := []) h hX (tX8_layD (xl X) G F ω hI d 6 v2 (hd) (by decide)) rfl ⟨kd_lt rfl, ob_21 rfl⟩ rfl miX8_layD tw_801 (by decide) (by decide) rfl (Nat.le_of_ble_eq_true rfl) (by rw [hX]; exact Nat.zero_le _) (by rw [hX]; exact Nat.zero_le _) dX8_did_13 (fun w3 hw3 iw3 => ?_)
  exact e_vret h iw3 dX8_did_16 (by clear iw3; replace hv1 := hv1.symm; replace hv2 := hv2.symm; replace hw3 := hw3.symm; subst hw3 hv2 hv1; first | rfl | contradiction)
set_option maxHeartbeats 4000000 in
set_option maxRecDepth 100000 in
theorem tX8_amplify (l0 : Launch) (G : fG) (F : Nat) (ω : fOm) (hI : Inv ω) (d : Int32) (c : Int32) (hd : 0 ≤ d ∧ d ≤ 11) (hc : 290 ≤ c ∧ c ≤ 767) : CT l0 G F yX8_amplify cX8_amplify 4 none 2 [.ref (F + 647), .int d, .int c] ω none (m_amp ω d c) := by
  refine ct_met (own := RX8) (by decide +kernel) rfl (Nat.le_of_ble_eq_true rfl) (fun X hXl hX h => ?_)
  subst hXl
  refine g_aload_n h 0 dX8_amplify_0 rfl ?_
  refine g_iload_n h 1 dX8_amplify_1 rfl ?_
  refine g_iconst (v := 3) h dX8_amplify_2 (by decide) ?_
  refine k_V_i (st := []) h hX (tX8_ofD (xl X) G F ω hI d 3 (hd) (by decide)) rfl ⟨kd_lt rfl, ob_21 rfl⟩ rfl miX8_ofD tw_837 (by decide) (by decide) rfl (Nat.le_of_ble_eq_true rfl) (by rw [hX]; exact Nat.zero_le _) (by rw [hX]; exact Nat.zero_le _) dX8_amplify_3 (fun v1 hv1 => ?_)
  refine g_istore_n (loc2 := [(3, .int v1), (0, .ref (F + 647)), (1, .int d), (2, .int c)]) h dX8_amplify_6 (by decide) rfl ?_
  refine g_iload_n h 0 dX8_amplify_7 rfl ?_
  refine g_aload_n h 1 dX8_amplify_8 rfl ?_
  refine g_iload_n h 2 dX8_amplify_9 rfl ?_
  refine g_iconst (v := 5) h dX8_amplify_10 (by decide) ?_
  refine k_V_i (st := [.int v1]) h hX (tX8_ofD (xl X) G F ω hI d 5 (hd) (by decide)) rfl ⟨kd_lt rfl, ob_21 rfl⟩ rfl miX8_ofD tw_837 (by decide) (by decide) rfl (Nat.le_of_ble_eq_true rfl) (by rw [hX]; exact Nat.zero_le _) (by rw [hX]; exact Nat.zero_le _) dX8_amplify_11 (fun v2 hv2 => ?_)
  have hm27_8 : ∀ m7 : Int32, m7 = (if v2 ≤ v1 then (ω 648 (iD d 5)) else v1) → Vg X (MQ (xb X) (fQ G F (fP F G none (m_amp ω d c))) (xa X) (xs X) 0 0 (fA F)) G F 4 NC (cel F G ω) 0 0 27 [(3, .int v1), (0, .ref (F + 647)), (1, .int d), (2, .int c)] [.int m7] := by
    intro m7 hm7
    refine g_istore_n (loc2 := [(3, .int m7), (0, .ref (F + 647)), (1, .int d), (2, .int c)]) h dX8_amplify_27 (by decide) rfl ?_
    refine g_iload_n h 0 dX8_amplify_28 rfl ?_
    refine g_sipush (v := 1000) h dX8_amplify_29 (by decide) ?_
    refine g_aload_n h 1 dX8_amplify_32 rfl ?_
    refine q_8_at h rfl tw_708 dX8_amplify_33 ?_
    refine g_iload_n h 3 dX8_amplify_36 rfl ?_
    refine g_iconst (v := 1) h dX8_amplify_37 (by decide) ?_
    refine g_iadd h dX8_amplify_38 (g_name fun v9 hv9 => ?_)
    refine g_ia (q := 22) h rfl rfl (by decide) (by replace hv1 := hv1.symm; replace hv2 := hv2.symm; replace hm7 := hm7.symm; replace hv9 := hv9.symm; subst hv9 hm7 hv2 hv1; exact ixc1 hc) dX8_amplify_39 (fun v10 hv10 => ?_)
    refine g_isub h dX8_amplify_40 (g_name fun v11 hv11 => ?_)
    have hm60_19 : ∀ m18 : Int32, m18 = (if v11 ≤ m7 then (1000 - (ω 648 ((c + 1) : Int32).toNatClampNeg)) else m7) → Vg X (MQ (xb X) (fQ G F (fP F G none (m_amp ω d c))) (xa X) (xs X) 0 0 (fA F)) G F 4 NC (cel F G ω) 0 0 60 [(3, .int m7), (0, .ref (F + 647)), (1, .int d), (2, .int c)] [.int m18] := by
      intro m18 hm18
      refine g_istore_n (loc2 := [(3, .int m18), (0, .ref (F + 647)), (1, .int d), (2, .int c)]) h dX8_amplify_60 (by decide) rfl ?_
      refine g_aload_n h 1 dX8_amplify_61 rfl ?_
      refine q_8_at h rfl tw_708 dX8_amplify_62 ?_
      refine g_iload_n h 3 dX8_amplify_65 rfl ?_
      refine g_iconst (v := 1) h dX8_amplify_66 (by decide) ?_
      refine g_iadd h dX8_amplify_67 (g_name fun v20 hv20 => ?_)
      refine g_dup2 h dX8_amplify_68 rfl rfl ?_
      refine g_ia (q := 22) h rfl rfl (by decide) (by replace hv1 := hv1.symm; replace hv2 := hv2.symm; replace hm7 := hm7.symm; replace hv9 := hv9.symm; replace hv10 := hv10.symm; replace hv11 := hv11.symm; replace hm18 := hm18.symm; replace hv20 := hv20.symm; subst hv20 hm18 hv11 hv10 hv9 hm7 hv2 hv1; exact ixc1 hc) dX8_amplify_69 (fun v21 hv21 => ?_)
      refine g_iload_n h 0 dX8_amplify_70 rfl ?_
      refine g_iadd h dX8_amplify_71 (g_name fun v22 hv22 => ?_)
      refine g_is (q := 22) h hI rfl rfl (by decide) (by replace hv1 := hv1.symm; replace hv2 := hv2.symm; replace hm7 := hm7.symm; replace hv9 := hv9.symm; replace hv10 := hv10.symm; replace hv11 := hv11.symm; replace hm18 := hm18.symm; replace hv20 := hv20.symm; replace hv21 := hv21.symm; replace hv22 := hv22.symm; subst hv22 hv21 hv20 hm18 hv11 hv10 hv9 hm7 hv2 hv1; exact ixc1 hc) dX8_amplify_72 (fun w23 hw23 iw23 => ?_)
      refine g_aload_n h 1 dX8_amplify_73 rfl ?_
      refine g_iload_n h 2 dX8_amplify_74 rfl ?_
      refine g_iconst (v := 5) h dX8_amplify_75 (by decide) ?_
      refine g_aload_n h 1 dX8_amplify_76 rfl ?_
      refine g_iload_n h 2 dX8_amplify_77 rfl ?_
      refine g_iconst (v := 5) h dX8_amplify_78 (by decide) ?_
      refine k_V_i (st := [.int 5, .int d, .ref (F + 647)]) h hX (tX8_ofD (xl X) G F w23 iw23 d 5 (hd) (by decide)) rfl ⟨kd_lt rfl, ob_21 rfl⟩ rfl miX8_ofD tw_837 (by decide) (by decide) rfl (Nat.le_of_ble_eq_true rfl) (by rw [hX]; exact Nat.zero_le _) (by rw [hX]; exact Nat.zero_le _) dX8_amplify_79 (fun v24 hv24 => ?_)
      refine g_iload_n h 0 dX8_amplify_82 rfl ?_
      refine g_isub h dX8_amplify_83 (g_name fun v25 hv25 => ?_)
      refine k_V_v (st := []) h hX (tX8_layD (xl X) G F w23 iw23 d 5 v25 (hd) (by decide)) rfl ⟨kd_lt rfl, ob_21 rfl⟩ rfl miX8_layD tw_801 (by decide) (by decide) rfl (Nat.le_of_ble_eq_true rfl) (by rw [hX]; exact Nat.zero_le _) (by rw [hX]; exact Nat.zero_le _) dX8_amplify_84 (fun w26 hw26 iw26 => ?_)
      refine g_iload_n h 0 dX8_amplify_87 rfl ?_
      refine g_if_le (tgt := 96) h dX8_amplify_88 (by decide) (fun c27 => ?_) (fun c27 => ?_)
      · exact e_vret h iw26 dX8_amplify_96 (by clear iw23 iw26; replace hv1 := hv1.symm; replace hv2 := hv2.symm; replace hm7 := hm7.symm; replace hv9 := hv9.symm; replace hv10 := hv10.symm; replace hv11 := hv11.symm; replace hm18 := hm18.symm; replace hv20 := hv20.symm; replace hv21 := hv21.symm; replace hv22 := hv22.symm; replace hw23 := hw23.symm; replace hv24 := hv24.symm; replace hv25 := hv25.symm; replace hw26 := hw26.symm; subst hw26 hv25 hv24 hw23 hv22 hv21 hv20 hm18 hv11 hv10 hv9 hm7 hv2 hv1; unfold m_amp m_mn; dsimp only; simp only [if_pos c27])
      · refine g_aload_n h 1 dX8_amplify_91 rfl ?_
        refine g_iload_n h 2 dX8_amplify_92 rfl ?_
        refine k_V_v (st := []) h hX (tX8_did (xl X) G F w26 iw26 d (hd)) rfl ⟨kd_lt rfl, ob_21 rfl⟩ rfl miX8_did tw_908 (by decide) (by decide) rfl (Nat.le_of_ble_eq_true rfl) (by rw [hX]; exact Nat.zero_le _) (by rw [hX]; exact Nat.zero_le _) dX8_amplify_93 (fun w28 hw28 iw28 => ?_)
        exact e_vret h iw28 dX8_amplify_96 (by clear iw23 iw26 iw28; replace hv1 := hv1.symm; replace hv2 := hv2.symm; replace hm7 := hm7.symm; replace hv9 := hv9.symm; replace hv10 := hv10.symm; replace hv11 := hv11.symm; replace hm18 := hm18.symm; replace hv20 := hv20.symm; replace hv21 := hv21.symm; replace hv22 := hv22.symm; replace hw23 := hw23.symm; replace hv24 := hv24.symm; replace hv25 := hv25.symm; replace hw26 := hw26.symm; replace hw28 := hw28.symm; subst hw28 hw26 hv25 hv24 hw23 hv22 hv21 hv20 hm18 hv11 hv10 hv9 hm7 hv2 hv1; unfold m_amp m_mn; dsimp only; simp only [if_neg c27])
    refine g_icmp_ge (tgt := 48) h dX8_amplify_41 (by decide) (fun c12 => ?_) (fun c12 => ?_)
    · refine g_sipush (v := 1000) h dX8_amplify_48 (by decide) ?_
      refine g_aload_n h 1 dX8_amplify_51 rfl ?_
      refine q_8_at h rfl tw_708 dX8_amplify_52 ?_
      refine g_iload_n h 3 dX8_amplify_55 rfl ?_
      refine g_iconst (v := 1) h dX8_amplify_56 (by decide) ?_
      refine g_iadd h dX8_amplify_57 (g_name fun v13 hv13 => ?_)
      refine g_ia (q := 22) h rfl rfl (by decide) (by replace hv1 := hv1.symm; replace hv2 := hv2.symm; replace hm7 := hm7.symm; replace hv9 := hv9.symm; replace hv10 := hv10.symm; replace hv11 := hv11.symm; replace hv13 := hv13.symm; subst hv13 hv11 hv10 hv9 hm7 hv2 hv1; exact ixc1 hc) dX8_amplify_58 (fun v14 hv14 => ?_)
      refine g_isub h dX8_amplify_59 (g_name fun v15 hv15 => ?_)
      exact hm60_19 _ (by replace hv1 := hv1.symm; replace hv2 := hv2.symm; replace hm7 := hm7.symm; replace hv9 := hv9.symm; replace hv10 := hv10.symm; replace hv11 := hv11.symm; replace hv13 := hv13.symm; replace hv14 := hv14.symm; replace hv15 := hv15.symm; subst hv15 hv14 hv13 hv11 hv10 hv9 hm7 hv2 hv1; rw [if_pos c12])
    · refine g_iload_n h 0 dX8_amplify_44 rfl ?_
      refine g_goto (tgt := 60) h dX8_amplify_45 (by decide) ?_
      exact hm60_19 _ (by replace hv1 := hv1.symm; replace hv2 := hv2.symm; replace hm7 := hm7.symm; replace hv9 := hv9.symm; replace hv10 := hv10.symm; replace hv11 := hv11.symm; subst hv11 hv10 hv9 hm7 hv2 hv1; rw [if_neg c12])
  refine g_icmp_ge (tgt := 21) h dX8_amplify_14 (by decide) (fun c3 => ?_) (fun c3 => ?_)
  · refine g_aload_n h 1 dX8_amplify_21 rfl ?_
    refine g_iload_n h 2 dX8_amplify_22 rfl ?_
    refine g_iconst (v := 5) h dX8_amplify_23 (by decide) ?_
    refine k_V_i (st := []) h hX (tX8_ofD (xl X) G F ω hI d 5 (hd) (by decide)) rfl ⟨kd_lt rfl, ob_21 rfl⟩ rfl miX8_ofD tw_837 (by decide) (by decide) rfl (Nat.le_of_ble_eq_true rfl) (by rw [hX]; exact Nat.zero_le _) (by rw [hX]; exact Nat.zero_le _) dX8_amplify_24 (fun v4 hv4 => ?_)
    exact hm27_8 _ (by replace hv1 := hv1.symm; replace hv2 := hv2.symm; replace hv4 := hv4.symm; subst hv4 hv2 hv1; rw [if_pos c3])
  · refine g_iload_n h 0 dX8_amplify_17 rfl ?_
    refine g_goto (tgt := 27) h dX8_amplify_18 (by decide) ?_
    exact hm27_8 _ (by replace hv1 := hv1.symm; replace hv2 := hv2.symm; subst hv2 hv1; rw [if_neg c3])
set_option maxHeartbeats 4000000 in
set_option maxRecDepth 100000 in
theorem tX8_note (l0 : Launch) (G : fG) (F : Nat) (ω : fOm) (hI : Inv ω) (d : Int32) (c : Int32) (hd : 0 ≤ d ∧ d ≤ 11) (hc : 290 ≤ c ∧ c ≤ 767) (hW : MW (ω 648)) (h1 : ω 648 (iD d 0) = 1) : CT l0 G F yX8_note cX8_note 4 none 2 [.ref (F + 647), .int d, .int c] ω none (m_note ω d c) := by
  refine ct_met (own := RX8) (by decide +kernel) rfl (Nat.le_of_ble_eq_true rfl) (fun X hXl hX h => ?_)
  subst hXl
  refine g_bipush (v := 7) h dX8_note_0 (by decide) ?_
  refine g_istore_n (loc2 := [(3, .int 7), (0, .ref (F + 647)), (1, .int d), (2, .int c)]) h dX8_note_2 (by decide) rfl ?_
  have e2 : 7 = 7 - nI 0 := by skip; exact sub_0 _
  have e3 : ω = m_ntL d ω 0 := rfl
  refine g_lt (ω2 := m_ntL d ω 0) (loc2 := [(3, .int (7 - nI 0)), (0, .ref (F + 647)), (1, .int d), (2, .int c)]) e3 (lc_i e2 rfl) rfl ?_
  refine g_loop3 (hd := 3) (7) (fun j1 => Inv (m_ntL d ω j1)) (fun j1 => [(3, .int (7 - nI j1)), (0, .ref (F + 647)), (1, .int d), (2, .int c)]) (fun j1 => cel F G (m_ntL d ω j1)) (e3 ▸ hI) (fun j1 hj6 hP4 ih5 => ?_)
  (try dsimp only)
  have iv7 := hP4
  refine g_iload_n h 0 dX8_note_3 rfl ?_
  refine g_if_le (tgt := 33) h dX8_note_4 (by decide) (fun c8 => ?_) (fun c8 => ?_)
  · have hN9 : j1 = 7 := by clear ih5; skip; exact nt_ge c8 hj6
    refine g_aload_n h 1 dX8_note_33 rfl ?_
    refine g_iload_n h 2 dX8_note_34 rfl ?_
    refine g_bipush (v := 7) h dX8_note_35 (by decide) ?_
    refine g_aload_n h 1 dX8_note_37 rfl ?_
    refine q_8_at h rfl tw_708 dX8_note_38 ?_
    refine g_iload_n h 3 dX8_note_41 rfl ?_
    refine g_ia (q := 22) h rfl rfl (by decide) (by clear ih5; skip; exact ixc hc) dX8_note_42 (fun v10 hv10 => ?_)
    refine k_V_v (st := []) h hX (tX8_layD (xl X) G F (m_ntL d ω j1) iv7 d 7 v10 (hd) (by decide)) rfl ⟨kd_lt rfl, ob_21 rfl⟩ rfl miX8_layD tw_801 (by decide) (by decide) rfl (Nat.le_of_ble_eq_true rfl) (by rw [hX]; exact Nat.zero_le _) (by rw [hX]; exact Nat.zero_le _) dX8_note_43 (fun w11 hw11 iw11 => ?_)
    refine g_aload_n h 1 dX8_note_46 rfl ?_
    refine g_iload_n h 2 dX8_note_47 rfl ?_
    refine g_iconst (v := 5) h dX8_note_48 (by decide) ?_
    refine g_aload_n h 1 dX8_note_49 rfl ?_
    refine g_iload_n h 2 dX8_note_50 rfl ?_
    refine g_iconst (v := 5) h dX8_note_51 (by decide) ?_
    refine k_V_i (st := [.int 5, .int d, .ref (F + 647)]) h hX (tX8_ofD (xl X) G F w11 iw11 d 5 (hd) (by decide)) rfl ⟨kd_lt rfl, ob_21 rfl⟩ rfl miX8_ofD tw_837 (by decide) (by decide) rfl (Nat.le_of_ble_eq_true rfl) (by rw [hX]; exact Nat.zero_le _) (by rw [hX]; exact Nat.zero_le _) dX8_note_52 (fun v12 hv12 => ?_)
    refine g_bipush (v := 8) h dX8_note_55 (by decide) ?_
    have hm73_19 : ∀ m18 : Int32, m18 = (if 8 ≤ v12 then 8 else ((w11 648 (iD d 5)) + 1)) → Vg X (MQ (xb X) (fQ G F (fP F G none (m_note ω d c))) (xa X) (xs X) 0 0 (fA F)) G F 4 NC (cel F G w11) 0 0 73 [(3, .int (7 - nI j1)), (0, .ref (F + 647)), (1, .int d), (2, .int c)] [.int m18, .int 5, .int d, .ref (F + 647)] := by
      intro m18 hm18
      refine k_V_v (st := []) h hX (tX8_layD (xl X) G F w11 iw11 d 5 m18 (hd) (by decide)) rfl ⟨kd_lt rfl, ob_21 rfl⟩ rfl miX8_layD tw_801 (by decide) (by decide) rfl (Nat.le_of_ble_eq_true rfl) (by rw [hX]; exact Nat.zero_le _) (by rw [hX]; exact Nat.zero_le _) dX8_note_73 (fun w20 hw20 iw20 => ?_)
      refine g_aload_n h 1 dX8_note_76 rfl ?_
      refine g_iload_n h 2 dX8_note_77 rfl ?_
      refine k_V_v (st := []) h hX (tX8_did (xl X) G F w20 iw20 d (hd)) rfl ⟨kd_lt rfl, ob_21 rfl⟩ rfl miX8_did tw_908 (by decide) (by decide) rfl (Nat.le_of_ble_eq_true rfl) (by rw [hX]; exact Nat.zero_le _) (by rw [hX]; exact Nat.zero_le _) dX8_note_78 (fun w21 hw21 iw21 => ?_)
      refine g_aload_n h 1 dX8_note_81 rfl ?_
      refine g_aload_n h 1 dX8_note_82 rfl ?_
      refine g_iload_n h 2 dX8_note_83 rfl ?_
      refine g_iconst (v := 1) h dX8_note_84 (by decide) ?_
      refine k_V_i (st := [.ref (F + 647)]) h hX (tX8_ofD (xl X) G F w21 iw21 d 1 (hd) (by decide)) rfl ⟨kd_lt rfl, ob_21 rfl⟩ rfl miX8_ofD tw_837 (by decide) (by decide) rfl (Nat.le_of_ble_eq_true rfl) (by rw [hX]; exact Nat.zero_le _) (by rw [hX]; exact Nat.zero_le _) dX8_note_85 (fun v22 hv22 => ?_)
      refine g_iload_n h 3 dX8_note_88 rfl ?_
      refine g_aload_n h 1 dX8_note_89 rfl ?_
      refine q_8_at h rfl tw_708 dX8_note_90 ?_
      refine g_iconst (v := 1) h dX8_note_93 (by decide) ?_
      refine g_ia (q := 22) h rfl rfl (by decide) (vp_n (j := 1) (Nat.le_of_ble_eq_true rfl) (Nat.le_of_ble_eq_true rfl)) dX8_note_94 (fun v23 hv23 => ?_)
      replace hv23 : v23 = w21 648 1 := hv23
      refine k_V_v (st := []) h hX (tX8_fade (xl X) G F w21 iw21 v22 c v23 (by clear ih5 iw11 iw20 iw21; replace hv10 := hv10.symm; replace hw11 := hw11.symm; replace hv12 := hv12.symm; replace hm18 := hm18.symm; replace hw20 := hw20.symm; replace hw21 := hw21.symm; replace hv22 := hv22.symm; replace hv23 := hv23.symm; subst hv23 hv22 hw21 hw20 hm18 hv12 hw11 hv10; rw [hN9]; exact (nt4_K hW hd h1).2.D1 hd) (hc)) rfl ⟨kd_lt rfl, ob_21 rfl⟩ rfl miX8_fade tw_896 (by decide) (by decide) rfl (Nat.le_of_ble_eq_true rfl) (by rw [hX]; exact Nat.zero_le _) (by rw [hX]; exact Nat.zero_le _) dX8_note_95 (fun w24 hw24 iw24 => ?_)
      exact e_vret h iw24 dX8_note_98 (by clear ih5 iw11 iw20 iw21 iw24; replace hv10 := hv10.symm; replace hw11 := hw11.symm; replace hv12 := hv12.symm; replace hm18 := hm18.symm; replace hw20 := hw20.symm; replace hw21 := hw21.symm; replace hv22 := hv22.symm; replace hv23 := hv23.symm; replace hw24 := hw24.symm; subst hw24 hv23 hv22 hw21 hw20 hm18 hv12 hw11 hv10; rw [hN9]; rfl)
    refine g_icmp_ge (tgt := 71) h dX8_note_57 (by decide) (fun c13 => ?_) (fun c13 => ?_)
    · refine g_bipush (v := 8) h dX8_note_71 (by decide) ?_
      exact hm73_19 _ (by clear ih5 iw11; replace hv10 := hv10.symm; replace hw11 := hw11.symm; replace hv12 := hv12.symm; subst hv12 hw11 hv10; rw [if_pos c13])
    · refine g_aload_n h 1 dX8_note_60 rfl ?_
      refine g_iload_n h 2 dX8_note_61 rfl ?_
      refine g_iconst (v := 5) h dX8_note_62 (by decide) ?_
      refine k_V_i (st := [.int 5, .int d, .ref (F + 647)]) h hX (tX8_ofD (xl X) G F w11 iw11 d 5 (hd) (by decide)) rfl ⟨kd_lt rfl, ob_21 rfl⟩ rfl miX8_ofD tw_837 (by decide) (by decide) rfl (Nat.le_of_ble_eq_true rfl) (by rw [hX]; exact Nat.zero_le _) (by rw [hX]; exact Nat.zero_le _) dX8_note_63 (fun v15 hv15 => ?_)
      refine g_iconst (v := 1) h dX8_note_66 (by decide) ?_
      refine g_iadd h dX8_note_67 (g_name fun v16 hv16 => ?_)
      refine g_goto (tgt := 73) h dX8_note_68 (by decide) ?_
      exact hm73_19 _ (by clear ih5 iw11; replace hv10 := hv10.symm; replace hw11 := hw11.symm; replace hv12 := hv12.symm; replace hv15 := hv15.symm; replace hv16 := hv16.symm; subst hv16 hv15 hv12 hw11 hv10; rw [if_neg c13])
  · have hlt25 : j1 < 7 := by clear ih5; skip; exact nt_lt c8 hj6
    refine g_aload_n h 1 dX8_note_7 rfl ?_
    refine g_iload_n h 2 dX8_note_8 rfl ?_
    refine g_bipush (v := 7) h dX8_note_9 (by decide) ?_
    refine g_iload_n h 0 dX8_note_11 rfl ?_
    refine g_iadd h dX8_note_12 (g_name fun v26 hv26 => ?_)
    refine g_aload_n h 1 dX8_note_13 rfl ?_
    refine g_iload_n h 2 dX8_note_14 rfl ?_
    refine g_bipush (v := 7) h dX8_note_15 (by decide) ?_
    refine g_iload_n h 0 dX8_note_17 rfl ?_
    refine g_iadd h dX8_note_18 (g_name fun v27 hv27 => ?_)
    refine g_iconst (v := 1) h dX8_note_19 (by decide) ?_
    refine g_isub h dX8_note_20 (g_name fun v28 hv28 => ?_)
    refine k_V_i (st := [.int v26, .int d, .ref (F + 647)]) h hX (tX8_ofD (xl X) G F (m_ntL d ω j1) iv7 d v28 (hd) (by clear ih5; replace hv26 := hv26.symm; replace hv27 := hv27.symm; replace hv28 := hv28.symm; subst hv28 hv27 hv26; exact (nt_w hlt25).2)) rfl ⟨kd_lt rfl, ob_21 rfl⟩ rfl miX8_ofD tw_837 (by decide) (by decide) rfl (Nat.le_of_ble_eq_true rfl) (by rw [hX]; exact Nat.zero_le _) (by rw [hX]; exact Nat.zero_le _) dX8_note_21 (fun v29 hv29 => ?_)
    refine k_V_v (st := []) h hX (tX8_layD (xl X) G F (m_ntL d ω j1) iv7 d v26 v29 (hd) (by clear ih5; replace hv26 := hv26.symm; replace hv27 := hv27.symm; replace hv28 := hv28.symm; replace hv29 := hv29.symm; subst hv29 hv28 hv27 hv26; exact (nt_w hlt25).1)) rfl ⟨kd_lt rfl, ob_21 rfl⟩ rfl miX8_layD tw_801 (by decide) (by decide) rfl (Nat.le_of_ble_eq_true rfl) (by rw [hX]; exact Nat.zero_le _) (by rw [hX]; exact Nat.zero_le _) dX8_note_24 (fun w30 hw30 iw30 => ?_)
    obtain ⟨v31, hv31⟩ : ∃ z : Int32, z = (7 - nI j1) + (-1) := ⟨_, rfl⟩
    refine g_iinc (v := v31) (loc2 := [(3, .int v31), (0, .ref (F + 647)), (1, .int d), (2, .int c)]) h 0 dX8_note_27 rfl (by rw [hv31]; rfl) (by decide) rfl ?_
    refine g_goto (tgt := 3) h dX8_note_30 (by decide) ?_
    have e32 : v31 = 7 - nI (j1 + 1) := by clear ih5 iw30; replace hv26 := hv26.symm; replace hv27 := hv27.symm; replace hv28 := hv28.symm; replace hv29 := hv29.symm; replace hw30 := hw30.symm; replace hv31 := hv31.symm; subst hv31 hw30 hv29 hv28 hv27 hv26; exact sub_n _ _
    have e33 : w30 = m_ntL d ω (j1 + 1) := by clear ih5 iw30; replace hv26 := hv26.symm; replace hv27 := hv27.symm; replace hv28 := hv28.symm; replace hv29 := hv29.symm; replace hw30 := hw30.symm; replace hv31 := hv31.symm; subst hv31 hw30 hv29 hv28 hv27 hv26; rfl
    exact g_lt e33 (lc_i e32 rfl) rfl (ih5 hlt25 (e33 ▸ iw30))
set_option maxHeartbeats 4000000 in
set_option maxRecDepth 100000 in
theorem tX8_putIn (l0 : Launch) (G : fG) (F : Nat) (ω : fOm) (hI : Inv ω) (d : Int32) (c : Int32) (hd : 0 ≤ d ∧ d ≤ 11) (hc : 290 ≤ c ∧ c ≤ 767) (hW : MW (ω 648)) (hs : 0 < ω 648 (iD d 5) ∧ ω 648 (iD d 5) ≤ 12) : CT l0 G F yX8_putIn cX8_putIn 4 none 2 [.ref (F + 647), .int d, .int c] ω none (m_putIn ω d c) := by
  refine ct_met (own := RX8) (by decide +kernel) rfl (Nat.le_of_ble_eq_true rfl) (fun X hXl hX h => ?_)
  subst hXl
  refine g_aload_n h 0 dX8_putIn_0 rfl ?_
  refine g_aload_n h 0 dX8_putIn_1 rfl ?_
  refine g_iload_n h 1 dX8_putIn_2 rfl ?_
  refine g_iconst (v := 1) h dX8_putIn_3 (by decide) ?_
  refine k_V_i (st := [.ref (F + 647)]) h hX (tX8_ofD (xl X) G F ω hI d 1 (hd) (by decide)) rfl ⟨kd_lt rfl, ob_21 rfl⟩ rfl miX8_ofD tw_837 (by decide) (by decide) rfl (Nat.le_of_ble_eq_true rfl) (by rw [hX]; exact Nat.zero_le _) (by rw [hX]; exact Nat.zero_le _) dX8_putIn_4 (fun v1 hv1 => ?_)
  refine g_iload_n h 2 dX8_putIn_7 rfl ?_
  refine g_aload_n h 0 dX8_putIn_8 rfl ?_
  refine g_iload_n h 1 dX8_putIn_9 rfl ?_
  refine g_bipush (v := 7) h dX8_putIn_10 (by decide) ?_
  refine k_V_i (st := [.int c, .int v1, .ref (F + 647)]) h hX (tX8_ofD (xl X) G F ω hI d 7 (hd) (by decide)) rfl ⟨kd_lt rfl, ob_21 rfl⟩ rfl miX8_ofD tw_837 (by decide) (by decide) rfl (Nat.le_of_ble_eq_true rfl) (by rw [hX]; exact Nat.zero_le _) (by rw [hX]; exact Nat.zero_le _) dX8_putIn_12 (fun v2 hv2 => ?_)
  refine k_V_v (st := []) h hX (tX8_shine (xl X) G F ω hI v1 c v2 (by replace hv1 := hv1.symm; replace hv2 := hv2.symm; subst hv2 hv1; exact hW.D1 hd) (hc)) rfl ⟨kd_lt rfl, ob_21 rfl⟩ rfl miX8_shine tw_852 (by decide) (by decide) rfl (Nat.le_of_ble_eq_true rfl) (by rw [hX]; exact Nat.zero_le _) (by rw [hX]; exact Nat.zero_le _) dX8_putIn_15 (fun w3 hw3 iw3 => ?_)
  refine g_aload_n h 0 dX8_putIn_18 rfl ?_
  refine g_iload_n h 1 dX8_putIn_19 rfl ?_
  refine g_iconst (v := 5) h dX8_putIn_20 (by decide) ?_
  refine g_aload_n h 0 dX8_putIn_21 rfl ?_
  refine g_iload_n h 1 dX8_putIn_22 rfl ?_
  refine g_iconst (v := 5) h dX8_putIn_23 (by decide) ?_
  refine k_V_i (st := [.int 5, .int d, .ref (F + 647)]) h hX (tX8_ofD (xl X) G F w3 iw3 d 5 (hd) (by decide)) rfl ⟨kd_lt rfl, ob_21 rfl⟩ rfl miX8_ofD tw_837 (by decide) (by decide) rfl (Nat.le_of_ble_eq_true rfl) (by rw [hX]; exact Nat.zero_le _) (by rw [hX]; exact Nat.zero_le _) dX8_putIn_24 (fun v4 hv4 => ?_)
  refine g_iconst (v := 1) h dX8_putIn_27 (by decide) ?_
  refine g_isub h dX8_putIn_28 (g_name fun v5 hv5 => ?_)
  refine k_V_v (st := []) h hX (tX8_layD (xl X) G F w3 iw3 d 5 v5 (hd) (by decide)) rfl ⟨kd_lt rfl, ob_21 rfl⟩ rfl miX8_layD tw_801 (by decide) (by decide) rfl (Nat.le_of_ble_eq_true rfl) (by rw [hX]; exact Nat.zero_le _) (by rw [hX]; exact Nat.zero_le _) dX8_putIn_29 (fun w6 hw6 iw6 => ?_)
  refine g_iconst (v := 0) h dX8_putIn_32 (by decide) ?_
  refine g_istore_n (loc2 := [(3, .int 0), (0, .ref (F + 647)), (1, .int d), (2, .int c)]) h dX8_putIn_33 (by decide) rfl ?_
  have e8 : 0 = nI 0 := by clear iw3 iw6; replace hv1 := hv1.symm; replace hv2 := hv2.symm; replace hw3 := hw3.symm; replace hv4 := hv4.symm; replace hv5 := hv5.symm; replace hw6 := hw6.symm; subst hw6 hv5 hv4 hw3 hv2 hv1; first | rfl | exact nI_0.symm | exact nI_0 | decide
  have e9 : w6 = m_piL d (m_pi0 ω d c) 0 := by clear iw3 iw6; replace hv1 := hv1.symm; replace hv2 := hv2.symm; replace hw3 := hw3.symm; replace hv4 := hv4.symm; replace hv5 := hv5.symm; replace hw6 := hw6.symm; subst hw6 hv5 hv4 hw3 hv2 hv1; rfl
  refine g_lt (ω2 := m_piL d (m_pi0 ω d c) 0) (loc2 := [(3, .int (nI 0)), (0, .ref (F + 647)), (1, .int d), (2, .int c)]) e9 (lc_i e8 rfl) rfl ?_
  refine g_loop3 (hd := 34) ((m_pi0 ω d c 648 (iD d 5)).toNatClampNeg) (fun j7 => Inv (m_piL d (m_pi0 ω d c) j7) ∧ (m_piL d (m_pi0 ω d c) j7) 648 (iD d 5) = m_pi0 ω d c 648 (iD d 5)) (fun j7 => [(3, .int (nI j7)), (0, .ref (F + 647)), (1, .int d), (2, .int c)]) (fun j7 => cel F G (m_piL d (m_pi0 ω d c) j7)) ⟨(e9 ▸ iw6), rfl⟩ (fun j7 hj12 hP10 ih11 => ?_)
  (try dsimp only)
  obtain ⟨iv13, hp5⟩ := hP10
  refine g_iload_n h 0 dX8_putIn_34 rfl ?_
  refine g_aload_n h 1 dX8_putIn_35 rfl ?_
  refine g_iload_n h 2 dX8_putIn_36 rfl ?_
  refine g_iconst (v := 5) h dX8_putIn_37 (by decide) ?_
  refine k_V_i (st := [.int (nI j7)]) h hX (tX8_ofD (xl X) G F (m_piL d (m_pi0 ω d c) j7) iv13 d 5 (hd) (by decide)) rfl ⟨kd_lt rfl, ob_21 rfl⟩ rfl miX8_ofD tw_837 (by decide) (by decide) rfl (Nat.le_of_ble_eq_true rfl) (by rw [hX]; exact Nat.zero_le _) (by rw [hX]; exact Nat.zero_le _) dX8_putIn_38 (fun v14 hv14 => ?_)
  refine g_icmp_ge (tgt := 70) h dX8_putIn_41 (by decide) (fun c15 => ?_) (fun c15 => ?_)
  · have hN16 : j7 = ((m_pi0 ω d c 648 (iD d 5)).toNatClampNeg) := by clear iw3 iw6 ih11; replace hv1 := hv1.symm; replace hv2 := hv2.symm; replace hw3 := hw3.symm; replace hv4 := hv4.symm; replace hv5 := hv5.symm; replace hw6 := hw6.symm; replace hv14 := hv14.symm; subst hv14 hw6 hv5 hv4 hw3 hv2 hv1; rw [hp5] at c15; exact lp_ge (pi0_K hW hd hc hs).2.2.2.1 c15 hj12
    refine g_aload_n h 1 dX8_putIn_70 rfl ?_
    refine g_iload_n h 2 dX8_putIn_71 rfl ?_
    refine k_V_v (st := []) h hX (tX8_did (xl X) G F (m_piL d (m_pi0 ω d c) j7) iv13 d (hd)) rfl ⟨kd_lt rfl, ob_21 rfl⟩ rfl miX8_did tw_908 (by decide) (by decide) rfl (Nat.le_of_ble_eq_true rfl) (by rw [hX]; exact Nat.zero_le _) (by rw [hX]; exact Nat.zero_le _) dX8_putIn_72 (fun w17 hw17 iw17 => ?_)
    exact e_vret h iw17 dX8_putIn_75 (by clear iw3 iw6 ih11 iw17; replace hv1 := hv1.symm; replace hv2 := hv2.symm; replace hw3 := hw3.symm; replace hv4 := hv4.symm; replace hv5 := hv5.symm; replace hw6 := hw6.symm; replace hv14 := hv14.symm; replace hw17 := hw17.symm; subst hw17 hv14 hw6 hv5 hv4 hw3 hv2 hv1; rw [hN16]; rfl)
  · have hlt18 : j7 < ((m_pi0 ω d c 648 (iD d 5)).toNatClampNeg) := by clear iw3 iw6 ih11; replace hv1 := hv1.symm; replace hv2 := hv2.symm; replace hw3 := hw3.symm; replace hv4 := hv4.symm; replace hv5 := hv5.symm; replace hw6 := hw6.symm; replace hv14 := hv14.symm; subst hv14 hw6 hv5 hv4 hw3 hv2 hv1; rw [hp5] at c15; exact lp_lt (pi0_K hW hd hc hs).2.2.2.1 c15 hj12
    refine g_aload_n h 1 dX8_putIn_44 rfl ?_
    refine g_iload_n h 2 dX8_putIn_45 rfl ?_
    refine g_bipush (v := 7) h dX8_putIn_46 (by decide) ?_
    refine g_iload_n h 0 dX8_putIn_48 rfl ?_
    refine g_iadd h dX8_putIn_49 (g_name fun v19 hv19 => ?_)
    refine g_aload_n h 1 dX8_putIn_50 rfl ?_
    refine g_iload_n h 2 dX8_putIn_51 rfl ?_
    refine g_bipush (v := 7) h dX8_putIn_52 (by decide) ?_
    refine g_iload_n h 0 dX8_putIn_54 rfl ?_
    refine g_iadd h dX8_putIn_55 (g_name fun v20 hv20 => ?_)
    refine g_iconst (v := 1) h dX8_putIn_56 (by decide) ?_
    refine g_iadd h dX8_putIn_57 (g_name fun v21 hv21 => ?_)
    refine k_V_i (st := [.int v19, .int d, .ref (F + 647)]) h hX (tX8_ofD (xl X) G F (m_piL d (m_pi0 ω d c) j7) iv13 d v21 (hd) (by clear iw3 iw6 ih11; replace hv1 := hv1.symm; replace hv2 := hv2.symm; replace hw3 := hw3.symm; replace hv4 := hv4.symm; replace hv5 := hv5.symm; replace hw6 := hw6.symm; replace hv14 := hv14.symm; replace hv19 := hv19.symm; replace hv20 := hv20.symm; replace hv21 := hv21.symm; subst hv21 hv20 hv19 hv14 hw6 hv5 hv4 hw3 hv2 hv1; exact (pi_w (Nat.lt_of_lt_of_le hlt18 (tn_le (n := 11) (pi0_K hW hd hc hs).2.2.2 rfl))).2.1)) rfl ⟨kd_lt rfl, ob_21 rfl⟩ rfl miX8_ofD tw_837 (by decide) (by decide) rfl (Nat.le_of_ble_eq_true rfl) (by rw [hX]; exact Nat.zero_le _) (by rw [hX]; exact Nat.zero_le _) dX8_putIn_58 (fun v22 hv22 => ?_)
    refine k_V_v (st := []) h hX (tX8_layD (xl X) G F (m_piL d (m_pi0 ω d c) j7) iv13 d v19 v22 (hd) (by clear iw3 iw6 ih11; replace hv1 := hv1.symm; replace hv2 := hv2.symm; replace hw3 := hw3.symm; replace hv4 := hv4.symm; replace hv5 := hv5.symm; replace hw6 := hw6.symm; replace hv14 := hv14.symm; replace hv19 := hv19.symm; replace hv20 := hv20.symm; replace hv21 := hv21.symm; replace hv22 := hv22.symm; subst hv22 hv21 hv20 hv19 hv14 hw6 hv5 hv4 hw3 hv2 hv1; exact (pi_w (Nat.lt_of_lt_of_le hlt18 (tn_le (n := 11) (pi0_K hW hd hc hs).2.2.2 rfl))).1)) rfl ⟨kd_lt rfl, ob_21 rfl⟩ rfl miX8_layD tw_801 (by decide) (by decide) rfl (Nat.le_of_ble_eq_true rfl) (by rw [hX]; exact Nat.zero_le _) (by rw [hX]; exact Nat.zero_le _) dX8_putIn_61 (fun w23 hw23 iw23 => ?_)
    obtain ⟨v24, hv24⟩ : ∃ z : Int32, z = (nI j7) + 1 := ⟨_, rfl⟩
    refine g_iinc (v := v24) (loc2 := [(3, .int v24), (0, .ref (F + 647)), (1, .int d), (2, .int c)]) h 0 dX8_putIn_64 rfl (by rw [hv24]; rfl) (by decide) rfl ?_
    refine g_goto (tgt := 34) h dX8_putIn_67 (by decide) ?_
    have e25 : v24 = nI (j7 + 1) := by clear iw3 iw6 ih11 iw23; replace hv1 := hv1.symm; replace hv2 := hv2.symm; replace hw3 := hw3.symm; replace hv4 := hv4.symm; replace hv5 := hv5.symm; replace hw6 := hw6.symm; replace hv14 := hv14.symm; replace hv19 := hv19.symm; replace hv20 := hv20.symm; replace hv21 := hv21.symm; replace hv22 := hv22.symm; replace hw23 := hw23.symm; replace hv24 := hv24.symm; subst hv24 hw23 hv22 hv21 hv20 hv19 hv14 hw6 hv5 hv4 hw3 hv2 hv1; first | rfl | exact nI_1 _ | (rw [nI_succ])
    have e26 : w23 = m_piL d (m_pi0 ω d c) (j7 + 1) := by clear iw3 iw6 ih11 iw23; replace hv1 := hv1.symm; replace hv2 := hv2.symm; replace hw3 := hw3.symm; replace hv4 := hv4.symm; replace hv5 := hv5.symm; replace hw6 := hw6.symm; replace hv14 := hv14.symm; replace hv19 := hv19.symm; replace hv20 := hv20.symm; replace hv21 := hv21.symm; replace hv22 := hv22.symm; replace hw23 := hw23.symm; replace hv24 := hv24.symm; subst hv24 hw23 hv22 hv21 hv20 hv19 hv14 hw6 hv5 hv4 hw3 hv2 hv1; rfl
    exact g_lt e26 (lc_i e25 rfl) rfl (ih11 hlt18 ⟨(e26 ▸ iw23), (piL_K (w := m_pi0 ω d c) KP.rf hd (Nat.succ_le_of_lt (Nat.lt_of_lt_of_le hlt18 (tn_le (n := 11) (pi0_K hW hd hc hs).2.2.2 rfl))) _ (ck_D5 hd).2)⟩)
set_option maxHeartbeats 4000000 in
set_option maxRecDepth 100000 in
theorem tX8_act (l0 : Launch) (G : fG) (F : Nat) (ω : fOm) (hI : Inv ω) (d : Int32) (hd : 0 ≤ d ∧ d ≤ 11) (hW : MW (ω 648)) : CT l0 G F yX8_act cX8_act 4 none 3 [.ref (F + 647), .int d] ω none (m_act ω d) := by
  refine ct_met (own := RX8) (by decide +kernel) rfl (Nat.le_of_ble_eq_true rfl) (fun X hXl hX h => ?_)
  subst hXl
  refine g_aload_n h 0 dX8_act_0 rfl ?_
  refine g_iload_n h 1 dX8_act_1 rfl ?_
  refine g_iconst (v := 1) h dX8_act_2 (by decide) ?_
  refine k_V_i (st := []) h hX (tX8_ofD (xl X) G F ω hI d 1 (hd) (by decide)) rfl ⟨kd_lt rfl, ob_21 rfl⟩ rfl miX8_ofD tw_837 (by decide) (by decide) rfl (Nat.le_of_ble_eq_true rfl) (by rw [hX]; exact Nat.zero_le _) (by rw [hX]; exact Nat.zero_le _) dX8_act_3 (fun v1 hv1 => ?_)
  refine g_aload_n h 0 dX8_act_6 rfl ?_
  refine g_iload_n h 1 dX8_act_7 rfl ?_
  refine g_iconst (v := 2) h dX8_act_8 (by decide) ?_
  refine k_V_i (st := [.int v1]) h hX (tX8_ofD (xl X) G F ω hI d 2 (hd) (by decide)) rfl ⟨kd_lt rfl, ob_21 rfl⟩ rfl miX8_ofD tw_837 (by decide) (by decide) rfl (Nat.le_of_ble_eq_true rfl) (by rw [hX]; exact Nat.zero_le _) (by rw [hX]; exact Nat.zero_le _) dX8_act_9 (fun v2 hv2 => ?_)
  refine k_S_i (st := []) h hX (tX8_cell (xl X) G F ω hI v1 v2) rfl miX8_cell tw_849 (by decide) (by decide) rfl (Nat.le_of_ble_eq_true rfl) (by rw [hX]; exact Nat.zero_le _) (by rw [hX]; exact Nat.zero_le _) dX8_act_12 (fun v3 hv3 => ?_)
  refine g_istore_n (loc2 := [(2, .int v3), (0, .ref (F + 647)), (1, .int d)]) h dX8_act_15 (by decide) rfl ?_
  refine g_aload_n h 1 dX8_act_16 rfl ?_
  refine q_8_at h rfl tw_708 dX8_act_17 ?_
  refine g_iload_n h 0 dX8_act_20 rfl ?_
  refine g_ia (q := 22) h rfl rfl (by decide) (by replace hv1 := hv1.symm; replace hv2 := hv2.symm; replace hv3 := hv3.symm; subst hv3 hv2 hv1; exact ixc (actc_rg hW hd)) dX8_act_21 (fun v4 hv4 => ?_)
  refine g_istore_n (loc2 := [(3, .int v4), (2, .int v3), (0, .ref (F + 647)), (1, .int d)]) h dX8_act_22 (by decide) rfl ?_
  refine g_aload_n h 2 dX8_act_23 rfl ?_
  refine g_iload_n h 3 dX8_act_24 rfl ?_
  refine g_iconst (v := 0) h dX8_act_25 (by decide) ?_
  refine k_V_i (st := []) h hX (tX8_ofD (xl X) G F ω hI d 0 (hd) (by decide)) rfl ⟨kd_lt rfl, ob_21 rfl⟩ rfl miX8_ofD tw_837 (by decide) (by decide) rfl (Nat.le_of_ble_eq_true rfl) (by rw [hX]; exact Nat.zero_le _) (by rw [hX]; exact Nat.zero_le _) dX8_act_26 (fun v5 hv5 => ?_)
  rcases sw_4 v5 with c6 | c6 | c6 | c6 | c6
  · refine g_tableIn (off := 31) (tgt := 60) h dX8_act_29 (by rw [c6]; decide) (by rw [c6]; decide) (by rw [c6]; rfl) (by decide) ?_
    refine g_iload_n h 0 dX8_act_60 rfl ?_
    refine g_if_lt (tgt := 169) h dX8_act_61 (by decide) (fun c7 => ?_) (fun c7 => ?_)
    · exact e_vret h hI dX8_act_169 (by replace hv1 := hv1.symm; replace hv2 := hv2.symm; replace hv3 := hv3.symm; replace hv4 := hv4.symm; replace hv5 := hv5.symm; subst hv5 hv4 hv3 hv2 hv1; unfold m_act m_actc; simp [c6, c7])
    · refine g_aload_n h 2 dX8_act_64 rfl ?_
      refine g_iload_n h 3 dX8_act_65 rfl ?_
      refine g_iload_n h 1 dX8_act_66 rfl ?_
      refine k_V_v (st := []) h hX (tX8_amplify (xl X) G F ω hI d v3 (hd) (by replace hv1 := hv1.symm; replace hv2 := hv2.symm; replace hv3 := hv3.symm; replace hv4 := hv4.symm; replace hv5 := hv5.symm; subst hv5 hv4 hv3 hv2 hv1; exact actc_rg hW hd)) rfl ⟨kd_lt rfl, ob_21 rfl⟩ rfl miX8_amplify tw_904 (by decide) (by decide) rfl (Nat.le_of_ble_eq_true rfl) (by rw [hX]; exact Nat.zero_le _) (by rw [hX]; exact Nat.zero_le _) dX8_act_67 (fun w8 hw8 iw8 => ?_)
      refine g_goto (tgt := 169) h dX8_act_70 (by decide) ?_
      exact e_vret h iw8 dX8_act_169 (by clear iw8; replace hv1 := hv1.symm; replace hv2 := hv2.symm; replace hv3 := hv3.symm; replace hv4 := hv4.symm; replace hv5 := hv5.symm; replace hw8 := hw8.symm; subst hw8 hv5 hv4 hv3 hv2 hv1; unfold m_act m_actc; simp [c6, c7])
  · refine g_tableIn (off := 44) (tgt := 73) h dX8_act_29 (by rw [c6]; decide) (by rw [c6]; decide) (by rw [c6]; rfl) (by decide) ?_
    refine g_iload_n h 0 dX8_act_73 rfl ?_
    refine g_if_lt (tgt := 169) h dX8_act_74 (by decide) (fun c9 => ?_) (fun c9 => ?_)
    · exact e_vret h hI dX8_act_169 (by replace hv1 := hv1.symm; replace hv2 := hv2.symm; replace hv3 := hv3.symm; replace hv4 := hv4.symm; replace hv5 := hv5.symm; subst hv5 hv4 hv3 hv2 hv1; unfold m_act m_actc; simp [c6, c9])
    · refine g_aload_n h 2 dX8_act_77 rfl ?_
      refine g_iload_n h 3 dX8_act_78 rfl ?_
      refine g_iload_n h 1 dX8_act_79 rfl ?_
      refine k_V_v (st := []) h hX (tX8_note (xl X) G F ω hI d v3 (hd) (by replace hv1 := hv1.symm; replace hv2 := hv2.symm; replace hv3 := hv3.symm; replace hv4 := hv4.symm; replace hv5 := hv5.symm; subst hv5 hv4 hv3 hv2 hv1; exact actc_rg hW hd) (hW) (by replace hv1 := hv1.symm; replace hv2 := hv2.symm; replace hv3 := hv3.symm; replace hv4 := hv4.symm; replace hv5 := hv5.symm; subst hv5 hv4 hv3 hv2 hv1; exact c6)) rfl ⟨kd_lt rfl, ob_21 rfl⟩ rfl miX8_note tw_912 (by decide) (by decide) rfl (Nat.le_of_ble_eq_true rfl) (by rw [hX]; exact Nat.zero_le _) (by rw [hX]; exact Nat.zero_le _) dX8_act_80 (fun w10 hw10 iw10 => ?_)
      refine g_goto (tgt := 169) h dX8_act_83 (by decide) ?_
      exact e_vret h iw10 dX8_act_169 (by clear iw10; replace hv1 := hv1.symm; replace hv2 := hv2.symm; replace hv3 := hv3.symm; replace hv4 := hv4.symm; replace hv5 := hv5.symm; replace hw10 := hw10.symm; subst hw10 hv5 hv4 hv3 hv2 hv1; unfold m_act m_actc; simp [c6, c9])
  · refine g_tableIn (off := 57) (tgt := 86) h dX8_act_29 (by rw [c6]; decide) (by rw [c6]; decide) (by rw [c6]; rfl) (by decide) ?_
    refine g_iload_n h 0 dX8_act_86 rfl ?_
    refine g_if_ge (tgt := 169) h dX8_act_87 (by decide) (fun c11 => ?_) (fun c11 => ?_)
    · exact e_vret h hI dX8_act_169 (by replace hv1 := hv1.symm; replace hv2 := hv2.symm; replace hv3 := hv3.symm; replace hv4 := hv4.symm; replace hv5 := hv5.symm; subst hv5 hv4 hv3 hv2 hv1; unfold m_act m_actc; simp [c6, c11])
    · refine g_aload_n h 2 dX8_act_90 rfl ?_
      refine g_iload_n h 3 dX8_act_91 rfl ?_
      refine g_iconst (v := 5) h dX8_act_92 (by decide) ?_
      refine k_V_i (st := []) h hX (tX8_ofD (xl X) G F ω hI d 5 (hd) (by decide)) rfl ⟨kd_lt rfl, ob_21 rfl⟩ rfl miX8_ofD tw_837 (by decide) (by decide) rfl (Nat.le_of_ble_eq_true rfl) (by rw [hX]; exact Nat.zero_le _) (by rw [hX]; exact Nat.zero_le _) dX8_act_93 (fun v12 hv12 => ?_)
      refine g_if_le (tgt := 169) h dX8_act_96 (by decide) (fun c13 => ?_) (fun c13 => ?_)
      · exact e_vret h hI dX8_act_169 (by replace hv1 := hv1.symm; replace hv2 := hv2.symm; replace hv3 := hv3.symm; replace hv4 := hv4.symm; replace hv5 := hv5.symm; replace hv12 := hv12.symm; subst hv12 hv5 hv4 hv3 hv2 hv1; unfold m_act m_actc; simp [c6, c11, c13])
      · refine g_aload_n h 2 dX8_act_99 rfl ?_
        refine g_iload_n h 3 dX8_act_100 rfl ?_
        refine g_iload_n h 1 dX8_act_101 rfl ?_
        refine k_V_v (st := []) h hX (tX8_putIn (xl X) G F ω hI d v3 (hd) (by replace hv1 := hv1.symm; replace hv2 := hv2.symm; replace hv3 := hv3.symm; replace hv4 := hv4.symm; replace hv5 := hv5.symm; replace hv12 := hv12.symm; subst hv12 hv5 hv4 hv3 hv2 hv1; exact actc_rg hW hd) (hW) (by replace hv1 := hv1.symm; replace hv2 := hv2.symm; replace hv3 := hv3.symm; replace hv4 := hv4.symm; replace hv5 := hv5.symm; replace hv12 := hv12.symm; subst hv12 hv5 hv4 hv3 hv2 hv1; exact ⟨Int32.not_le.mp c13, (hW.D5 hd (Or.inr c6)).2⟩)) rfl ⟨kd_lt rfl, ob_21 rfl⟩ rfl miX8_putIn tw_916 (by decide) (by decide) rfl (Nat.le_of_ble_eq_true rfl) (by rw [hX]; exact Nat.zero_le _) (by rw [hX]; exact Nat.zero_le _) dX8_act_102 (fun w14 hw14 iw14 => ?_)
        refine g_goto (tgt := 169) h dX8_act_105 (by decide) ?_
        exact e_vret h iw14 dX8_act_169 (by clear iw14; replace hv1 := hv1.symm; replace hv2 := hv2.symm; replace hv3 := hv3.symm; replace hv4 := hv4.symm; replace hv5 := hv5.symm; replace hv12 := hv12.symm; replace hw14 := hw14.symm; subst hw14 hv12 hv5 hv4 hv3 hv2 hv1; unfold m_act m_actc; simp [c6, c11, c13])
  · refine g_tableIn (off := 79) (tgt := 108) h dX8_act_29 (by rw [c6]; decide) (by rw [c6]; decide) (by rw [c6]; rfl) (by decide) ?_
    refine g_iload_n h 0 dX8_act_108 rfl ?_
    refine g_aload_n h 2 dX8_act_109 rfl ?_
    refine g_iload_n h 3 dX8_act_110 rfl ?_
    refine g_iconst (v := 3) h dX8_act_111 (by decide) ?_
    refine k_V_i (st := [.int v4]) h hX (tX8_ofD (xl X) G F ω hI d 3 (hd) (by decide)) rfl ⟨kd_lt rfl, ob_21 rfl⟩ rfl miX8_ofD tw_837 (by decide) (by decide) rfl (Nat.le_of_ble_eq_true rfl) (by rw [hX]; exact Nat.zero_le _) (by rw [hX]; exact Nat.zero_le _) dX8_act_112 (fun v15 hv15 => ?_)
    refine g_icmp_ne (tgt := 169) h dX8_act_115 (by decide) (fun c16 => ?_) (fun c16 => ?_)
    · exact e_vret h hI dX8_act_169 (by replace hv1 := hv1.symm; replace hv2 := hv2.symm; replace hv3 := hv3.symm; replace hv4 := hv4.symm; replace hv5 := hv5.symm; replace hv15 := hv15.symm; subst hv15 hv5 hv4 hv3 hv2 hv1; unfold m_act m_actc; simp [c6, c16])
    · refine g_aload_n h 2 dX8_act_118 rfl ?_
      refine q_8_at h rfl tw_708 dX8_act_119 ?_
      refine g_iload_n h 1 dX8_act_122 rfl ?_
      refine g_aload_n h 2 dX8_act_123 rfl ?_
      refine g_iload_n h 3 dX8_act_124 rfl ?_
      refine g_iconst (v := 4) h dX8_act_125 (by decide) ?_
      refine k_V_i (st := [.int v3, .ref (F + 648)]) h hX (tX8_ofD (xl X) G F ω hI d 4 (hd) (by decide)) rfl ⟨kd_lt rfl, ob_21 rfl⟩ rfl miX8_ofD tw_837 (by decide) (by decide) rfl (Nat.le_of_ble_eq_true rfl) (by rw [hX]; exact Nat.zero_le _) (by rw [hX]; exact Nat.zero_le _) dX8_act_126 (fun v17 hv17 => ?_)
      refine g_is (q := 22) h hI rfl rfl (by decide) (by replace hv1 := hv1.symm; replace hv2 := hv2.symm; replace hv3 := hv3.symm; replace hv4 := hv4.symm; replace hv5 := hv5.symm; replace hv15 := hv15.symm; replace hv17 := hv17.symm; subst hv17 hv15 hv5 hv4 hv3 hv2 hv1; exact ixc (actc_rg hW hd)) dX8_act_129 (fun w18 hw18 iw18 => ?_)
      refine g_aload_n h 2 dX8_act_130 rfl ?_
      refine g_iload_n h 3 dX8_act_131 rfl ?_
      refine k_V_v (st := []) h hX (tX8_did (xl X) G F w18 iw18 d (hd)) rfl ⟨kd_lt rfl, ob_21 rfl⟩ rfl miX8_did tw_908 (by decide) (by decide) rfl (Nat.le_of_ble_eq_true rfl) (by rw [hX]; exact Nat.zero_le _) (by rw [hX]; exact Nat.zero_le _) dX8_act_132 (fun w19 hw19 iw19 => ?_)
      refine g_goto (tgt := 169) h dX8_act_135 (by decide) ?_
      exact e_vret h iw19 dX8_act_169 (by clear iw18 iw19; replace hv1 := hv1.symm; replace hv2 := hv2.symm; replace hv3 := hv3.symm; replace hv4 := hv4.symm; replace hv5 := hv5.symm; replace hv15 := hv15.symm; replace hv17 := hv17.symm; replace hw18 := hw18.symm; replace hw19 := hw19.symm; subst hw19 hw18 hv17 hv15 hv5 hv4 hv3 hv2 hv1; unfold m_act m_actc; simp [c6, if_pos c16])
  · refine g_tableOut (tgt := 138) h dX8_act_29 c6 (by decide) ?_
    obtain ⟨c20, c21, c22, c23⟩ := swo_4 c6
    refine g_iload_n h 0 dX8_act_138 rfl ?_
    refine g_aload_n h 2 dX8_act_139 rfl ?_
    refine g_iload_n h 3 dX8_act_140 rfl ?_
    refine g_iconst (v := 3) h dX8_act_141 (by decide) ?_
    refine k_V_i (st := [.int v4]) h hX (tX8_ofD (xl X) G F ω hI d 3 (hd) (by decide)) rfl ⟨kd_lt rfl, ob_21 rfl⟩ rfl miX8_ofD tw_837 (by decide) (by decide) rfl (Nat.le_of_ble_eq_true rfl) (by rw [hX]; exact Nat.zero_le _) (by rw [hX]; exact Nat.zero_le _) dX8_act_142 (fun v24 hv24 => ?_)
    refine g_icmp_ne (tgt := 169) h dX8_act_145 (by decide) (fun c25 => ?_) (fun c25 => ?_)
    · exact e_vret h hI dX8_act_169 (by replace hv1 := hv1.symm; replace hv2 := hv2.symm; replace hv3 := hv3.symm; replace hv4 := hv4.symm; replace hv5 := hv5.symm; replace hv24 := hv24.symm; subst hv24 hv5 hv4 hv3 hv2 hv1; unfold m_act m_actc; simp [c20, c21, c22, c23, c25])
    · refine g_aload_n h 2 dX8_act_148 rfl ?_
      refine g_iload_n h 1 dX8_act_149 rfl ?_
      refine k_V_v (st := []) h hX (tX8_clear (xl X) G F ω hI v3 (by replace hv1 := hv1.symm; replace hv2 := hv2.symm; replace hv3 := hv3.symm; replace hv4 := hv4.symm; replace hv5 := hv5.symm; replace hv24 := hv24.symm; subst hv24 hv5 hv4 hv3 hv2 hv1; exact actc_rg hW hd)) rfl ⟨kd_lt rfl, ob_21 rfl⟩ rfl miX8_clear tw_888 (by decide) (by decide) rfl (Nat.le_of_ble_eq_true rfl) (by rw [hX]; exact Nat.zero_le _) (by rw [hX]; exact Nat.zero_le _) dX8_act_150 (fun w26 hw26 iw26 => ?_)
      refine g_aload_n h 2 dX8_act_153 rfl ?_
      refine g_aload_n h 2 dX8_act_154 rfl ?_
      refine g_iload_n h 3 dX8_act_155 rfl ?_
      refine g_iconst (v := 1) h dX8_act_156 (by decide) ?_
      refine k_V_i (st := [.ref (F + 647)]) h hX (tX8_ofD (xl X) G F w26 iw26 d 1 (hd) (by decide)) rfl ⟨kd_lt rfl, ob_21 rfl⟩ rfl miX8_ofD tw_837 (by decide) (by decide) rfl (Nat.le_of_ble_eq_true rfl) (by rw [hX]; exact Nat.zero_le _) (by rw [hX]; exact Nat.zero_le _) dX8_act_157 (fun v27 hv27 => ?_)
      refine g_iconst (v := 3) h dX8_act_160 (by decide) ?_
      refine k_V_v (st := []) h hX (tX8_moreL (xl X) G F w26 iw26 v27 3 (by clear iw26; replace hv1 := hv1.symm; replace hv2 := hv2.symm; replace hv3 := hv3.symm; replace hv4 := hv4.symm; replace hv5 := hv5.symm; replace hv24 := hv24.symm; replace hw26 := hw26.symm; replace hv27 := hv27.symm; subst hv27 hw26 hv24 hv5 hv4 hv3 hv2 hv1; exact ((clear_K KP.rf (actc_rg hW hd)).mw hW).D1 hd) (by decide)) rfl ⟨kd_lt rfl, ob_21 rfl⟩ rfl miX8_moreL tw_856 (by decide) (by decide) rfl (Nat.le_of_ble_eq_true rfl) (by rw [hX]; exact Nat.zero_le _) (by rw [hX]; exact Nat.zero_le _) dX8_act_161 (fun w28 hw28 iw28 => ?_)
      refine g_aload_n h 2 dX8_act_164 rfl ?_
      refine g_iload_n h 3 dX8_act_165 rfl ?_
      refine k_V_v (st := []) h hX (tX8_did (xl X) G F w28 iw28 d (hd)) rfl ⟨kd_lt rfl, ob_21 rfl⟩ rfl miX8_did tw_908 (by decide) (by decide) rfl (Nat.le_of_ble_eq_true rfl) (by rw [hX]; exact Nat.zero_le _) (by rw [hX]; exact Nat.zero_le _) dX8_act_166 (fun w29 hw29 iw29 => ?_)
      exact e_vret h iw29 dX8_act_169 (by clear iw26 iw28 iw29; replace hv1 := hv1.symm; replace hv2 := hv2.symm; replace hv3 := hv3.symm; replace hv4 := hv4.symm; replace hv5 := hv5.symm; replace hv24 := hv24.symm; replace hw26 := hw26.symm; replace hv27 := hv27.symm; replace hw28 := hw28.symm; replace hw29 := hw29.symm; subst hw29 hw28 hv27 hw26 hv24 hv5 hv4 hv3 hv2 hv1; unfold m_act m_actc; simp [c20, c21, c22, c23, if_pos c25])
set_option maxHeartbeats 4000000 in
set_option maxRecDepth 100000 in
theorem tX8_crossed (l0 : Launch) (G : fG) (F : Nat) (ω : fOm) (hI : Inv ω) (j : Int32) (fr : Int32) (tt : Int32) (hj : 0 ≤ j ∧ j ≤ 3) (hf : 0 ≤ fr ∧ fr ≤ 4) (ht : 0 ≤ tt ∧ tt ≤ 4) : CT l0 G F yX8_crossed cX8_crossed 4 none 1 [.ref (F + 647), .int j, .int fr, .int tt] ω none (m_crossed ω j fr tt) := by
  refine ct_met (own := RX8) (by decide +kernel) rfl (Nat.le_of_ble_eq_true rfl) (fun X hXl hX h => ?_)
  subst hXl
  refine g_aload_n h 0 dX8_crossed_0 rfl ?_
  refine g_iload_n h 2 dX8_crossed_1 rfl ?_
  refine g_iconst (v := 5) h dX8_crossed_2 (by decide) ?_
  refine k_V_v (st := []) h hX (tX8_moreL (xl X) G F ω hI fr 5 (hf) (by decide)) rfl ⟨kd_lt rfl, ob_21 rfl⟩ rfl miX8_moreL tw_856 (by decide) (by decide) rfl (Nat.le_of_ble_eq_true rfl) (by rw [hX]; exact Nat.zero_le _) (by rw [hX]; exact Nat.zero_le _) dX8_crossed_3 (fun w1 hw1 iw1 => ?_)
  refine g_aload_n h 0 dX8_crossed_6 rfl ?_
  refine g_iload_n h 3 dX8_crossed_7 rfl ?_
  refine g_iconst (v := 4) h dX8_crossed_8 (by decide) ?_
  refine k_V_v (st := []) h hX (tX8_moreL (xl X) G F w1 iw1 tt 4 (ht) (by decide)) rfl ⟨kd_lt rfl, ob_21 rfl⟩ rfl miX8_moreL tw_856 (by decide) (by decide) rfl (Nat.le_of_ble_eq_true rfl) (by rw [hX]; exact Nat.zero_le _) (by rw [hX]; exact Nat.zero_le _) dX8_crossed_9 (fun w2 hw2 iw2 => ?_)
  refine g_aload_n h 0 dX8_crossed_12 rfl ?_
  refine q_8_at h rfl tw_708 dX8_crossed_13 ?_
  refine g_sipush (v := 266) h dX8_crossed_16 (by decide) ?_
  refine g_bipush (v := 6) h dX8_crossed_19 (by decide) ?_
  refine g_iload_n h 1 dX8_crossed_21 rfl ?_
  refine g_imul h dX8_crossed_22 (g_name fun v3 hv3 => ?_)
  refine g_iadd h dX8_crossed_23 (g_name fun v4 hv4 => ?_)
  refine g_iconst (v := 5) h dX8_crossed_24 (by decide) ?_
  refine g_iadd h dX8_crossed_25 (g_name fun v5 hv5 => ?_)
  refine g_dup2 h dX8_crossed_26 rfl rfl ?_
  refine g_ia (q := 22) h rfl rfl (by decide) (by clear iw1 iw2; replace hw1 := hw1.symm; replace hw2 := hw2.symm; replace hv3 := hv3.symm; replace hv4 := hv4.symm; replace hv5 := hv5.symm; subst hv5 hv4 hv3 hw2 hw1; exact ixJ hj (by decide)) dX8_crossed_27 (fun v6 hv6 => ?_)
  refine g_iconst (v := 1) h dX8_crossed_28 (by decide) ?_
  refine g_iadd h dX8_crossed_29 (g_name fun v7 hv7 => ?_)
  refine g_is (q := 22) h iw2 rfl rfl (by decide) (by clear iw1 iw2; replace hw1 := hw1.symm; replace hw2 := hw2.symm; replace hv3 := hv3.symm; replace hv4 := hv4.symm; replace hv5 := hv5.symm; replace hv6 := hv6.symm; replace hv7 := hv7.symm; subst hv7 hv6 hv5 hv4 hv3 hw2 hw1; exact ixJ hj (by decide)) dX8_crossed_30 (fun w8 hw8 iw8 => ?_)
  exact e_vret h iw8 dX8_crossed_31 (by clear iw1 iw2 iw8; replace hw1 := hw1.symm; replace hw2 := hw2.symm; replace hv3 := hv3.symm; replace hv4 := hv4.symm; replace hv5 := hv5.symm; replace hv6 := hv6.symm; replace hv7 := hv7.symm; replace hw8 := hw8.symm; subst hw8 hv7 hv6 hv5 hv4 hv3 hw2 hw1; first | rfl | contradiction)
set_option maxHeartbeats 4000000 in
set_option maxRecDepth 100000 in
theorem tX8_cross (l0 : Launch) (G : fG) (F : Nat) (ω : fOm) (hI : Inv ω) (j : Int32) (hj : 0 ≤ j ∧ j ≤ 3) (hW : MW (ω 648)) : CT l0 G F yX8_cross cX8_cross 9 none 2 [.ref (F + 647), .int j] ω none (m_cross ω j) := by
  refine ct_met (own := RX8) (by decide +kernel) rfl (Nat.le_of_ble_eq_true rfl) (fun X hXl hX h => ?_)
  subst hXl
  refine g_aload_n h 0 dX8_cross_0 rfl ?_
  refine g_iload_n h 1 dX8_cross_1 rfl ?_
  refine g_iconst (v := 0) h dX8_cross_2 (by decide) ?_
  refine k_V_i (st := []) h hX (tX8_ofJ (xl X) G F ω hI j 0 (hj) (by decide)) rfl ⟨kd_lt rfl, ob_21 rfl⟩ rfl miX8_ofJ tw_821 (by decide) (by decide) rfl (Nat.le_of_ble_eq_true rfl) (by rw [hX]; exact Nat.zero_le _) (by rw [hX]; exact Nat.zero_le _) dX8_cross_3 (fun v1 hv1 => ?_)
  refine g_aload_n h 0 dX8_cross_6 rfl ?_
  refine g_iload_n h 1 dX8_cross_7 rfl ?_
  refine g_iconst (v := 1) h dX8_cross_8 (by decide) ?_
  refine k_V_i (st := [.int v1]) h hX (tX8_ofJ (xl X) G F ω hI j 1 (hj) (by decide)) rfl ⟨kd_lt rfl, ob_21 rfl⟩ rfl miX8_ofJ tw_821 (by decide) (by decide) rfl (Nat.le_of_ble_eq_true rfl) (by rw [hX]; exact Nat.zero_le _) (by rw [hX]; exact Nat.zero_le _) dX8_cross_9 (fun v2 hv2 => ?_)
  refine k_S_i (st := []) h hX (tX8_cell (xl X) G F ω hI v1 v2) rfl miX8_cell tw_849 (by decide) (by decide) rfl (Nat.le_of_ble_eq_true rfl) (by rw [hX]; exact Nat.zero_le _) (by rw [hX]; exact Nat.zero_le _) dX8_cross_12 (fun v3 hv3 => ?_)
  refine g_istore_n (loc2 := [(2, .int v3), (0, .ref (F + 647)), (1, .int j)]) h dX8_cross_15 (by decide) rfl ?_
  refine g_aload_n h 1 dX8_cross_16 rfl ?_
  refine g_iload_n h 2 dX8_cross_17 rfl ?_
  refine g_iconst (v := 2) h dX8_cross_18 (by decide) ?_
  refine k_V_i (st := []) h hX (tX8_ofJ (xl X) G F ω hI j 2 (hj) (by decide)) rfl ⟨kd_lt rfl, ob_21 rfl⟩ rfl miX8_ofJ tw_821 (by decide) (by decide) rfl (Nat.le_of_ble_eq_true rfl) (by rw [hX]; exact Nat.zero_le _) (by rw [hX]; exact Nat.zero_le _) dX8_cross_19 (fun v4 hv4 => ?_)
  refine g_aload_n h 1 dX8_cross_22 rfl ?_
  refine g_iload_n h 2 dX8_cross_23 rfl ?_
  refine g_iconst (v := 3) h dX8_cross_24 (by decide) ?_
  refine k_V_i (st := [.int v4]) h hX (tX8_ofJ (xl X) G F ω hI j 3 (hj) (by decide)) rfl ⟨kd_lt rfl, ob_21 rfl⟩ rfl miX8_ofJ tw_821 (by decide) (by decide) rfl (Nat.le_of_ble_eq_true rfl) (by rw [hX]; exact Nat.zero_le _) (by rw [hX]; exact Nat.zero_le _) dX8_cross_25 (fun v5 hv5 => ?_)
  refine k_S_i (st := []) h hX (tX8_cell (xl X) G F ω hI v4 v5) rfl miX8_cell tw_849 (by decide) (by decide) rfl (Nat.le_of_ble_eq_true rfl) (by rw [hX]; exact Nat.zero_le _) (by rw [hX]; exact Nat.zero_le _) dX8_cross_28 (fun v6 hv6 => ?_)
  refine g_istore_n (loc2 := [(3, .int v6), (2, .int v3), (0, .ref (F + 647)), (1, .int j)]) h dX8_cross_31 (by decide) rfl ?_
  refine g_aload_n h 2 dX8_cross_32 rfl ?_
  refine g_iload_n h 3 dX8_cross_33 rfl ?_
  refine g_iconst (v := 4) h dX8_cross_34 (by decide) ?_
  refine k_V_i (st := []) h hX (tX8_ofJ (xl X) G F ω hI j 4 (hj) (by decide)) rfl ⟨kd_lt rfl, ob_21 rfl⟩ rfl miX8_ofJ tw_821 (by decide) (by decide) rfl (Nat.le_of_ble_eq_true rfl) (by rw [hX]; exact Nat.zero_le _) (by rw [hX]; exact Nat.zero_le _) dX8_cross_35 (fun v7 hv7 => ?_)
  refine g_istore (loc2 := [(4, .int v7), (3, .int v6), (2, .int v3), (0, .ref (F + 647)), (1, .int j)]) h dX8_cross_38 (by decide) rfl ?_
  refine g_iload h 0 dX8_cross_40 rfl ?_
  have hm74_20 : ∀ m19 : Int32, m19 = (if v7 ≤ 0 then 0 else (if (ω 648 (v3 : Int32).toNatClampNeg) < 0 then 0 else (if v7 = 1 then 1 else (if 0 ≤ (ω 648 (v6 : Int32).toNatClampNeg) then 0 else 1)))) → Vg X (MQ (xb X) (fQ G F (fP F G none (m_cross ω j))) (xa X) (xs X) 0 0 (fA F)) G F 9 NC (cel F G ω) 0 0 74 [(4, .int v7), (3, .int v6), (2, .int v3), (0, .ref (F + 647)), (1, .int j)] [.int m19] := by
    intro m19 hm19
    refine g_istore (loc2 := [(5, .int m19), (4, .int v7), (3, .int v6), (2, .int v3), (0, .ref (F + 647)), (1, .int j)]) h dX8_cross_74 (by decide) rfl ?_
    refine g_iload h 1 dX8_cross_76 rfl ?_
    refine g_iconst (v := 1) h dX8_cross_78 (by decide) ?_
    have hm96_28 : ∀ m27 : Int32, m27 = (if v7 = 1 then (if (ω 648 (v6 : Int32).toNatClampNeg) < 0 then 0 else 1) else 0) → Vg X (MQ (xb X) (fQ G F (fP F G none (m_cross ω j))) (xa X) (xs X) 0 0 (fA F)) G F 9 NC (cel F G ω) 0 0 96 [(5, .int m19), (4, .int v7), (3, .int v6), (2, .int v3), (0, .ref (F + 647)), (1, .int j)] [.int m27] := by
      intro m27 hm27
      refine g_istore (loc2 := [(6, .int m27), (5, .int m19), (4, .int v7), (3, .int v6), (2, .int v3), (0, .ref (F + 647)), (1, .int j)]) h dX8_cross_96 (by decide) rfl ?_
      refine g_iload h 1 dX8_cross_98 rfl ?_
      have hm120_36 : ∀ w35 : fOm, w35 = (if m19 = 0 then ω else (m_crossed ω j (ω 648 (iJ j 0)) (ω 648 (iJ j 2)))) → Inv w35 → Vg X (MQ (xb X) (fQ G F (fP F G none (m_cross ω j))) (xa X) (xs X) 0 0 (fA F)) G F 9 NC (cel F G w35) 0 0 120 [(6, .int m27), (5, .int m19), (4, .int v7), (3, .int v6), (2, .int v3), (0, .ref (F + 647)), (1, .int j)] [] := by
        intro w35 hw35 iw35
        refine g_iload h 0 dX8_cross_120 rfl ?_
        have hm142_44 : ∀ w43 : fOm, w43 = (if m27 = 0 then w35 else (m_crossed w35 j (w35 648 (iJ j 2)) (w35 648 (iJ j 0)))) → Inv w43 → Vg X (MQ (xb X) (fQ G F (fP F G none (m_cross ω j))) (xa X) (xs X) 0 0 (fA F)) G F 9 NC (cel F G w43) 0 0 142 [(6, .int m27), (5, .int m19), (4, .int v7), (3, .int v6), (2, .int v3), (0, .ref (F + 647)), (1, .int j)] [] := by
          intro w43 hw43 iw43
          refine g_iconst (v := 0) h dX8_cross_142 (by decide) ?_
          refine g_istore (loc2 := [(7, .int 0), (6, .int m27), (5, .int m19), (4, .int v7), (3, .int v6), (2, .int v3), (0, .ref (F + 647)), (1, .int j)]) h dX8_cross_143 (by decide) rfl ?_
          have e46 : 0 = nI 0 := by clear iw35 iw43; replace hv1 := hv1.symm; replace hv2 := hv2.symm; replace hv3 := hv3.symm; replace hv4 := hv4.symm; replace hv5 := hv5.symm; replace hv6 := hv6.symm; replace hv7 := hv7.symm; replace hm19 := hm19.symm; replace hm27 := hm27.symm; replace hw35 := hw35.symm; replace hw43 := hw43.symm; subst hw43 hw35 hm27 hm19 hv7 hv6 hv5 hv4 hv3 hv2 hv1; first | rfl | exact nI_0.symm | exact nI_0 | decide
          have e47 : w43 = m_sw m19 m27 v3 v6 w43 0 := sw_0.symm
          refine g_lt (ω2 := m_sw m19 m27 v3 v6 w43 0) (loc2 := [(7, .int (nI 0)), (6, .int m27), (5, .int m19), (4, .int v7), (3, .int v6), (2, .int v3), (0, .ref (F + 647)), (1, .int j)]) e47 (lc_i e46 rfl) rfl ?_
          refine g_loop3 (hd := 145) (3) (fun j45 => Inv (m_sw m19 m27 v3 v6 w43 j45)) (fun j45 => [(7, .int (nI j45)), (6, .int m27), (5, .int m19), (4, .int v7), (3, .int v6), (2, .int v3), (0, .ref (F + 647)), (1, .int j)]) (fun j45 => cel F G (m_sw m19 m27 v3 v6 w43 j45)) (e47 ▸ iw43) (fun j45 hj50 hP48 ih49 => ?_)
          (try dsimp only)
          have iv51 := hP48
          refine g_iload h 0 dX8_cross_145 rfl ?_
          refine g_iconst (v := 3) h dX8_cross_147 (by decide) ?_
          refine g_icmp_ge (tgt := 207) h dX8_cross_148 (by decide) (fun c52 => ?_) (fun c52 => ?_)
          · have hN53 : j45 = 3 := lpc_ge (x := 3) (M := 3) rfl (by decide) c52 hj50
            exact e_vret h iv51 dX8_cross_207 (by clear iw35 iw43 ih49; replace hv1 := hv1.symm; replace hv2 := hv2.symm; replace hv3 := hv3.symm; replace hv4 := hv4.symm; replace hv5 := hv5.symm; replace hv6 := hv6.symm; replace hv7 := hv7.symm; replace hm19 := hm19.symm; replace hm27 := hm27.symm; replace hw35 := hw35.symm; replace hw43 := hw43.symm; subst hw43 hw35 hm27 hm19 hv7 hv6 hv5 hv4 hv3 hv2 hv1; rw [hN53]; rfl)
          · have hlt54 : j45 < 3 := lpc_lt (x := 3) (M := 3) rfl (by decide) c52 hj50
            refine g_iload h 2 dX8_cross_151 rfl ?_
            refine g_if_ne (tgt := 161) h dX8_cross_153 (by decide) (fun c55 => ?_) (fun c55 => ?_)
            · refine g_aload_n h 6 dX8_cross_161 rfl ?_
              refine q_8_at h rfl tw_708 dX8_cross_162 ?_
              refine g_iload_n h 5 dX8_cross_165 rfl ?_
              refine g_iload h 0 dX8_cross_166 rfl ?_
              refine g_iadd h dX8_cross_168 (g_name fun v56 hv56 => ?_)
              refine g_ia (q := 22) h rfl rfl (by decide) (by clear iw35 iw43 ih49; replace hv1 := hv1.symm; replace hv2 := hv2.symm; replace hv3 := hv3.symm; replace hv4 := hv4.symm; replace hv5 := hv5.symm; replace hv6 := hv6.symm; replace hv7 := hv7.symm; replace hm19 := hm19.symm; replace hm27 := hm27.symm; replace hw35 := hw35.symm; replace hw43 := hw43.symm; replace hv56 := hv56.symm; subst hv56 hw43 hw35 hm27 hm19 hv7 hv6 hv5 hv4 hv3 hv2 hv1; exact ixcj (crn_rg hW hj) hlt54) dX8_cross_169 (fun v57 hv57 => ?_)
              refine g_istore (loc2 := [(8, .int v57), (7, .int (nI j45)), (6, .int m27), (5, .int m19), (4, .int v7), (3, .int v6), (2, .int v3), (0, .ref (F + 647)), (1, .int j)]) h dX8_cross_170 (by decide) rfl ?_
              refine g_aload_n h 7 dX8_cross_172 rfl ?_
              refine q_8_at h rfl tw_708 dX8_cross_173 ?_
              refine g_iload_n h 6 dX8_cross_176 rfl ?_
              refine g_iload h 1 dX8_cross_177 rfl ?_
              refine g_iadd h dX8_cross_179 (g_name fun v58 hv58 => ?_)
              refine g_aload_n h 7 dX8_cross_180 rfl ?_
              refine q_8_at h rfl tw_708 dX8_cross_181 ?_
              refine g_iload_n h 5 dX8_cross_184 rfl ?_
              refine g_iload h 1 dX8_cross_185 rfl ?_
              refine g_iadd h dX8_cross_187 (g_name fun v59 hv59 => ?_)
              refine g_ia (q := 22) h rfl rfl (by decide) (by clear iw35 iw43 ih49; replace hv1 := hv1.symm; replace hv2 := hv2.symm; replace hv3 := hv3.symm; replace hv4 := hv4.symm; replace hv5 := hv5.symm; replace hv6 := hv6.symm; replace hv7 := hv7.symm; replace hm19 := hm19.symm; replace hm27 := hm27.symm; replace hw35 := hw35.symm; replace hw43 := hw43.symm; replace hv56 := hv56.symm; replace hv57 := hv57.symm; replace hv58 := hv58.symm; replace hv59 := hv59.symm; subst hv59 hv58 hv57 hv56 hw43 hw35 hm27 hm19 hv7 hv6 hv5 hv4 hv3 hv2 hv1; exact ixcj (crf_rg hW hj) hlt54) dX8_cross_188 (fun v60 hv60 => ?_)
              refine g_is (q := 22) h iv51 rfl rfl (by decide) (by clear iw35 iw43 ih49; replace hv1 := hv1.symm; replace hv2 := hv2.symm; replace hv3 := hv3.symm; replace hv4 := hv4.symm; replace hv5 := hv5.symm; replace hv6 := hv6.symm; replace hv7 := hv7.symm; replace hm19 := hm19.symm; replace hm27 := hm27.symm; replace hw35 := hw35.symm; replace hw43 := hw43.symm; replace hv56 := hv56.symm; replace hv57 := hv57.symm; replace hv58 := hv58.symm; replace hv59 := hv59.symm; replace hv60 := hv60.symm; subst hv60 hv59 hv58 hv57 hv56 hw43 hw35 hm27 hm19 hv7 hv6 hv5 hv4 hv3 hv2 hv1; exact ixcj (crn_rg hW hj) hlt54) dX8_cross_189 (fun w61 hw61 iw61 => ?_)
              refine g_aload_n h 7 dX8_cross_190 rfl ?_
              refine q_8_at h rfl tw_708 dX8_cross_191 ?_
              refine g_iload_n h 5 dX8_cross_194 rfl ?_
              refine g_iload h 1 dX8_cross_195 rfl ?_
              refine g_iadd h dX8_cross_197 (g_name fun v62 hv62 => ?_)
              refine g_iload h 0 dX8_cross_198 rfl ?_
              refine g_is (q := 22) h iw61 rfl rfl (by decide) (by clear iw35 iw43 ih49 iw61; replace hv1 := hv1.symm; replace hv2 := hv2.symm; replace hv3 := hv3.symm; replace hv4 := hv4.symm; replace hv5 := hv5.symm; replace hv6 := hv6.symm; replace hv7 := hv7.symm; replace hm19 := hm19.symm; replace hm27 := hm27.symm; replace hw35 := hw35.symm; replace hw43 := hw43.symm; replace hv56 := hv56.symm; replace hv57 := hv57.symm; replace hv58 := hv58.symm; replace hv59 := hv59.symm; replace hv60 := hv60.symm; replace hw61 := hw61.symm; replace hv62 := hv62.symm; subst hv62 hw61 hv60 hv59 hv58 hv57 hv56 hw43 hw35 hm27 hm19 hv7 hv6 hv5 hv4 hv3 hv2 hv1; exact ixcj (crf_rg hW hj) hlt54) dX8_cross_200 (fun w63 hw63 iw63 => ?_)
              obtain ⟨v64, hv64⟩ : ∃ z : Int32, z = (nI j45) + 1 := ⟨_, rfl⟩
              refine g_iinc (v := v64) (loc2 := [(7, .int v64), (8, .int v57), (6, .int m27), (5, .int m19), (4, .int v7), (3, .int v6), (2, .int v3), (0, .ref (F + 647)), (1, .int j)]) h 1 dX8_cross_201 rfl (by rw [hv64]; rfl) (by decide) rfl ?_
              refine g_goto (tgt := 145) h dX8_cross_204 (by decide) ?_
              refine g_loc [0, 2, 3, 4, 5, 6, 7, 8] rfl ?_
              have e65 : v64 = nI (j45 + 1) := by clear iw35 iw43 ih49 iw61 iw63; replace hv1 := hv1.symm; replace hv2 := hv2.symm; replace hv3 := hv3.symm; replace hv4 := hv4.symm; replace hv5 := hv5.symm; replace hv6 := hv6.symm; replace hv7 := hv7.symm; replace hm19 := hm19.symm; replace hm27 := hm27.symm; replace hw35 := hw35.symm; replace hw43 := hw43.symm; replace hv56 := hv56.symm; replace hv57 := hv57.symm; replace hv58 := hv58.symm; replace hv59 := hv59.symm; replace hv60 := hv60.symm; replace hw61 := hw61.symm; replace hv62 := hv62.symm; replace hw63 := hw63.symm; replace hv64 := hv64.symm; subst hv64 hw63 hv62 hw61 hv60 hv59 hv58 hv57 hv56 hw43 hw35 hm27 hm19 hv7 hv6 hv5 hv4 hv3 hv2 hv1; first | rfl | exact nI_1 _ | (rw [nI_succ])
              have e66 : w63 = m_sw m19 m27 v3 v6 w43 (j45 + 1) := by clear iw35 iw43 ih49 iw61 iw63; replace hv1 := hv1.symm; replace hv2 := hv2.symm; replace hv3 := hv3.symm; replace hv4 := hv4.symm; replace hv5 := hv5.symm; replace hv6 := hv6.symm; replace hv7 := hv7.symm; replace hm19 := hm19.symm; replace hm27 := hm27.symm; replace hw35 := hw35.symm; replace hw43 := hw43.symm; replace hv56 := hv56.symm; replace hv57 := hv57.symm; replace hv58 := hv58.symm; replace hv59 := hv59.symm; replace hv60 := hv60.symm; replace hw61 := hw61.symm; replace hv62 := hv62.symm; replace hw63 := hw63.symm; replace hv64 := hv64.symm; subst hv64 hw63 hv62 hw61 hv60 hv59 hv58 hv57 hv56 hw43 hw35 hm27 hm19 hv7 hv6 hv5 hv4 hv3 hv2 hv1; exact sw_s (fun q => c55 q.1)
              exact g_lt e66 (lc_i e65 rfl) rfl (ih49 hlt54 (e66 ▸ iw63))
            · refine g_iload h 1 dX8_cross_156 rfl ?_
              refine g_if_eq (tgt := 207) h dX8_cross_158 (by decide) (fun c67 => ?_) (fun c67 => ?_)
              · exact e_vret h iv51 dX8_cross_207 (by clear iw35 iw43 ih49; replace hv1 := hv1.symm; replace hv2 := hv2.symm; replace hv3 := hv3.symm; replace hv4 := hv4.symm; replace hv5 := hv5.symm; replace hv6 := hv6.symm; replace hv7 := hv7.symm; replace hm19 := hm19.symm; replace hm27 := hm27.symm; replace hw35 := hw35.symm; replace hw43 := hw43.symm; subst hw43 hw35 hm27 hm19 hv7 hv6 hv5 hv4 hv3 hv2 hv1; exact sw_x ⟨c55, c67⟩)
              · refine g_aload_n h 6 dX8_cross_161 rfl ?_
                refine q_8_at h rfl tw_708 dX8_cross_162 ?_
                refine g_iload_n h 5 dX8_cross_165 rfl ?_
                refine g_iload h 0 dX8_cross_166 rfl ?_
                refine g_iadd h dX8_cross_168 (g_name fun v68 hv68 => ?_)
                refine g_ia (q := 22) h rfl rfl (by decide) (by clear iw35 iw43 ih49; replace hv1 := hv1.symm; replace hv2 := hv2.symm; replace hv3 := hv3.symm; replace hv4 := hv4.symm; replace hv5 := hv5.symm; replace hv6 := hv6.symm; replace hv7 := hv7.symm; replace hm19 := hm19.symm; replace hm27 := hm27.symm; replace hw35 := hw35.symm; replace hw43 := hw43.symm; replace hv68 := hv68.symm; subst hv68 hw43 hw35 hm27 hm19 hv7 hv6 hv5 hv4 hv3 hv2 hv1; exact ixcj (crn_rg hW hj) hlt54) dX8_cross_169 (fun v69 hv69 => ?_)
                refine g_istore (loc2 := [(8, .int v69), (7, .int (nI j45)), (6, .int m27), (5, .int m19), (4, .int v7), (3, .int v6), (2, .int v3), (0, .ref (F + 647)), (1, .int j)]) h dX8_cross_170 (by decide) rfl ?_
                refine g_aload_n h 7 dX8_cross_172 rfl ?_
                refine q_8_at h rfl tw_708 dX8_cross_173 ?_
                refine g_iload_n h 6 dX8_cross_176 rfl ?_
                refine g_iload h 1 dX8_cross_177 rfl ?_
                refine g_iadd h dX8_cross_179 (g_name fun v70 hv70 => ?_)
                refine g_aload_n h 7 dX8_cross_180 rfl ?_
                refine q_8_at h rfl tw_708 dX8_cross_181 ?_
                refine g_iload_n h 5 dX8_cross_184 rfl ?_
                refine g_iload h 1 dX8_cross_185 rfl ?_
                refine g_iadd h dX8_cross_187 (g_name fun v71 hv71 => ?_)
                refine g_ia (q := 22) h rfl rfl (by decide) (by clear iw35 iw43 ih49; replace hv1 := hv1.symm; replace hv2 := hv2.symm; replace hv3 := hv3.symm; replace hv4 := hv4.symm; replace hv5 := hv5.symm; replace hv6 := hv6.symm; replace hv7 := hv7.symm; replace hm19 := hm19.symm; replace hm27 := hm27.symm; replace hw35 := hw35.symm; replace hw43 := hw43.symm; replace hv68 := hv68.symm; replace hv69 := hv69.symm; replace hv70 := hv70.symm; replace hv71 := hv71.symm; subst hv71 hv70 hv69 hv68 hw43 hw35 hm27 hm19 hv7 hv6 hv5 hv4 hv3 hv2 hv1; exact ixcj (crf_rg hW hj) hlt54) dX8_cross_188 (fun v72 hv72 => ?_)
                refine g_is (q := 22) h iv51 rfl rfl (by decide) (by clear iw35 iw43 ih49; replace hv1 := hv1.symm; replace hv2 := hv2.symm; replace hv3 := hv3.symm; replace hv4 := hv4.symm; replace hv5 := hv5.symm; replace hv6 := hv6.symm; replace hv7 := hv7.symm; replace hm19 := hm19.symm; replace hm27 := hm27.symm; replace hw35 := hw35.symm; replace hw43 := hw43.symm; replace hv68 := hv68.symm; replace hv69 := hv69.symm; replace hv70 := hv70.symm; replace hv71 := hv71.symm; replace hv72 := hv72.symm; subst hv72 hv71 hv70 hv69 hv68 hw43 hw35 hm27 hm19 hv7 hv6 hv5 hv4 hv3 hv2 hv1; exact ixcj (crn_rg hW hj) hlt54) dX8_cross_189 (fun w73 hw73 iw73 => ?_)
                refine g_aload_n h 7 dX8_cross_190 rfl ?_
                refine q_8_at h rfl tw_708 dX8_cross_191 ?_
                refine g_iload_n h 5 dX8_cross_194 rfl ?_
                refine g_iload h 1 dX8_cross_195 rfl ?_
                refine g_iadd h dX8_cross_197 (g_name fun v74 hv74 => ?_)
                refine g_iload h 0 dX8_cross_198 rfl ?_
                refine g_is (q := 22) h iw73 rfl rfl (by decide) (by clear iw35 iw43 ih49 iw73; replace hv1 := hv1.symm; replace hv2 := hv2.symm; replace hv3 := hv3.symm; replace hv4 := hv4.symm; replace hv5 := hv5.symm; replace hv6 := hv6.symm; replace hv7 := hv7.symm; replace hm19 := hm19.symm; replace hm27 := hm27.symm; replace hw35 := hw35.symm; replace hw43 := hw43.symm; replace hv68 := hv68.symm; replace hv69 := hv69.symm; replace hv70 := hv70.symm; replace hv71 := hv71.symm; replace hv72 := hv72.symm; replace hw73 := hw73.symm; replace hv74 := hv74.symm; subst hv74 hw73 hv72 hv71 hv70 hv69 hv68 hw43 hw35 hm27 hm19 hv7 hv6 hv5 hv4 hv3 hv2 hv1; exact ixcj (crf_rg hW hj) hlt54) dX8_cross_200 (fun w75 hw75 iw75 => ?_)
                obtain ⟨v76, hv76⟩ : ∃ z : Int32, z = (nI j45) + 1 := ⟨_, rfl⟩
                refine g_iinc (v := v76) (loc2 := [(7, .int v76), (8, .int v69), (6, .int m27), (5, .int m19), (4, .int v7), (3, .int v6), (2, .int v3), (0, .ref (F + 647)), (1, .int j)]) h 1 dX8_cross_201 rfl (by rw [hv76]; rfl) (by decide) rfl ?_
                refine g_goto (tgt := 145) h dX8_cross_204 (by decide) ?_
                refine g_loc [0, 2, 3, 4, 5, 6, 7, 8] rfl ?_
                have e77 : v76 = nI (j45 + 1) := by clear iw35 iw43 ih49 iw73 iw75; replace hv1 := hv1.symm; replace hv2 := hv2.symm; replace hv3 := hv3.symm; replace hv4 := hv4.symm; replace hv5 := hv5.symm; replace hv6 := hv6.symm; replace hv7 := hv7.symm; replace hm19 := hm19.symm; replace hm27 := hm27.symm; replace hw35 := hw35.symm; replace hw43 := hw43.symm; replace hv68 := hv68.symm; replace hv69 := hv69.symm; replace hv70 := hv70.symm; replace hv71 := hv71.symm; replace hv72 := hv72.symm; replace hw73 := hw73.symm; replace hv74 := hv74.symm; replace hw75 := hw75.symm; replace hv76 := hv76.symm; subst hv76 hw75 hv74 hw73 hv72 hv71 hv70 hv69 hv68 hw43 hw35 hm27 hm19 hv7 hv6 hv5 hv4 hv3 hv2 hv1; first | rfl | exact nI_1 _ | (rw [nI_succ])
                have e78 : w75 = m_sw m19 m27 v3 v6 w43 (j45 + 1) := by clear iw35 iw43 ih49 iw73 iw75; replace hv1 := hv1.symm; replace hv2 := hv2.symm; replace hv3 := hv3.symm; replace hv4 := hv4.symm; replace hv5 := hv5.symm; replace hv6 := hv6.symm; replace hv7 := hv7.symm; replace hm19 := hm19.symm; replace hm27 := hm27.symm; replace hw35 := hw35.symm; replace hw43 := hw43.symm; replace hv68 := hv68.symm; replace hv69 := hv69.symm; replace hv70 := hv70.symm; replace hv71 := hv71.symm; replace hv72 := hv72.symm; replace hw73 := hw73.symm; replace hv74 := hv74.symm; replace hw75 := hw75.symm; replace hv76 := hv76.symm; subst hv76 hw75 hv74 hw73 hv72 hv71 hv70 hv69 hv68 hw43 hw35 hm27 hm19 hv7 hv6 hv5 hv4 hv3 hv2 hv1; exact sw_s (fun q => c67 q.2)
                exact g_lt e78 (lc_i e77 rfl) rfl (ih49 hlt54 (e78 ▸ iw75))
        refine g_if_eq (tgt := 142) h dX8_cross_122 (by decide) (fun c37 => ?_) (fun c37 => ?_)
        · exact hm142_44 _ (by clear iw35; replace hv1 := hv1.symm; replace hv2 := hv2.symm; replace hv3 := hv3.symm; replace hv4 := hv4.symm; replace hv5 := hv5.symm; replace hv6 := hv6.symm; replace hv7 := hv7.symm; replace hm19 := hm19.symm; replace hm27 := hm27.symm; replace hw35 := hw35.symm; subst hw35 hm27 hm19 hv7 hv6 hv5 hv4 hv3 hv2 hv1; rw [if_pos c37]) iw35
        · refine g_aload_n h 5 dX8_cross_125 rfl ?_
          refine g_iload_n h 6 dX8_cross_126 rfl ?_
          refine g_aload_n h 5 dX8_cross_127 rfl ?_
          refine g_iload_n h 6 dX8_cross_128 rfl ?_
          refine g_iconst (v := 2) h dX8_cross_129 (by decide) ?_
          refine k_V_i (st := [.int j, .ref (F + 647)]) h hX (tX8_ofJ (xl X) G F w35 iw35 j 2 (hj) (by decide)) rfl ⟨kd_lt rfl, ob_21 rfl⟩ rfl miX8_ofJ tw_821 (by decide) (by decide) rfl (Nat.le_of_ble_eq_true rfl) (by rw [hX]; exact Nat.zero_le _) (by rw [hX]; exact Nat.zero_le _) dX8_cross_130 (fun v39 hv39 => ?_)
          refine g_aload_n h 5 dX8_cross_133 rfl ?_
          refine g_iload_n h 6 dX8_cross_134 rfl ?_
          refine g_iconst (v := 0) h dX8_cross_135 (by decide) ?_
          refine k_V_i (st := [.int v39, .int j, .ref (F + 647)]) h hX (tX8_ofJ (xl X) G F w35 iw35 j 0 (hj) (by decide)) rfl ⟨kd_lt rfl, ob_21 rfl⟩ rfl miX8_ofJ tw_821 (by decide) (by decide) rfl (Nat.le_of_ble_eq_true rfl) (by rw [hX]; exact Nat.zero_le _) (by rw [hX]; exact Nat.zero_le _) dX8_cross_136 (fun v40 hv40 => ?_)
          refine k_V_v (st := []) h hX (tX8_crossed (xl X) G F w35 iw35 j v39 v40 (hj) (by clear iw35; replace hv1 := hv1.symm; replace hv2 := hv2.symm; replace hv3 := hv3.symm; replace hv4 := hv4.symm; replace hv5 := hv5.symm; replace hv6 := hv6.symm; replace hv7 := hv7.symm; replace hm19 := hm19.symm; replace hm27 := hm27.symm; replace hw35 := hw35.symm; replace hv39 := hv39.symm; replace hv40 := hv40.symm; subst hv40 hv39 hw35 hm27 hm19 hv7 hv6 hv5 hv4 hv3 hv2 hv1; exact (((cr1_K hW hj).mw hW).J hj).2.2.1) (by clear iw35; replace hv1 := hv1.symm; replace hv2 := hv2.symm; replace hv3 := hv3.symm; replace hv4 := hv4.symm; replace hv5 := hv5.symm; replace hv6 := hv6.symm; replace hv7 := hv7.symm; replace hm19 := hm19.symm; replace hm27 := hm27.symm; replace hw35 := hw35.symm; replace hv39 := hv39.symm; replace hv40 := hv40.symm; subst hv40 hv39 hw35 hm27 hm19 hv7 hv6 hv5 hv4 hv3 hv2 hv1; exact (((cr1_K hW hj).mw hW).J hj).1)) rfl ⟨kd_lt rfl, ob_21 rfl⟩ rfl miX8_crossed tw_924 (by decide) (by decide) rfl (Nat.le_of_ble_eq_true rfl) (by rw [hX]; exact Nat.zero_le _) (by rw [hX]; exact Nat.zero_le _) dX8_cross_139 (fun w41 hw41 iw41 => ?_)
          exact hm142_44 _ (by clear iw35 iw41; replace hv1 := hv1.symm; replace hv2 := hv2.symm; replace hv3 := hv3.symm; replace hv4 := hv4.symm; replace hv5 := hv5.symm; replace hv6 := hv6.symm; replace hv7 := hv7.symm; replace hm19 := hm19.symm; replace hm27 := hm27.symm; replace hw35 := hw35.symm; replace hv39 := hv39.symm; replace hv40 := hv40.symm; replace hw41 := hw41.symm; subst hw41 hv40 hv39 hw35 hm27 hm19 hv7 hv6 hv5 hv4 hv3 hv2 hv1; rw [if_neg c37]) iw41
      refine g_if_eq (tgt := 120) h dX8_cross_100 (by decide) (fun c29 => ?_) (fun c29 => ?_)
      · exact hm120_36 _ (by replace hv1 := hv1.symm; replace hv2 := hv2.symm; replace hv3 := hv3.symm; replace hv4 := hv4.symm; replace hv5 := hv5.symm; replace hv6 := hv6.symm; replace hv7 := hv7.symm; replace hm19 := hm19.symm; replace hm27 := hm27.symm; subst hm27 hm19 hv7 hv6 hv5 hv4 hv3 hv2 hv1; rw [if_pos c29]) hI
      · refine g_aload_n h 5 dX8_cross_103 rfl ?_
        refine g_iload_n h 6 dX8_cross_104 rfl ?_
        refine g_aload_n h 5 dX8_cross_105 rfl ?_
        refine g_iload_n h 6 dX8_cross_106 rfl ?_
        refine g_iconst (v := 0) h dX8_cross_107 (by decide) ?_
        refine k_V_i (st := [.int j, .ref (F + 647)]) h hX (tX8_ofJ (xl X) G F ω hI j 0 (hj) (by decide)) rfl ⟨kd_lt rfl, ob_21 rfl⟩ rfl miX8_ofJ tw_821 (by decide) (by decide) rfl (Nat.le_of_ble_eq_true rfl) (by rw [hX]; exact Nat.zero_le _) (by rw [hX]; exact Nat.zero_le _) dX8_cross_108 (fun v31 hv31 => ?_)
        refine g_aload_n h 5 dX8_cross_111 rfl ?_
        refine g_iload_n h 6 dX8_cross_112 rfl ?_
        refine g_iconst (v := 2) h dX8_cross_113 (by decide) ?_
        refine k_V_i (st := [.int v31, .int j, .ref (F + 647)]) h hX (tX8_ofJ (xl X) G F ω hI j 2 (hj) (by decide)) rfl ⟨kd_lt rfl, ob_21 rfl⟩ rfl miX8_ofJ tw_821 (by decide) (by decide) rfl (Nat.le_of_ble_eq_true rfl) (by rw [hX]; exact Nat.zero_le _) (by rw [hX]; exact Nat.zero_le _) dX8_cross_114 (fun v32 hv32 => ?_)
        refine k_V_v (st := []) h hX (tX8_crossed (xl X) G F ω hI j v31 v32 (hj) (by replace hv1 := hv1.symm; replace hv2 := hv2.symm; replace hv3 := hv3.symm; replace hv4 := hv4.symm; replace hv5 := hv5.symm; replace hv6 := hv6.symm; replace hv7 := hv7.symm; replace hm19 := hm19.symm; replace hm27 := hm27.symm; replace hv31 := hv31.symm; replace hv32 := hv32.symm; subst hv32 hv31 hm27 hm19 hv7 hv6 hv5 hv4 hv3 hv2 hv1; exact (hW.J hj).1) (by replace hv1 := hv1.symm; replace hv2 := hv2.symm; replace hv3 := hv3.symm; replace hv4 := hv4.symm; replace hv5 := hv5.symm; replace hv6 := hv6.symm; replace hv7 := hv7.symm; replace hm19 := hm19.symm; replace hm27 := hm27.symm; replace hv31 := hv31.symm; replace hv32 := hv32.symm; subst hv32 hv31 hm27 hm19 hv7 hv6 hv5 hv4 hv3 hv2 hv1; exact (hW.J hj).2.2.1)) rfl ⟨kd_lt rfl, ob_21 rfl⟩ rfl miX8_crossed tw_924 (by decide) (by decide) rfl (Nat.le_of_ble_eq_true rfl) (by rw [hX]; exact Nat.zero_le _) (by rw [hX]; exact Nat.zero_le _) dX8_cross_117 (fun w33 hw33 iw33 => ?_)
        exact hm120_36 _ (by clear iw33; replace hv1 := hv1.symm; replace hv2 := hv2.symm; replace hv3 := hv3.symm; replace hv4 := hv4.symm; replace hv5 := hv5.symm; replace hv6 := hv6.symm; replace hv7 := hv7.symm; replace hm19 := hm19.symm; replace hm27 := hm27.symm; replace hv31 := hv31.symm; replace hv32 := hv32.symm; replace hw33 := hw33.symm; subst hw33 hv32 hv31 hm27 hm19 hv7 hv6 hv5 hv4 hv3 hv2 hv1; rw [if_neg c29]) iw33
    refine g_icmp_ne (tgt := 95) h dX8_cross_79 (by decide) (fun c21 => ?_) (fun c21 => ?_)
    · refine g_iconst (v := 0) h dX8_cross_95 (by decide) ?_
      exact hm96_28 _ (by replace hv1 := hv1.symm; replace hv2 := hv2.symm; replace hv3 := hv3.symm; replace hv4 := hv4.symm; replace hv5 := hv5.symm; replace hv6 := hv6.symm; replace hv7 := hv7.symm; replace hm19 := hm19.symm; subst hm19 hv7 hv6 hv5 hv4 hv3 hv2 hv1; rw [if_neg c21])
    · refine g_aload_n h 4 dX8_cross_82 rfl ?_
      refine q_8_at h rfl tw_708 dX8_cross_83 ?_
      refine g_iload_n h 2 dX8_cross_86 rfl ?_
      refine g_ia (q := 22) h rfl rfl (by decide) (by replace hv1 := hv1.symm; replace hv2 := hv2.symm; replace hv3 := hv3.symm; replace hv4 := hv4.symm; replace hv5 := hv5.symm; replace hv6 := hv6.symm; replace hv7 := hv7.symm; replace hm19 := hm19.symm; subst hm19 hv7 hv6 hv5 hv4 hv3 hv2 hv1; exact ixc (crf_rg hW hj)) dX8_cross_87 (fun v23 hv23 => ?_)
      refine g_if_lt (tgt := 95) h dX8_cross_88 (by decide) (fun c24 => ?_) (fun c24 => ?_)
      · refine g_iconst (v := 0) h dX8_cross_95 (by decide) ?_
        exact hm96_28 _ (by replace hv1 := hv1.symm; replace hv2 := hv2.symm; replace hv3 := hv3.symm; replace hv4 := hv4.symm; replace hv5 := hv5.symm; replace hv6 := hv6.symm; replace hv7 := hv7.symm; replace hm19 := hm19.symm; replace hv23 := hv23.symm; subst hv23 hm19 hv7 hv6 hv5 hv4 hv3 hv2 hv1; rw [if_pos c21, if_pos c24])
      · refine g_iconst (v := 1) h dX8_cross_91 (by decide) ?_
        refine g_goto (tgt := 96) h dX8_cross_92 (by decide) ?_
        exact hm96_28 _ (by replace hv1 := hv1.symm; replace hv2 := hv2.symm; replace hv3 := hv3.symm; replace hv4 := hv4.symm; replace hv5 := hv5.symm; replace hv6 := hv6.symm; replace hv7 := hv7.symm; replace hm19 := hm19.symm; replace hv23 := hv23.symm; subst hv23 hm19 hv7 hv6 hv5 hv4 hv3 hv2 hv1; rw [if_pos c21, if_neg c24])
  refine g_if_le (tgt := 73) h dX8_cross_42 (by decide) (fun c8 => ?_) (fun c8 => ?_)
  · refine g_iconst (v := 0) h dX8_cross_73 (by decide) ?_
    exact hm74_20 _ (by replace hv1 := hv1.symm; replace hv2 := hv2.symm; replace hv3 := hv3.symm; replace hv4 := hv4.symm; replace hv5 := hv5.symm; replace hv6 := hv6.symm; replace hv7 := hv7.symm; subst hv7 hv6 hv5 hv4 hv3 hv2 hv1; rw [if_pos c8])
  · refine g_aload_n h 3 dX8_cross_45 rfl ?_
    refine q_8_at h rfl tw_708 dX8_cross_46 ?_
    refine g_iload_n h 2 dX8_cross_49 rfl ?_
    refine g_ia (q := 22) h rfl rfl (by decide) (by replace hv1 := hv1.symm; replace hv2 := hv2.symm; replace hv3 := hv3.symm; replace hv4 := hv4.symm; replace hv5 := hv5.symm; replace hv6 := hv6.symm; replace hv7 := hv7.symm; subst hv7 hv6 hv5 hv4 hv3 hv2 hv1; exact ixc (crn_rg hW hj)) dX8_cross_50 (fun v10 hv10 => ?_)
    refine g_if_lt (tgt := 73) h dX8_cross_51 (by decide) (fun c11 => ?_) (fun c11 => ?_)
    · refine g_iconst (v := 0) h dX8_cross_73 (by decide) ?_
      exact hm74_20 _ (by replace hv1 := hv1.symm; replace hv2 := hv2.symm; replace hv3 := hv3.symm; replace hv4 := hv4.symm; replace hv5 := hv5.symm; replace hv6 := hv6.symm; replace hv7 := hv7.symm; replace hv10 := hv10.symm; subst hv10 hv7 hv6 hv5 hv4 hv3 hv2 hv1; rw [if_neg c8, if_pos c11])
    · refine g_iload h 0 dX8_cross_54 rfl ?_
      refine g_iconst (v := 1) h dX8_cross_56 (by decide) ?_
      refine g_icmp_eq (tgt := 69) h dX8_cross_57 (by decide) (fun c13 => ?_) (fun c13 => ?_)
      · refine g_iconst (v := 1) h dX8_cross_69 (by decide) ?_
        refine g_goto (tgt := 74) h dX8_cross_70 (by decide) ?_
        exact hm74_20 _ (by replace hv1 := hv1.symm; replace hv2 := hv2.symm; replace hv3 := hv3.symm; replace hv4 := hv4.symm; replace hv5 := hv5.symm; replace hv6 := hv6.symm; replace hv7 := hv7.symm; replace hv10 := hv10.symm; subst hv10 hv7 hv6 hv5 hv4 hv3 hv2 hv1; rw [if_neg c8, if_neg c11, if_pos c13])
      · refine g_aload_n h 3 dX8_cross_60 rfl ?_
        refine q_8_at h rfl tw_708 dX8_cross_61 ?_
        refine g_iload_n h 1 dX8_cross_64 rfl ?_
        refine g_ia (q := 22) h rfl rfl (by decide) (by replace hv1 := hv1.symm; replace hv2 := hv2.symm; replace hv3 := hv3.symm; replace hv4 := hv4.symm; replace hv5 := hv5.symm; replace hv6 := hv6.symm; replace hv7 := hv7.symm; replace hv10 := hv10.symm; subst hv10 hv7 hv6 hv5 hv4 hv3 hv2 hv1; exact ixc (crf_rg hW hj)) dX8_cross_65 (fun v15 hv15 => ?_)
        refine g_if_ge (tgt := 73) h dX8_cross_66 (by decide) (fun c16 => ?_) (fun c16 => ?_)
        · refine g_iconst (v := 0) h dX8_cross_73 (by decide) ?_
          exact hm74_20 _ (by replace hv1 := hv1.symm; replace hv2 := hv2.symm; replace hv3 := hv3.symm; replace hv4 := hv4.symm; replace hv5 := hv5.symm; replace hv6 := hv6.symm; replace hv7 := hv7.symm; replace hv10 := hv10.symm; replace hv15 := hv15.symm; subst hv15 hv10 hv7 hv6 hv5 hv4 hv3 hv2 hv1; rw [if_neg c8, if_neg c11, if_neg c13, if_pos c16])
        · refine g_iconst (v := 1) h dX8_cross_69 (by decide) ?_
          refine g_goto (tgt := 74) h dX8_cross_70 (by decide) ?_
          exact hm74_20 _ (by replace hv1 := hv1.symm; replace hv2 := hv2.symm; replace hv3 := hv3.symm; replace hv4 := hv4.symm; replace hv5 := hv5.symm; replace hv6 := hv6.symm; replace hv7 := hv7.symm; replace hv10 := hv10.symm; replace hv15 := hv15.symm; subst hv15 hv10 hv7 hv6 hv5 hv4 hv3 hv2 hv1; rw [if_neg c8, if_neg c11, if_neg c13, if_neg c16])
set_option maxHeartbeats 4000000 in
set_option maxRecDepth 100000 in
theorem tX8_recover (l0 : Launch) (G : fG) (F : Nat) (ω : fOm) (hI : Inv ω) (d : Int32) (hd : 0 ≤ d ∧ d ≤ 11) : CT l0 G F yX8_recover cX8_recover 3 none 1 [.ref (F + 647), .int d] ω none (m_rec ω d) := by
  refine ct_met (own := RX8) (by decide +kernel) rfl (Nat.le_of_ble_eq_true rfl) (fun X hXl hX h => ?_)
  subst hXl
  refine g_aload_n h 0 dX8_recover_0 rfl ?_
  refine g_iload_n h 1 dX8_recover_1 rfl ?_
  refine g_iconst (v := 5) h dX8_recover_2 (by decide) ?_
  refine k_V_i (st := []) h hX (tX8_ofD (xl X) G F ω hI d 5 (hd) (by decide)) rfl ⟨kd_lt rfl, ob_21 rfl⟩ rfl miX8_ofD tw_837 (by decide) (by decide) rfl (Nat.le_of_ble_eq_true rfl) (by rw [hX]; exact Nat.zero_le _) (by rw [hX]; exact Nat.zero_le _) dX8_recover_3 (fun v1 hv1 => ?_)
  refine g_aload_n h 0 dX8_recover_6 rfl ?_
  refine q_8_at h rfl tw_708 dX8_recover_7 ?_
  refine g_iconst (v := 2) h dX8_recover_10 (by decide) ?_
  refine g_ia (q := 22) h rfl rfl (by decide) (vp_n (j := 2) (Nat.le_of_ble_eq_true rfl) (Nat.le_of_ble_eq_true rfl)) dX8_recover_11 (fun v2 hv2 => ?_)
  replace hv2 : v2 = ω 648 2 := hv2
  refine g_iadd h dX8_recover_12 (g_name fun v3 hv3 => ?_)
  refine g_istore_n (loc2 := [(2, .int v3), (0, .ref (F + 647)), (1, .int d)]) h dX8_recover_13 (by decide) rfl ?_
  refine g_aload_n h 1 dX8_recover_14 rfl ?_
  refine g_iload_n h 2 dX8_recover_15 rfl ?_
  refine g_iconst (v := 0) h dX8_recover_16 (by decide) ?_
  refine k_V_i (st := []) h hX (tX8_ofD (xl X) G F ω hI d 0 (hd) (by decide)) rfl ⟨kd_lt rfl, ob_21 rfl⟩ rfl miX8_ofD tw_837 (by decide) (by decide) rfl (Nat.le_of_ble_eq_true rfl) (by rw [hX]; exact Nat.zero_le _) (by rw [hX]; exact Nat.zero_le _) dX8_recover_17 (fun v4 hv4 => ?_)
  refine g_if_ne (tgt := 49) h dX8_recover_20 (by decide) (fun c5 => ?_) (fun c5 => ?_)
  · exact e_vret h hI dX8_recover_49 (by replace hv1 := hv1.symm; replace hv2 := hv2.symm; replace hv3 := hv3.symm; replace hv4 := hv4.symm; subst hv4 hv3 hv2 hv1; unfold m_rec; simp only [if_neg c5])
  · refine g_aload_n h 1 dX8_recover_23 rfl ?_
    refine g_iload_n h 2 dX8_recover_24 rfl ?_
    refine g_iconst (v := 5) h dX8_recover_25 (by decide) ?_
    refine g_iload_n h 0 dX8_recover_26 rfl ?_
    refine g_aload_n h 1 dX8_recover_27 rfl ?_
    refine g_iload_n h 2 dX8_recover_28 rfl ?_
    refine g_iconst (v := 4) h dX8_recover_29 (by decide) ?_
    refine k_V_i (st := [.int v3, .int 5, .int d, .ref (F + 647)]) h hX (tX8_ofD (xl X) G F ω hI d 4 (hd) (by decide)) rfl ⟨kd_lt rfl, ob_21 rfl⟩ rfl miX8_ofD tw_837 (by decide) (by decide) rfl (Nat.le_of_ble_eq_true rfl) (by rw [hX]; exact Nat.zero_le _) (by rw [hX]; exact Nat.zero_le _) dX8_recover_30 (fun v6 hv6 => ?_)
    refine g_icmp_ge (tgt := 40) h dX8_recover_33 (by decide) (fun c7 => ?_) (fun c7 => ?_)
    · refine g_aload_n h 1 dX8_recover_40 rfl ?_
      refine g_iload_n h 2 dX8_recover_41 rfl ?_
      refine g_iconst (v := 4) h dX8_recover_42 (by decide) ?_
      refine k_V_i (st := [.int 5, .int d, .ref (F + 647)]) h hX (tX8_ofD (xl X) G F ω hI d 4 (hd) (by decide)) rfl ⟨kd_lt rfl, ob_21 rfl⟩ rfl miX8_ofD tw_837 (by decide) (by decide) rfl (Nat.le_of_ble_eq_true rfl) (by rw [hX]; exact Nat.zero_le _) (by rw [hX]; exact Nat.zero_le _) dX8_recover_43 (fun v8 hv8 => ?_)
      refine k_V_v (st := []) h hX (tX8_layD (xl X) G F ω hI d 5 v8 (hd) (by decide)) rfl ⟨kd_lt rfl, ob_21 rfl⟩ rfl miX8_layD tw_801 (by decide) (by decide) rfl (Nat.le_of_ble_eq_true rfl) (by rw [hX]; exact Nat.zero_le _) (by rw [hX]; exact Nat.zero_le _) dX8_recover_46 (fun w9 hw9 iw9 => ?_)
      exact e_vret h iw9 dX8_recover_49 (by clear iw9; replace hv1 := hv1.symm; replace hv2 := hv2.symm; replace hv3 := hv3.symm; replace hv4 := hv4.symm; replace hv6 := hv6.symm; replace hv8 := hv8.symm; replace hw9 := hw9.symm; subst hw9 hv8 hv6 hv4 hv3 hv2 hv1; unfold m_rec; simp only [if_pos c5, if_pos c7])
    · refine g_iload_n h 0 dX8_recover_36 rfl ?_
      refine g_goto (tgt := 46) h dX8_recover_37 (by decide) ?_
      refine k_V_v (st := []) h hX (tX8_layD (xl X) G F ω hI d 5 v3 (hd) (by decide)) rfl ⟨kd_lt rfl, ob_21 rfl⟩ rfl miX8_layD tw_801 (by decide) (by decide) rfl (Nat.le_of_ble_eq_true rfl) (by rw [hX]; exact Nat.zero_le _) (by rw [hX]; exact Nat.zero_le _) dX8_recover_46 (fun w10 hw10 iw10 => ?_)
      exact e_vret h iw10 dX8_recover_49 (by clear iw10; replace hv1 := hv1.symm; replace hv2 := hv2.symm; replace hv3 := hv3.symm; replace hv4 := hv4.symm; replace hv6 := hv6.symm; replace hw10 := hw10.symm; subst hw10 hv6 hv4 hv3 hv2 hv1; unfold m_rec; simp only [if_pos c5, if_neg c7])
set_option maxHeartbeats 4000000 in
set_option maxRecDepth 100000 in
theorem tX8_pass (l0 : Launch) (G : fG) (F : Nat) (ω : fOm) (hI : Inv ω) (hW : MW (ω 648)) : CT l0 G F yX8_pass cX8_pass 2 none 4 [.ref (F + 647)] ω none (m_pass ω) := by
  refine ct_met (own := RX8) (by decide +kernel) rfl (Nat.le_of_ble_eq_true rfl) (fun X hXl hX h => ?_)
  subst hXl
  refine g_iconst (v := 0) h dX8_pass_0 (by decide) ?_
  refine g_istore_n (loc2 := [(1, .int 0), (0, .ref (F + 647))]) h dX8_pass_1 (by decide) rfl ?_
  have e2 : 0 = nI 0 := by skip; first | rfl | exact nI_0.symm | exact nI_0 | decide
  have e3 : ω = m_q1 ω 0 := rfl
  refine g_lt (ω2 := m_q1 ω 0) (loc2 := [(1, .int (nI 0)), (0, .ref (F + 647))]) e3 (lc_i e2 rfl) rfl ?_
  refine g_loop3 (hd := 2) ((ω 648 5).toNatClampNeg) (fun j1 => Inv (m_q1 ω j1) ∧ KW ω (m_q1 ω j1)) (fun j1 => [(1, .int (nI j1)), (0, .ref (F + 647))]) (fun j1 => cel F G (m_q1 ω j1)) ⟨(e3 ▸ hI), (⟨KQ.rf, hW⟩)⟩ (fun j1 hj6 hP4 ih5 => ?_)
  (try dsimp only)
  obtain ⟨iv7, hk1⟩ := hP4
  refine g_iload_n h 0 dX8_pass_2 rfl ?_
  refine g_aload_n h 1 dX8_pass_3 rfl ?_
  refine q_8_at h rfl tw_708 dX8_pass_4 ?_
  refine g_iconst (v := 5) h dX8_pass_7 (by decide) ?_
  refine g_ia (q := 22) h rfl rfl (by decide) (vp_n (j := 5) (Nat.le_of_ble_eq_true rfl) (Nat.le_of_ble_eq_true rfl)) dX8_pass_8 (fun v8 hv8 => ?_)
  replace hv8 : v8 = (m_q1 ω j1) 648 5 := hv8
  refine g_icmp_ge (tgt := 28) h dX8_pass_9 (by decide) (fun c9 => ?_) (fun c9 => ?_)
  · have hN10 : j1 = ((ω 648 5).toNatClampNeg) := by clear ih5; replace hv8 := hv8.symm; subst hv8; rw [hk1.1 5 rfl] at c9; exact lp_ge (hW.1).1 c9 hj6
    refine g_iconst (v := 0) h dX8_pass_28 (by decide) ?_
    refine g_istore_n (loc2 := [(1, .int 0), (0, .ref (F + 647))]) h dX8_pass_29 (by decide) rfl ?_
    have e12 : 0 = nI 0 := by clear ih5; replace hv8 := hv8.symm; subst hv8; first | rfl | exact nI_0.symm | exact nI_0 | decide
    have e13 : (m_q1 ω j1) = m_q2 (m_q1 ω j1) 0 := rfl
    refine g_lt (ω2 := m_q2 (m_q1 ω j1) 0) (loc2 := [(1, .int (nI 0)), (0, .ref (F + 647))]) e13 (lc_i e12 rfl) rfl ?_
    refine g_loop3 (hd := 30) (((m_q1 ω j1) 648 6).toNatClampNeg) (fun j11 => Inv (m_q2 (m_q1 ω j1) j11) ∧ KW (m_q1 ω j1) (m_q2 (m_q1 ω j1) j11)) (fun j11 => [(1, .int (nI j11)), (0, .ref (F + 647))]) (fun j11 => cel F G (m_q2 (m_q1 ω j1) j11)) ⟨(e13 ▸ iv7), (⟨KQ.rf, hk1.2⟩)⟩ (fun j11 hj16 hP14 ih15 => ?_)
    (try dsimp only)
    obtain ⟨iv17, hk2⟩ := hP14
    refine g_iload_n h 0 dX8_pass_30 rfl ?_
    refine g_aload_n h 1 dX8_pass_31 rfl ?_
    refine q_8_at h rfl tw_708 dX8_pass_32 ?_
    refine g_bipush (v := 6) h dX8_pass_35 (by decide) ?_
    refine g_ia (q := 22) h rfl rfl (by decide) (vp_n (j := 6) (Nat.le_of_ble_eq_true rfl) (Nat.le_of_ble_eq_true rfl)) dX8_pass_37 (fun v18 hv18 => ?_)
    replace hv18 : v18 = (m_q2 (m_q1 ω j1) j11) 648 6 := hv18
    refine g_icmp_ge (tgt := 52) h dX8_pass_38 (by decide) (fun c19 => ?_) (fun c19 => ?_)
    · have hN20 : j11 = (((m_q1 ω j1) 648 6).toNatClampNeg) := by clear ih5 ih15; replace hv8 := hv8.symm; replace hv18 := hv18.symm; subst hv18 hv8; rw [hk2.1 6 rfl] at c19; exact lp_ge (hk1.2.2.1).1 c19 hj16
      refine g_iconst (v := 0) h dX8_pass_52 (by decide) ?_
      refine g_istore_n (loc2 := [(1, .int 0), (0, .ref (F + 647))]) h dX8_pass_53 (by decide) rfl ?_
      have e22 : 0 = nI 0 := by clear ih5 ih15; replace hv8 := hv8.symm; replace hv18 := hv18.symm; subst hv18 hv8; first | rfl | exact nI_0.symm | exact nI_0 | decide
      have e23 : (m_q2 (m_q1 ω j1) j11) = m_q3 (m_q2 (m_q1 ω j1) j11) 0 := rfl
      refine g_lt (ω2 := m_q3 (m_q2 (m_q1 ω j1) j11) 0) (loc2 := [(1, .int (nI 0)), (0, .ref (F + 647))]) e23 (lc_i e22 rfl) rfl ?_
      refine g_loop3 (hd := 54) (((m_q2 (m_q1 ω j1) j11) 648 7).toNatClampNeg) (fun j21 => Inv (m_q3 (m_q2 (m_q1 ω j1) j11) j21) ∧ KW (m_q2 (m_q1 ω j1) j11) (m_q3 (m_q2 (m_q1 ω j1) j11) j21)) (fun j21 => [(1, .int (nI j21)), (0, .ref (F + 647))]) (fun j21 => cel F G (m_q3 (m_q2 (m_q1 ω j1) j11) j21)) ⟨(e23 ▸ iv17), (⟨KQ.rf, hk2.2⟩)⟩ (fun j21 hj26 hP24 ih25 => ?_)
      (try dsimp only)
      obtain ⟨iv27, hk3⟩ := hP24
      refine g_iload_n h 0 dX8_pass_54 rfl ?_
      refine g_aload_n h 1 dX8_pass_55 rfl ?_
      refine q_8_at h rfl tw_708 dX8_pass_56 ?_
      refine g_bipush (v := 7) h dX8_pass_59 (by decide) ?_
      refine g_ia (q := 22) h rfl rfl (by decide) (vp_n (j := 7) (Nat.le_of_ble_eq_true rfl) (Nat.le_of_ble_eq_true rfl)) dX8_pass_61 (fun v28 hv28 => ?_)
      replace hv28 : v28 = (m_q3 (m_q2 (m_q1 ω j1) j11) j21) 648 7 := hv28
      refine g_icmp_ge (tgt := 76) h dX8_pass_62 (by decide) (fun c29 => ?_) (fun c29 => ?_)
      · have hN30 : j21 = (((m_q2 (m_q1 ω j1) j11) 648 7).toNatClampNeg) := by clear ih5 ih15 ih25; replace hv8 := hv8.symm; replace hv18 := hv18.symm; replace hv28 := hv28.symm; subst hv28 hv18 hv8; rw [hk3.1 7 rfl] at c29; exact lp_ge (hk2.2.2.2.1).1 c29 hj26
        refine g_iconst (v := 0) h dX8_pass_76 (by decide) ?_
        refine g_istore_n (loc2 := [(1, .int 0), (0, .ref (F + 647))]) h dX8_pass_77 (by decide) rfl ?_
        have e32 : 0 = nI 0 := by clear ih5 ih15 ih25; replace hv8 := hv8.symm; replace hv18 := hv18.symm; replace hv28 := hv28.symm; subst hv28 hv18 hv8; first | rfl | exact nI_0.symm | exact nI_0 | decide
        have e33 : (m_q3 (m_q2 (m_q1 ω j1) j11) j21) = m_q4 (m_q3 (m_q2 (m_q1 ω j1) j11) j21) 0 := rfl
        refine g_lt (ω2 := m_q4 (m_q3 (m_q2 (m_q1 ω j1) j11) j21) 0) (loc2 := [(1, .int (nI 0)), (0, .ref (F + 647))]) e33 (lc_i e32 rfl) rfl ?_
        refine g_loop3 (hd := 78) (((m_q3 (m_q2 (m_q1 ω j1) j11) j21) 648 6).toNatClampNeg) (fun j31 => Inv (m_q4 (m_q3 (m_q2 (m_q1 ω j1) j11) j21) j31) ∧ KW (m_q3 (m_q2 (m_q1 ω j1) j11) j21) (m_q4 (m_q3 (m_q2 (m_q1 ω j1) j11) j21) j31)) (fun j31 => [(1, .int (nI j31)), (0, .ref (F + 647))]) (fun j31 => cel F G (m_q4 (m_q3 (m_q2 (m_q1 ω j1) j11) j21) j31)) ⟨(e33 ▸ iv27), (⟨KQ.rf, hk3.2⟩)⟩ (fun j31 hj36 hP34 ih35 => ?_)
        (try dsimp only)
        obtain ⟨iv37, hk4⟩ := hP34
        refine g_iload_n h 0 dX8_pass_78 rfl ?_
        refine g_aload_n h 1 dX8_pass_79 rfl ?_
        refine q_8_at h rfl tw_708 dX8_pass_80 ?_
        refine g_bipush (v := 6) h dX8_pass_83 (by decide) ?_
        refine g_ia (q := 22) h rfl rfl (by decide) (vp_n (j := 6) (Nat.le_of_ble_eq_true rfl) (Nat.le_of_ble_eq_true rfl)) dX8_pass_85 (fun v38 hv38 => ?_)
        replace hv38 : v38 = (m_q4 (m_q3 (m_q2 (m_q1 ω j1) j11) j21) j31) 648 6 := hv38
        refine g_icmp_ge (tgt := 100) h dX8_pass_86 (by decide) (fun c39 => ?_) (fun c39 => ?_)
        · have hN40 : j31 = (((m_q3 (m_q2 (m_q1 ω j1) j11) j21) 648 6).toNatClampNeg) := by clear ih5 ih15 ih25 ih35; replace hv8 := hv8.symm; replace hv18 := hv18.symm; replace hv28 := hv28.symm; replace hv38 := hv38.symm; subst hv38 hv28 hv18 hv8; rw [hk4.1 6 rfl] at c39; exact lp_ge (hk3.2.2.1).1 c39 hj36
          refine g_aload_n h 1 dX8_pass_100 rfl ?_
          refine q_8_at h rfl tw_708 dX8_pass_101 ?_
          refine g_iconst (v := 4) h dX8_pass_104 (by decide) ?_
          refine g_dup2 h dX8_pass_105 rfl rfl ?_
          refine g_ia (q := 22) h rfl rfl (by decide) (vp_n (j := 4) (Nat.le_of_ble_eq_true rfl) (Nat.le_of_ble_eq_true rfl)) dX8_pass_106 (fun v41 hv41 => ?_)
          replace hv41 : v41 = (m_q4 (m_q3 (m_q2 (m_q1 ω j1) j11) j21) j31) 648 4 := hv41
          refine g_iconst (v := 1) h dX8_pass_107 (by decide) ?_
          refine g_iadd h dX8_pass_108 (g_name fun v42 hv42 => ?_)
          refine g_is (q := 22) h iv37 rfl rfl (by decide) (vp_n (j := 4) (Nat.le_of_ble_eq_true rfl) (Nat.le_of_ble_eq_true rfl)) dX8_pass_109 (fun w43 hw43 iw43 => ?_)
          replace hw43 : w43 = wu (m_q4 (m_q3 (m_q2 (m_q1 ω j1) j11) j21) j31) 648 4 v42 := hw43
          exact e_vret h iw43 dX8_pass_110 (by clear ih5 ih15 ih25 ih35 iw43; replace hv8 := hv8.symm; replace hv18 := hv18.symm; replace hv28 := hv28.symm; replace hv38 := hv38.symm; replace hv41 := hv41.symm; replace hv42 := hv42.symm; replace hw43 := hw43.symm; subst hw43 hv42 hv41 hv38 hv28 hv18 hv8; rw [hN40, hN30, hN20, hN10]; rfl)
        · have hlt44 : j31 < (((m_q3 (m_q2 (m_q1 ω j1) j11) j21) 648 6).toNatClampNeg) := by clear ih5 ih15 ih25 ih35; replace hv8 := hv8.symm; replace hv18 := hv18.symm; replace hv28 := hv28.symm; replace hv38 := hv38.symm; subst hv38 hv28 hv18 hv8; rw [hk4.1 6 rfl] at c39; exact lp_lt (hk3.2.2.1).1 c39 hj36
          refine g_aload_n h 1 dX8_pass_89 rfl ?_
          refine g_iload_n h 0 dX8_pass_90 rfl ?_
          refine k_V_v (st := []) h hX (tX8_recover (xl X) G F (m_q4 (m_q3 (m_q2 (m_q1 ω j1) j11) j21) j31) iv37 (nI j31) (nj11 (Nat.lt_of_lt_of_le hlt44 hk3.2.n6))) rfl ⟨kd_lt rfl, ob_21 rfl⟩ rfl miX8_recover tw_928 (by decide) (by decide) rfl (Nat.le_of_ble_eq_true rfl) (by rw [hX]; exact Nat.zero_le _) (by rw [hX]; exact Nat.zero_le _) dX8_pass_91 (fun w45 hw45 iw45 => ?_)
          obtain ⟨v46, hv46⟩ : ∃ z : Int32, z = (nI j31) + 1 := ⟨_, rfl⟩
          refine g_iinc (v := v46) (loc2 := [(1, .int v46), (0, .ref (F + 647))]) h 0 dX8_pass_94 rfl (by rw [hv46]; rfl) (by decide) rfl ?_
          refine g_goto (tgt := 78) h dX8_pass_97 (by decide) ?_
          have e47 : v46 = nI (j31 + 1) := by clear ih5 ih15 ih25 ih35 iw45; replace hv8 := hv8.symm; replace hv18 := hv18.symm; replace hv28 := hv28.symm; replace hv38 := hv38.symm; replace hw45 := hw45.symm; replace hv46 := hv46.symm; subst hv46 hw45 hv38 hv28 hv18 hv8; first | rfl | exact nI_1 _ | (rw [nI_succ])
          have e48 : w45 = m_q4 (m_q3 (m_q2 (m_q1 ω j1) j11) j21) (j31 + 1) := by clear ih5 ih15 ih25 ih35 iw45; replace hv8 := hv8.symm; replace hv18 := hv18.symm; replace hv28 := hv28.symm; replace hv38 := hv38.symm; replace hw45 := hw45.symm; replace hv46 := hv46.symm; subst hv46 hw45 hv38 hv28 hv18 hv8; rfl
          exact g_lt e48 (lc_i e47 rfl) rfl (ih35 hlt44 ⟨(e48 ▸ iw45), (q4_K ⟨KQ.rf, hk3.2⟩ (Nat.le_trans (Nat.succ_le_of_lt hlt44) hk3.2.n6))⟩)
      · have hlt49 : j21 < (((m_q2 (m_q1 ω j1) j11) 648 7).toNatClampNeg) := by clear ih5 ih15 ih25; replace hv8 := hv8.symm; replace hv18 := hv18.symm; replace hv28 := hv28.symm; subst hv28 hv18 hv8; rw [hk3.1 7 rfl] at c29; exact lp_lt (hk2.2.2.2.1).1 c29 hj26
        refine g_aload_n h 1 dX8_pass_65 rfl ?_
        refine g_iload_n h 0 dX8_pass_66 rfl ?_
        refine k_V_v (st := []) h hX (tX8_cross (xl X) G F (m_q3 (m_q2 (m_q1 ω j1) j11) j21) iv27 (nI j21) (nj3 (Nat.lt_of_lt_of_le hlt49 hk2.2.n7)) (hk3.2)) rfl ⟨kd_lt rfl, ob_21 rfl⟩ rfl miX8_cross tw_920 (by decide) (by decide) rfl (Nat.le_of_ble_eq_true rfl) (by rw [hX]; exact Nat.zero_le _) (by rw [hX]; exact Nat.zero_le _) dX8_pass_67 (fun w50 hw50 iw50 => ?_)
        obtain ⟨v51, hv51⟩ : ∃ z : Int32, z = (nI j21) + 1 := ⟨_, rfl⟩
        refine g_iinc (v := v51) (loc2 := [(1, .int v51), (0, .ref (F + 647))]) h 0 dX8_pass_70 rfl (by rw [hv51]; rfl) (by decide) rfl ?_
        refine g_goto (tgt := 54) h dX8_pass_73 (by decide) ?_
        have e52 : v51 = nI (j21 + 1) := by clear ih5 ih15 ih25 iw50; replace hv8 := hv8.symm; replace hv18 := hv18.symm; replace hv28 := hv28.symm; replace hw50 := hw50.symm; replace hv51 := hv51.symm; subst hv51 hw50 hv28 hv18 hv8; first | rfl | exact nI_1 _ | (rw [nI_succ])
        have e53 : w50 = m_q3 (m_q2 (m_q1 ω j1) j11) (j21 + 1) := by clear ih5 ih15 ih25 iw50; replace hv8 := hv8.symm; replace hv18 := hv18.symm; replace hv28 := hv28.symm; replace hw50 := hw50.symm; replace hv51 := hv51.symm; subst hv51 hw50 hv28 hv18 hv8; rfl
        exact g_lt e53 (lc_i e52 rfl) rfl (ih25 hlt49 ⟨(e53 ▸ iw50), (q3_K ⟨KQ.rf, hk2.2⟩ (Nat.le_trans (Nat.succ_le_of_lt hlt49) hk2.2.n7))⟩)
    · have hlt54 : j11 < (((m_q1 ω j1) 648 6).toNatClampNeg) := by clear ih5 ih15; replace hv8 := hv8.symm; replace hv18 := hv18.symm; subst hv18 hv8; rw [hk2.1 6 rfl] at c19; exact lp_lt (hk1.2.2.1).1 c19 hj16
      refine g_aload_n h 1 dX8_pass_41 rfl ?_
      refine g_iload_n h 0 dX8_pass_42 rfl ?_
      refine k_V_v (st := []) h hX (tX8_act (xl X) G F (m_q2 (m_q1 ω j1) j11) iv17 (nI j11) (nj11 (Nat.lt_of_lt_of_le hlt54 hk1.2.n6)) (hk2.2)) rfl ⟨kd_lt rfl, ob_21 rfl⟩ rfl miX8_act tw_900 (by decide) (by decide) rfl (Nat.le_of_ble_eq_true rfl) (by rw [hX]; exact Nat.zero_le _) (by rw [hX]; exact Nat.zero_le _) dX8_pass_43 (fun w55 hw55 iw55 => ?_)
      obtain ⟨v56, hv56⟩ : ∃ z : Int32, z = (nI j11) + 1 := ⟨_, rfl⟩
      refine g_iinc (v := v56) (loc2 := [(1, .int v56), (0, .ref (F + 647))]) h 0 dX8_pass_46 rfl (by rw [hv56]; rfl) (by decide) rfl ?_
      refine g_goto (tgt := 30) h dX8_pass_49 (by decide) ?_
      have e57 : v56 = nI (j11 + 1) := by clear ih5 ih15 iw55; replace hv8 := hv8.symm; replace hv18 := hv18.symm; replace hw55 := hw55.symm; replace hv56 := hv56.symm; subst hv56 hw55 hv18 hv8; first | rfl | exact nI_1 _ | (rw [nI_succ])
      have e58 : w55 = m_q2 (m_q1 ω j1) (j11 + 1) := by clear ih5 ih15 iw55; replace hv8 := hv8.symm; replace hv18 := hv18.symm; replace hw55 := hw55.symm; replace hv56 := hv56.symm; subst hv56 hw55 hv18 hv8; rfl
      exact g_lt e58 (lc_i e57 rfl) rfl (ih15 hlt54 ⟨(e58 ▸ iw55), (q2_K ⟨KQ.rf, hk1.2⟩ (Nat.le_trans (Nat.succ_le_of_lt hlt54) hk1.2.n6))⟩)
  · have hlt59 : j1 < ((ω 648 5).toNatClampNeg) := by clear ih5; replace hv8 := hv8.symm; subst hv8; rw [hk1.1 5 rfl] at c9; exact lp_lt (hW.1).1 c9 hj6
    refine g_aload_n h 1 dX8_pass_12 rfl ?_
    refine g_iload_n h 0 dX8_pass_13 rfl ?_
    refine k_V_v (st := []) h hX (tX8_turnOn (xl X) G F (m_q1 ω j1) iv7 (nI j1) (nj4 (Nat.lt_of_lt_of_le hlt59 hW.n5)) (hk1.2)) rfl ⟨kd_lt rfl, ob_21 rfl⟩ rfl miX8_turnOn tw_880 (by decide) (by decide) rfl (Nat.le_of_ble_eq_true rfl) (by rw [hX]; exact Nat.zero_le _) (by rw [hX]; exact Nat.zero_le _) dX8_pass_14 (fun w60 hw60 iw60 => ?_)
    refine g_aload_n h 1 dX8_pass_17 rfl ?_
    refine g_iload_n h 0 dX8_pass_18 rfl ?_
    refine k_V_v (st := []) h hX (tX8_fadeAll (xl X) G F w60 iw60 (nI j1) (nj4 (Nat.lt_of_lt_of_le hlt59 hW.n5)) (by clear ih5 iw60; replace hv8 := hv8.symm; replace hw60 := hw60.symm; subst hw60 hv8; exact (turn_K KP.rf (nj4 (Nat.lt_of_lt_of_le hlt59 hW.n5)) hk1.2).mw hk1.2)) rfl ⟨kd_lt rfl, ob_21 rfl⟩ rfl miX8_fadeAll tw_892 (by decide) (by decide) rfl (Nat.le_of_ble_eq_true rfl) (by rw [hX]; exact Nat.zero_le _) (by rw [hX]; exact Nat.zero_le _) dX8_pass_19 (fun w61 hw61 iw61 => ?_)
    obtain ⟨v62, hv62⟩ : ∃ z : Int32, z = (nI j1) + 1 := ⟨_, rfl⟩
    refine g_iinc (v := v62) (loc2 := [(1, .int v62), (0, .ref (F + 647))]) h 0 dX8_pass_22 rfl (by rw [hv62]; rfl) (by decide) rfl ?_
    refine g_goto (tgt := 2) h dX8_pass_25 (by decide) ?_
    have e63 : v62 = nI (j1 + 1) := by clear ih5 iw60 iw61; replace hv8 := hv8.symm; replace hw60 := hw60.symm; replace hw61 := hw61.symm; replace hv62 := hv62.symm; subst hv62 hw61 hw60 hv8; first | rfl | exact nI_1 _ | (rw [nI_succ])
    have e64 : w61 = m_q1 ω (j1 + 1) := by clear ih5 iw60 iw61; replace hv8 := hv8.symm; replace hw60 := hw60.symm; replace hw61 := hw61.symm; replace hv62 := hv62.symm; subst hv62 hw61 hw60 hv8; rfl
    exact g_lt e64 (lc_i e63 rfl) rfl (ih5 hlt59 ⟨(e64 ▸ iw61), (q1_K ⟨KQ.rf, hW⟩ (Nat.le_trans (Nat.succ_le_of_lt hlt59) hW.n5))⟩)
set_option maxHeartbeats 4000000 in
set_option maxRecDepth 100000 in
theorem tX8_passAll (l0 : Launch) (G : fG) (F : Nat) (ω : fOm) (hI : Inv ω) (t : Int32) (hW : MW (ω 648)) (ht : 0 ≤ t) : CT l0 G F yX8_passAll cX8_passAll 3 none 5 [.ref (F + 647), .int t] ω none (m_pN ω t.toNatClampNeg) := by
  refine ct_met (own := RX8) (by decide +kernel) rfl (Nat.le_of_ble_eq_true rfl) (fun X hXl hX h => ?_)
  subst hXl
  refine g_iconst (v := 0) h dX8_passAll_0 (by decide) ?_
  refine g_istore_n (loc2 := [(2, .int 0), (0, .ref (F + 647)), (1, .int t)]) h dX8_passAll_1 (by decide) rfl ?_
  have e2 : 0 = nI 0 := by skip; first | rfl | exact nI_0.symm | exact nI_0 | decide
  have e3 : ω = m_pN ω 0 := rfl
  refine g_lt (ω2 := m_pN ω 0) (loc2 := [(2, .int (nI 0)), (0, .ref (F + 647)), (1, .int t)]) e3 (lc_i e2 rfl) rfl ?_
  refine g_loop3 (hd := 2) (t.toNatClampNeg) (fun j1 => Inv (m_pN ω j1)) (fun j1 => [(2, .int (nI j1)), (0, .ref (F + 647)), (1, .int t)]) (fun j1 => cel F G (m_pN ω j1)) (e3 ▸ hI) (fun j1 hj6 hP4 ih5 => ?_)
  (try dsimp only)
  have iv7 := hP4
  refine g_iload_n h 0 dX8_passAll_2 rfl ?_
  refine g_iload_n h 2 dX8_passAll_3 rfl ?_
  refine g_icmp_ge (tgt := 17) h dX8_passAll_4 (by decide) (fun c8 => ?_) (fun c8 => ?_)
  · have hN9 : j1 = t.toNatClampNeg := lp_ge ht c8 hj6
    exact e_vret h iv7 dX8_passAll_17 (by clear ih5; skip; rw [hN9])
  · have hlt10 : j1 < t.toNatClampNeg := lp_lt ht c8 hj6
    refine g_aload_n h 1 dX8_passAll_7 rfl ?_
    refine k_V_v (st := []) h hX (tX8_pass (xl X) G F (m_pN ω j1) iv7 ((pN_K hW _).2)) rfl ⟨kd_lt rfl, ob_21 rfl⟩ rfl miX8_pass tw_876 (by decide) (by decide) rfl (Nat.le_of_ble_eq_true rfl) (by rw [hX]; exact Nat.zero_le _) (by rw [hX]; exact Nat.zero_le _) dX8_passAll_8 (fun w11 hw11 iw11 => ?_)
    obtain ⟨v12, hv12⟩ : ∃ z : Int32, z = (nI j1) + 1 := ⟨_, rfl⟩
    refine g_iinc (v := v12) (loc2 := [(2, .int v12), (0, .ref (F + 647)), (1, .int t)]) h 0 dX8_passAll_11 rfl (by rw [hv12]; rfl) (by decide) rfl ?_
    refine g_goto (tgt := 2) h dX8_passAll_14 (by decide) ?_
    have e13 : v12 = nI (j1 + 1) := by clear ih5 iw11; replace hw11 := hw11.symm; replace hv12 := hv12.symm; subst hv12 hw11; first | rfl | exact nI_1 _ | (rw [nI_succ])
    have e14 : w11 = m_pN ω (j1 + 1) := by clear ih5 iw11; replace hw11 := hw11.symm; replace hv12 := hv12.symm; subst hv12 hw11; rfl
    exact g_lt e14 (lc_i e13 rfl) rfl (ih5 hlt10 (e14 ▸ iw11))
