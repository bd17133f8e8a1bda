/-! ===== the two sides as wholes ===== -/
def pR (M : fOm) (p : Nat) : Nat → Int32 := fun x => M 649 (770 * p + x)
def sRw (M : fOm) (s : Nat) : Nat → Int32 := fun x => M 650 (770 * s + x)
def SX (C : fOm) (b : Nat) (a : Nat → Int32) (T : Nat) : Prop := SR C b a ∧ MW a ∧ TK a T
def HR (C M : fOm) (T : Nat) : Prop := ∃ n f : Nat, n ≤ 6 ∧ f < 6 ∧ C 117 1 = nI n ∧ M 647 3 = nI n ∧ M 647 2 = nI f ∧ (∀ i, i < 7 → ∃ m, m < 7 ∧ (C 118 i).toNatClampNeg = 119 + 58 * m) ∧
  (∀ i j, i < 7 → j < 7 → i ≠ j → (C 118 i).toNatClampNeg ≠ (C 118 j).toNatClampNeg) ∧ ∀ i, i < n → SX C (C 118 i).toNatClampNeg (pR M ((f + i) % 6)) T
def LR (C M : fOm) (T : Nat) : Prop := ∀ s, s < 2 → C 526 s = M 651 s ∧ (¬ C 526 s = 0 → SX C (531 + 58 * s) (sRw M s) T)
def PR (C M : fOm) : Prop := ∃ m : Nat, m ≤ 80 ∧ C 527 1 = nI m ∧ M 647 8 = nI m ∧ ∀ i, i < m → C 528 i = M 653 i ∧ (33 ≤ M 653 i ∧ M 653 i ≤ 126)
def RR (C M : fOm) (T : Nat) : Prop := SX C 1 (M 648) T ∧ HR C M T ∧ LR C M T ∧ PR C M
theorem TK.le {a : Nat → Int32} {T T2 : Nat} (h : TK a T) (hT : T ≤ T2) : TK a T2 := by
  obtain ⟨n, hn, q⟩ := h
  exact ⟨n, by omega, q⟩
theorem SX.le {C : fOm} {b : Nat} {a : Nat → Int32} {T T2 : Nat} (h : SX C b a T) (hT : T ≤ T2) : SX C b a T2 := ⟨h.1, h.2.1, h.2.2.le hT⟩
theorem SX.eqv {C W : fOm} {b : Nat} {a a2 : Nat → Int32} {T : Nat} (h : SX C b a T) (hC : ∀ q, b ≤ q → q < b + 58 → W q = C q) (ha : ∀ i, i < 770 → a2 i = a i) : SX W b a2 T :=
  ⟨h.1.eqv hC ha, h.2.1.p (fun i hi => ha i (Nat.lt_trans (cK_lt hi) (by decide))), h.2.2.mo (ha 4 (by omega)) (Nat.le_refl T) (fun r hr => ha _ (by omega))⟩
/-- the class's cells below 647, the reference's from there on -/
theorem RR.eqv {C C2 M M2 : fOm} {T : Nat} (h : RR C M T) (hC : ∀ q, q < 647 → C2 q = C q) (hM : ∀ q, 647 ≤ q → M2 q = M q) : RR C2 M2 T := by
  obtain ⟨h1, ⟨n, f, g1, g2, g3, g4, g5, g6, g7, g8⟩, h3, m, k1, k2, k3, k4⟩ := h
  refine ⟨h1.eqv (fun q _ q2 => hC q (by omega)) (fun i _ => by rw [hM 648 (by omega)]), ⟨n, f, g1, g2, by rw [hC 117 (by omega)]; exact g3, by rw [hM 647 (by omega)]; exact g4, by rw [hM 647 (by omega)]; exact g5, by rw [hC 118 (by omega)]; exact g6, by rw [hC 118 (by omega)]; exact g7, fun i hi => ?_⟩, fun s hs => ?_, m, k1, by rw [hC 527 (by omega)]; exact k2, by rw [hM 647 (by omega)]; exact k3, by rw [hC 528 (by omega), hM 653 (by omega)]; exact k4⟩
  · rw [hC 118 (by omega)]
    obtain ⟨m, hm, e⟩ := g6 i (by omega)
    exact (g8 i hi).eqv (fun q q1 q2 => hC q (by omega)) (fun x _ => by unfold pR; rw [hM 649 (by omega)])
  · rw [hC 526 (by omega), hM 651 (by omega)]
    refine ⟨(h3 s hs).1, fun c => ((h3 s hs).2 c).eqv (fun q q1 q2 => hC q (by omega)) (fun x _ => by unfold sRw; rw [hM 650 (by omega)])⟩
theorem RR.le {C M : fOm} {T T2 : Nat} (h : RR C M T) (hT : T ≤ T2) : RR C M T2 := by
  obtain ⟨h1, ⟨n, f, g1, g2, g3, g4, g5, g6, g7, g8⟩, h3, h4⟩ := h
  exact ⟨h1.le hT, ⟨n, f, g1, g2, g3, g4, g5, g6, g7, fun i hi => (g8 i hi).le hT⟩, fun s hs => ⟨(h3 s hs).1, fun c => ((h3 s hs).2 c).le hT⟩, h4⟩
theorem RR.mk {C M : fOm} {T : Nat} (h : RR C M T) : MK M := by
  obtain ⟨-, ⟨n, f, g1, g2, g3, g4, g5, -⟩, -⟩ := h
  unfold MK
  rw [g4, g5]
  exact ⟨⟨nI_pos' (by omega), nI_le (b := 5) (by omega) (by decide)⟩, nI_pos' (by omega), nI_le (b := 6) (by omega) (by decide)⟩
theorem RR.pd {C M : fOm} {T : Nat} (h : RR C M T) : 0 ≤ M 647 8 ∧ M 647 8 ≤ 80 := by
  obtain ⟨-, -, -, m, k1, k2, k3, -⟩ := h
  rw [k3]
  exact ⟨nI_pos' (by omega), nI_le (b := 80) (by omega) (by decide)⟩
/-- the trial's cells and what is laid aside don't matter -/
theorem RR.side {C M W X : fOm} {T : Nat} (h : RR C M T) (hC : ∀ q, ¬ (59 ≤ q ∧ q < 117) → q ≠ 529 → q ≠ 530 → W q = C q) (h8 : ∀ i, i < 770 → X 648 i = M 648 i) (hM : ∀ q, q ≠ 647 → q ≠ 648 → q ≠ 652 → q ≠ 654 → q ≠ 655 → q ≠ 656 → X q = M q) (h7 : ∀ i, (i < 9 ∨ 12 < i) → X 647 i = M 647 i) : RR W X T := by
  obtain ⟨h1, ⟨n, f, g1, g2, g3, g4, g5, g6, g7, g8⟩, h3, m, k1, k2, k3, k4⟩ := h
  refine ⟨h1.eqv (fun q _ q2 => hC q (by omega) (by omega) (by omega)) h8, ⟨n, f, g1, g2, by rw [hC 117 (by omega) (by omega) (by omega)]; exact g3, by rw [h7 3 (by omega)]; exact g4, by rw [h7 2 (by omega)]; exact g5, by rw [hC 118 (by omega) (by omega) (by omega)]; exact g6, by rw [hC 118 (by omega) (by omega) (by omega)]; exact g7, fun i hi => ?_⟩, fun s hs => ?_, m, k1, by rw [hC 527 (by omega) (by omega) (by omega)]; exact k2, by rw [h7 8 (by omega)]; exact k3, by rw [hC 528 (by omega) (by omega) (by omega), hM 653 (by omega) (by omega) (by omega) (by omega) (by omega) (by omega)]; exact k4⟩
  · rw [hC 118 (by omega) (by omega) (by omega)]
    obtain ⟨m, hm, e⟩ := g6 i (by omega)
    exact (g8 i hi).eqv (fun q q1 q2 => hC q (by omega) (by omega) (by omega)) (fun x _ => by unfold pR; rw [hM 649 (by omega) (by omega) (by omega) (by omega) (by omega) (by omega)])
  · rw [hC 526 (by omega) (by omega) (by omega), hM 651 (by omega) (by omega) (by omega) (by omega) (by omega) (by omega)]
    exact ⟨(h3 s hs).1, fun c => ((h3 s hs).2 c).eqv (fun q q1 q2 => hC q (by omega) (by omega) (by omega)) (fun x _ => by unfold sRw; rw [hM 650 (by omega) (by omega) (by omega) (by omega) (by omega) (by omega)])⟩
/-- keeping -/
theorem kpL_c {w : fOm} {p : Nat} (hp : p < 6) (j : Nat) (hj : j ≤ 770) : ∀ i, m_kpL (nI p) w j 649 i = if 770 * p ≤ i ∧ i < 770 * p + j then w 648 (i - 770 * p) else w 649 i := by
  induction j with
  | zero => intro i; rw [if_neg (by omega)]; rfl
  | succ j ih =>
    intro i
    show wu (m_kpL (nI p) w j) 649 (770 * nI p + nI j).toNatClampNeg (m_kpL (nI p) w j 648 j) 649 i = _
    rw [show (770 : Int32) = nI 770 from rfl, pk_mul, nI_add, nI_clamp (by omega), wu_i, kpL_ne (by decide)]
    by_cases e : i = 770 * p + j
    · rw [if_pos e, if_pos (by omega), e, Nat.add_sub_cancel_left]
    · rw [if_neg e, ih (by omega) i]
      by_cases c : 770 * p ≤ i ∧ i < 770 * p + j
      · rw [if_pos c, if_pos (by omega)]
      · rw [if_neg c, if_neg (by omega)]
theorem keep_c {M : fOm} {n f : Nat} (hn : n ≤ 6) (hf : f < 6) (e3 : M 647 3 = nI n) (e2 : M 647 2 = nI f) : ∃ f2 n2 : Nat, ((n < 6 ∧ f2 = f ∧ n2 = n) ∨ (n = 6 ∧ f2 = (f + 1) % 6 ∧ n2 = 5)) ∧ m_keep M 647 2 = nI f2 ∧ m_keep M 647 3 = nI (n2 + 1) ∧ (∀ x, x < 770 → m_keep M 649 (770 * ((f2 + n2) % 6) + x) = M 648 x) ∧ (∀ p x, p < 6 → p ≠ (f2 + n2) % 6 → x < 770 → m_keep M 649 (770 * p + x) = M 649 (770 * p + x)) := by
  obtain ⟨f2, n2, hc, a2, a3⟩ : ∃ f2 n2 : Nat, ((n < 6 ∧ f2 = f ∧ n2 = n) ∨ (n = 6 ∧ f2 = (f + 1) % 6 ∧ n2 = 5)) ∧ m_kp0 M 647 2 = nI f2 ∧ m_kp0 M 647 3 = nI n2 := by
    unfold m_kp0
    by_cases c : M 647 3 = 6
    · rw [if_pos c]
      have hn6 : n = 6 := (nI_eq (by omega) (by omega)).mp (e3.symm.trans c)
      refine ⟨(f + 1) % 6, 5, Or.inr ⟨hn6, rfl, rfl⟩, ?_, ?_⟩
      · rw [wu_i, if_neg (by decide), wu_i, if_pos rfl, e2, nI_1, rem6_n (by omega)]
      · rw [wu_i, if_pos rfl, wu_i, if_neg (by decide), c]
        rfl
    · rw [if_neg c]
      have hn6 : n ≠ 6 := fun e => c (by rw [e3, e]; rfl)
      exact ⟨f, n, Or.inl ⟨by omega, rfl, rfl⟩, e2, e3⟩
  have ep : m_kpP (m_kp0 M) = nI ((f2 + n2) % 6) := by
    unfold m_kpP
    rw [a2, a3, nI_add, rem6_n (by omega)]
  have hp : (f2 + n2) % 6 < 6 := Nat.mod_lt _ (by decide)
  refine ⟨f2, n2, hc, ?_, ?_, fun x hx => ?_, fun p x hp2 hne hx => ?_⟩
  · unfold m_keep
    rw [wu_i, if_neg (by decide), kpL_ne (by decide)]
    exact a2
  · unfold m_keep
    rw [wu_i, if_pos rfl, kpL_ne (by decide), a3, nI_1]
  · unfold m_keep
    rw [wu_ne (by decide), ep, kpL_c hp 770 (Nat.le_refl _), if_pos (by omega), Nat.add_sub_cancel_left, kp0_648 (by decide)]
  · unfold m_keep
    rw [wu_ne (by decide), ep, kpL_c hp 770 (Nat.le_refl _), if_neg (by omega), kp0_648 (by decide)]
theorem dro_c {ω : fOm} (j : Nat) : ∀ i, f_dro ω j 118 i = if i < j then nI (ω 118 (i + 1)).toNatClampNeg else ω 118 i := by
  induction j with
  | zero => intro i; rw [if_neg (by omega)]; rfl
  | succ j ih =>
    intro i
    show wu (f_dro ω j) 118 j (nI (f_dro ω j 118 (j + 1)).toNatClampNeg) 118 i = _
    have e1 := ih (j + 1)
    rw [if_neg (by omega)] at e1
    rw [wu_i, e1]
    by_cases e : i = j
    · rw [if_pos e, if_pos (by omega), e]
    · rw [if_neg e, ih i]
      by_cases c : i < j
      · rw [if_pos c, if_pos (by omega)]
      · rw [if_neg c, if_neg (by omega)]
theorem dro_ne {ω : fOm} {q : Nat} (hq : q ≠ 118) (j : Nat) : f_dro ω j q = ω q := by
  induction j with
  | zero => rfl
  | succ j ih => exact (wu_ne hq).trans ih
theorem mod6 (f : Nat) (hf : f < 6) : (∀ i n, i < n → n < 6 → (f + i) % 6 ≠ (f + n) % 6) ∧ (∀ i, i < 5 → ((f + 1) % 6 + i) % 6 = (f + (i + 1)) % 6 ∧ (f + (i + 1)) % 6 ≠ ((f + 1) % 6 + 5) % 6) := by
  refine ⟨fun i n h1 h2 => by omega, fun i hi => ⟨by omega, by omega⟩⟩
/-- a change, kept or not -/
theorem RR.change {C M W : fOm} {R : Int32} {m : Int32 × fOm} {T T2 : Nat} (h : RR C M T) (hT : T + 200 ≤ T2) (hW : Mod (sS 1) (f_hold C 1) W) (hD : SX (f_hold C 1) 1 (M 648) T → Done (f_hold C 1) W 1 R M m (m_keep M) T) : m.1 = R ∧ RR (f_keepD W R) m.2 T2 := by
  obtain ⟨h1, ⟨n, f, g1, g2, g3, g4, g5, g6, g7, g8⟩, h3, mm, k1, k2, k3, k4⟩ := h
  obtain ⟨mi, hmi, es⟩ := g6 n (by omega)
  have en : (C 117 1).toNatClampNeg = n := by rw [g3, nI_clamp (by omega)]
  generalize hs : (C 118 n).toNatClampNeg = s at es
  have eH : f_hold C 1 = f_scopy C s 1 := by unfold f_hold; rw [en, hs]
  have hne : (1 : Nat) ≠ s + 1 := by omega
  have hap : apart s 1 := by unfold apart; omega
  have hM : Mod (sS s) C (f_hold C 1) := by rw [eH]; exact scopy_M h1.1.cB hne
  have hS : SR (f_hold C 1) s (M 648) := by rw [eH]; exact h1.1.copy hap
  generalize f_hold C 1 = H at hM hS hW hD
  have Hne : ∀ q, ¬ (s ≤ q ∧ q < s + 58) → H q = C q := fun q hq => hM q hq
  have hH1 : SX H 1 (M 648) T := h1.eqv (fun q q1 q2 => Hne q (by omega)) (fun _ _ => rfl)
  have Wne : ∀ q, ¬ (1 ≤ q ∧ q < 59) → W q = H q := fun q hq => hW q (by show ¬ (1 ≤ q ∧ q < 1 + 58); omega)
  have old : ∀ i, i < 7 → i ≠ n → (C 118 i).toNatClampNeg + 58 ≤ s ∨ s + 58 ≤ (C 118 i).toNatClampNeg := fun i hi hin => by
    obtain ⟨m2, hm2, e2⟩ := g6 i hi
    have := g7 i n hi (by omega) hin
    rw [hs] at this
    omega
  have base : ∀ i, i < 7 → 119 ≤ (C 118 i).toNatClampNeg ∧ (C 118 i).toNatClampNeg + 58 ≤ 525 := fun i hi => by
    obtain ⟨m2, hm2, e2⟩ := g6 i hi
    omega
  rcases hD hH1 with ⟨r0, em, eW⟩ | ⟨r0, em, hX, hS1, hW1, hT1⟩
  · subst em
    subst eW
    have eK : f_keepD W R = W := by unfold f_keepD; rw [if_neg (Int32.not_le.mpr r0)]
    rw [eK]
    refine ⟨rfl, hH1.le (by omega), ⟨n, f, g1, g2, by rw [Hne 117 (by omega)]; exact g3, g4, g5, by rw [Hne 118 (by omega)]; exact g6, by rw [Hne 118 (by omega)]; exact g7, fun i hi => ?_⟩, fun sl hsl => ?_, mm, k1, by rw [Hne 527 (by omega)]; exact k2, k3, by rw [Hne 528 (by omega)]; exact k4⟩
    · rw [Hne 118 (by omega)]
      have := old i (by omega) (by omega)
      exact ((g8 i hi).eqv (fun q q1 q2 => Hne q (by omega)) (fun _ _ => rfl)).le (by omega)
    · rw [Hne 526 (by omega)]
      exact ⟨(h3 sl hsl).1, fun c => (((h3 sl hsl).2 c).eqv (fun q q1 q2 => Hne q (by omega)) (fun _ _ => rfl)).le (by omega)⟩
  · refine ⟨em, ?_⟩
    obtain ⟨f2, n2, hc, a2, a3, a4, a5⟩ := keep_c g1 g2 g4 g5
    have X647 : m.2 647 = m_keep M 647 := hX 647 (by decide)
    have X649 : m.2 649 = m_keep M 649 := hX 649 (by decide)
    have Xo : ∀ q, q ≠ 647 → q ≠ 648 → q ≠ 649 → m.2 q = M q := fun q q1 q2 q3 => (hX q q2).trans (keep_q ⟨q1, q3⟩)
    have W117 : W 117 1 = nI n := by rw [Wne 117 (by omega), Hne 117 (by omega)]; exact g3
    have W118 : W 118 = C 118 := by rw [Wne 118 (by omega), Hne 118 (by omega)]
    -- a state of the history in W
    have st : ∀ i, i < n → SX W (C 118 i).toNatClampNeg (pR M ((f + i) % 6)) T2 := fun i hi => by
      have := old i (by omega) (by omega)
      have := base i (by omega)
      exact ((g8 i hi).eqv (fun q q1 q2 => (Wne q (by omega)).trans (Hne q (by omega))) (fun _ _ => rfl)).le (by omega)
    have stn : SX W s (M 648) T2 := by
      have := base n (by omega)
      rw [hs] at this
      exact (SX.eqv (C := H) ⟨hS, h1.2.1, h1.2.2⟩ (fun q q1 q2 => Wne q (by omega)) (fun _ _ => rfl)).le (by omega)
    have rest : ∀ V : fOm, (∀ q, q ≠ 117 → q ≠ 118 → V q = W q) → HR V m.2 T2 → RR V m.2 T2 := fun V hV hh => by
      refine ⟨SX.eqv (C := W) ⟨hS1, hW1, hT1.le (by omega)⟩ (fun q q1 q2 => hV q (by omega) (by omega)) (fun _ _ => rfl), hh, fun sl hsl => ?_, mm, k1, ?_, ?_, ?_⟩
      · have w526 : V 526 = C 526 := by rw [hV 526 (by omega) (by omega), Wne 526 (by omega), Hne 526 (by omega)]
        rw [w526, Xo 651 (by omega) (by omega) (by omega)]
        exact ⟨(h3 sl hsl).1, fun c => (((h3 sl hsl).2 c).eqv (fun q q1 q2 => (hV q (by omega) (by omega)).trans ((Wne q (by omega)).trans (Hne q (by omega)))) (fun x _ => by unfold sRw; rw [Xo 650 (by omega) (by omega) (by omega)])).le (by omega)⟩
      · rw [hV 527 (by omega) (by omega), Wne 527 (by omega), Hne 527 (by omega)]; exact k2
      · rw [X647, keep_i (by decide)]; exact k3
      · rw [hV 528 (by omega) (by omega), Wne 528 (by omega), Hne 528 (by omega), Xo 653 (by omega) (by omega) (by omega)]; exact k4
    unfold f_keepD
    rw [if_pos r0, W117]
    rcases hc with ⟨hn6, rfl, rfl⟩ | ⟨hn6, rfl, rfl⟩
    · rw [if_neg (show ¬ (6 : Int32) ≤ nI n2 from nI_ge (b := 6) hn6 (by decide))]
      refine rest _ (fun q q1 q2 => wu_ne q1) ⟨n2 + 1, f2, by omega, g2, by rw [wu_i, if_pos rfl, nI_1], by rw [X647, a3], by rw [X647, a2], ?_, ?_, fun i hi => ?_⟩
      · rw [wu_ne (by decide), W118]; exact g6
      · rw [wu_ne (by decide), W118]; exact g7
      · rw [wu_ne (k2 := 118) (by decide), W118]
        by_cases e : i = n2
        · subst e
          rw [hs]
          exact stn.eqv (fun q q1 q2 => wu_ne (by have := base i (by omega); rw [hs] at this; omega)) (fun x hx => by unfold pR; rw [X649]; exact a4 x hx)
        · have hb := base i (by omega)
          exact (st i (by omega)).eqv (fun q q1 q2 => wu_ne (by omega)) (fun x hx => by unfold pR; rw [X649]; exact a5 _ x (Nat.mod_lt _ (by decide)) ((mod6 f2 g2).1 i n2 (by omega) hn6) hx)
    · subst hn6
      rw [if_pos (show (6 : Int32) ≤ nI 6 by decide)]
      have d117 : f_dropO W 117 = W 117 := by unfold f_dropO; rw [wu_ne (by decide), dro_ne (by decide)]
      have dne : ∀ q, q ≠ 118 → f_dropO W q = W q := fun q hq => by unfold f_dropO; rw [wu_ne hq, dro_ne hq]
      have d118 : ∀ i, i < 7 → (f_dropO W 118 i).toNatClampNeg = (C 118 (if i = 6 then 0 else i + 1)).toNatClampNeg := fun i hi => by
        unfold f_dropO
        rw [wu_i, dro_c, W118]
        by_cases e : i = 6
        · rw [if_pos e, if_pos e, nI_clamp (by have := base 0 (by omega); omega)]
        · rw [if_neg e, if_neg e, if_pos (by omega), nI_clamp (by have := base (i + 1) (by omega); omega)]
      refine rest _ (fun q q1 q2 => dne q q2) ⟨6, (f + 1) % 6, Nat.le_refl 6, Nat.mod_lt _ (by decide), by rw [d117, W117], by rw [X647, a3], by rw [X647, a2], fun i hi => ?_, fun i j hi hj hij => ?_, fun i hi => ?_⟩
      · rw [d118 i hi]
        exact g6 _ (by split <;> omega)
      · rw [d118 i hi, d118 j hj]
        refine g7 _ _ (by split <;> omega) (by split <;> omega) ?_
        split <;> split <;> omega
      · rw [d118 i (by omega), if_neg (by omega)]
        by_cases e : i = 5
        · subst e
          rw [hs]
          exact stn.eqv (fun q q1 q2 => dne q (by have := base 6 (by omega); rw [hs] at this; omega)) (fun x hx => by unfold pR; rw [X649]; exact a4 x hx)
        · have hb := base (i + 1) (by omega)
          have hm := (mod6 f g2).2 i (by omega)
          exact (st (i + 1) (by omega)).eqv (fun q q1 q2 => dne q (by omega)) (fun x hx => by unfold pR; rw [X649, hm.1]; exact a5 _ x (Nat.mod_lt _ (by decide)) hm.2 hx)
theorem sub1 {S : Nat → Prop} {a b : fOm} (h : Mod S a b) (hs : ∀ q, S q → sS 1 q) : Mod (sS 1) a b := h.mo hs
theorem addRingW_M {C : fOm} {b : Nat} {pl : Int32} (h : cB C b) : Mod (sS b) C (f_addRingW C b pl) := by
  unfold f_addRingW
  split
  · exact Mod.rf
  · split
    · have n5 := tn_le (n := 5) h.1 rfl
      rename_i c
      obtain ⟨n, hn, en, et, -⟩ := inc5 (N := 5) h.1 (by decide) c
      rw [et]
      exact Mod.wu (begin_M.mo (fun q hq => by have hq : b + 5 + 5 * n ≤ q ∧ q < b + 5 + 5 * n + 5 := hq; show b ≤ q ∧ q < b + 58; omega)) ⟨Nat.le_refl b, by omega⟩
    · exact Mod.rf
theorem addJoinW_M {C : fOm} {b : Nat} {l p l2 p2 : Int32} (h : cB C b) : Mod (sS b) C (f_addJoinW C b l p l2 p2) := by
  unfold f_addJoinW
  split
  · exact Mod.rf
  · split
    · exact Mod.rf
    · split
      · exact Mod.rf
      · split
        · rename_i c
          obtain ⟨n, hn, en, et, -⟩ := inc5 (N := 4) h.2.2 (by decide) c
          rw [et]
          exact Mod.wu (jbegin_M.mo (fun q hq => by have hq : q = b + 54 + n := hq; show b ≤ q ∧ q < b + 58; omega)) ⟨Nat.le_refl b, by omega⟩
        · exact Mod.rf
theorem turnJW_M {C : fOm} {b : Nat} {j m : Int32} (h : cB C b) : Mod (sS b) C (f_turnJW C b j m) := by
  unfold f_turnJW
  split
  · exact Mod.rf
  · rename_i k hk
    obtain ⟨i, hi, -, rfl, -⟩ := joinOf_rg h.2.2.2 hk
    split
    · exact Mod.rf
    · exact Mod.wu Mod.rf ⟨by omega, by omega⟩
theorem lightW_M {C : fOm} {b : Nat} {l p v : Int32} (h : cB C b) : Mod (sS b) C (f_lightW C b l p v) := by
  unfold f_lightW
  split
  · exact Mod.rf
  · rename_i k hk
    obtain ⟨i, hi, -, rfl, -⟩ := ringOf_rg h.1.2 (ringWith_of hk).1
    split
    · exact Mod.rf
    · split
      · exact putIn_M.mo (fun q hq => by have hq : b + 5 + 5 * i < q ∧ q < b + 5 + 5 * i + 5 := hq; show b ≤ q ∧ q < b + 58; omega)
      · exact Mod.rf
theorem RR.h1 {C M : fOm} {T : Nat} (h : RR C M T) : SX (f_hold C 1) 1 (M 648) T := by
  obtain ⟨h1, ⟨n, f, g1, g2, g3, g4, g5, g6, g7, g8⟩, -⟩ := h
  obtain ⟨mi, hmi, es⟩ := g6 n (by omega)
  have en : (C 117 1).toNatClampNeg = n := by rw [g3, nI_clamp (by omega)]
  have hM : Mod (sS (C 118 n).toNatClampNeg) C (f_hold C 1) := by
    unfold f_hold
    rw [en]
    exact scopy_M h1.1.cB (by omega)
  exact h1.eqv (fun q q1 q2 => hM q (by show ¬ ((C 118 n).toNatClampNeg ≤ q ∧ _); omega)) (fun _ _ => rfl)
/-! ===== the calls that change ===== -/
theorem set_R {C M : fOm} {T : Nat} {s v : Int32} (h : RR C M T) : (m_set M s v).1 = f_chSetR (f_hold C 1) 1 s v ∧ RR (f_keepD (f_chSetW (f_hold C 1) 1 s v) (f_chSetR (f_hold C 1) 1 s v)) (m_set M s v).2 (T + 5600) :=
  h.change (by omega) (chSetW_M.mo (fun q hq => by have hq : q = 1 + 1 := hq; show 1 ≤ q ∧ q < 1 + 58; omega)) (fun k => set_D k.1 k.2.1 k.2.2)
theorem loop_R {C M : fOm} {T : Nat} {pl : Int32} (h : RR C M T) : (m_loop M pl).1 = f_addRingR (f_hold C 1) 1 pl ∧ RR (f_keepD (f_addRingW (f_hold C 1) 1 pl) (f_addRingR (f_hold C 1) 1 pl)) (m_loop M pl).2 (T + 5600) :=
  h.change (by omega) (addRingW_M h.h1.1.cB) (fun k => loop_D k.1 k.2.1 k.2.2)
theorem dev_R {C M : fOm} {T : Nat} {l p k o t : Int32} (h : RR C M T) : (m_dev M l p k o t).1 = f_addDevR (f_hold C 1) 1 l p k o t ∧ RR (f_keepD (f_addDevW (f_hold C 1) 1 l p k o t) (f_addDevR (f_hold C 1) 1 l p k o t)) (m_dev M l p k o t).2 (T + 5600) :=
  h.change (by omega) (addDevW_M h.h1.1.cB) (fun k => dev_D k.1 k.2.1 k.2.2)
theorem join_R {C M : fOm} {T : Nat} {l p l2 p2 : Int32} (h : RR C M T) : (m_join M l p l2 p2).1 = f_addJoinR (f_hold C 1) 1 l p l2 p2 ∧ RR (f_keepD (f_addJoinW (f_hold C 1) 1 l p l2 p2) (f_addJoinR (f_hold C 1) 1 l p l2 p2)) (m_join M l p l2 p2).2 (T + 5600) :=
  h.change (by omega) (addJoinW_M h.h1.1.cB) (fun k => join_D k.1 k.2.1 k.2.2)
theorem kIf1 {M : fOm} : m_kIf M 1 = m_keep M := if_neg (by decide)
theorem turn_R {C M : fOm} {T : Nat} {j m : Int32} (h : RR C M T) : (m_tT M j m 1).1 = f_turnJR (f_hold C 1) 1 j m ∧ RR (f_keepD (f_turnJW (f_hold C 1) 1 j m) (f_turnJR (f_hold C 1) 1 j m)) (m_tT M j m 1).2 (T + 5600) :=
  h.change (by omega) (turnJW_M h.h1.1.cB) (fun k => by have := turn_D (j := j) (m := m) (f := 1) k.1 k.2.1 k.2.2; rw [kIf1] at this; exact this)
theorem feed_R {C M : fOm} {T : Nat} {d v : Int32} (h : RR C M T) : (m_tF M d v 1).1 = f_feedR (f_hold C 1) 1 d v ∧ RR (f_keepD (f_feedW (f_hold C 1) 1 d v) (f_feedR (f_hold C 1) 1 d v)) (m_tF M d v 1).2 (T + 5600) :=
  h.change (by omega) ((feedW_M h.h1.1.cB).mo bS_sS) (fun k => by have := feed_D (d := d) (v := v) (f := 1) k.1 k.2.1 k.2.2; rw [kIf1] at this; exact this)
theorem light_R {C M : fOm} {T : Nat} {l p v : Int32} (h : RR C M T) : (m_tL M l p v 1).1 = f_lightR (f_hold C 1) 1 l p v ∧ RR (f_keepD (f_lightW (f_hold C 1) 1 l p v) (f_lightR (f_hold C 1) 1 l p v)) (m_tL M l p v 1).2 (T + 5600) :=
  h.change (by omega) (lightW_M h.h1.1.cB) (fun k => by have := light_D (l := l) (p := p) (v := v) (f := 1) k.1 k.2.1 k.2.2; rw [kIf1] at this; exact this)
theorem ticks_R {C M : fOm} {T : Nat} {t : Int32} (h : RR C M T) (hT : T < 1000000000) : (m_tK M t 1).1 = f_passTR (f_hold C 1) 1 t ∧ RR (f_keepD (f_passTW (f_hold C 1) 1 t) (f_passTR (f_hold C 1) 1 t)) (m_tK M t 1).2 (T + 5600) :=
  h.change (by omega) (passTW_M h.h1.1.cB) (fun k => by have := ticks_D (t := t) (f := 1) k.1 k.2.1 k.2.2 hT; rw [kIf1] at this; exact this)
