/-! ===== the bytes of a number ===== -/
theorem bI {n : Nat} (h : n < 2 ^ 31) : (nI n).toInt = n := Int32.toInt_ofNat_of_lt h
def lgN (c : Int64) : Nat := c.toBitVec.toNat
theorem lgN_lt (c : Int64) : lgN c < 2 ^ 64 := c.toBitVec.isLt
def lgB (c : Int64) (i : Nat) : Nat := lgN c / 256 ^ i % 256
theorem lgB_lt (c : Int64) (i : Nat) : lgB c i < 256 := Nat.mod_lt _ (by decide)
theorem lgN_int (c : Int64) : c.toInt = if 2 * lgN c < 2 ^ 64 then (lgN c : Int) else (lgN c : Int) - (2 ^ 64 : Nat) := BitVec.toInt_eq_toNat_cond c.toBitVec
theorem ushr_n (x : Int64) (k : UInt64) {j : Nat} (hk : k.toNat % 64 = j) : lgN ((x.toUInt64 >>> k).toInt64) = lgN x / 2 ^ j := by
  show (x.toUInt64 >>> k).toNat = _
  rw [UInt64.toNat_shiftRight, hk, Nat.shiftRight_eq_div_pow]
  rfl
theorem re_n (c : Int64) (j : Nat) : lgN (m_re c j) = lgN c / 256 ^ j := by
  induction j with
  | zero => exact (Nat.div_one _).symm
  | succ j ih =>
    show lgN (((m_re c j).toUInt64 >>> ((8 : Int32).toInt64.toUInt64 &&& Int64.toUInt64 63)).toInt64) = _
    rw [ushr_n (j := 8) _ _ (by decide), ih, Nat.div_div_eq_div_mul]
    show lgN c / (256 ^ j * 2 ^ 8) = lgN c / (256 ^ j * 256)
    rfl
theorem and_n (x : Int64) : (x &&& 255).toInt = ((lgN x % 256 : Nat) : Int) := by
  rw [Kit.i64_mask (k := 8) x 255 (by decide) (by decide), lgN_int]
  split <;> omega
theorem by_i (x : Int64) : (x &&& 255).toInt32 = nI (lgN x % 256) := by
  apply Int32.toInt_inj.mp
  have h : lgN x % 256 < 256 := Nat.mod_lt _ (by decide)
  have e := and_n x
  rw [Kit.i32_of_i64 (by rw [e]; omega) (by rw [e]; omega), e, bI (by omega)]
theorem zr (x : Int64) : lg_cmp x 0 = 0 ↔ lgN x = 0 := by
  rw [lg_cmp_eq]
  constructor
  · intro e
    rw [e]
    decide
  · intro e
    apply Int64.toInt_inj.mp
    rw [lgN_int, e]
    decide
theorem zrb (x : Int64) : lg_cmp (x &&& 255) 0 = 0 ↔ lgN x % 256 = 0 := by
  rw [lg_cmp_eq]
  have e := and_n x
  constructor
  · intro h
    rw [h] at e
    have : (0 : Int64).toInt = 0 := by decide
    omega
  · intro h
    apply Int64.toInt_inj.mp
    rw [e, h]
    decide
theorem by_k : ∀ k : Nat, k < 256 → (((nI k).toUInt32 % 65536).toInt32) = nI k := by decide +kernel
theorem sh_k : ∀ j : Nat, j < 8 → ((8 * nI j : Int32).toInt64.toUInt64 &&& Int64.toUInt64 63).toNat % 64 = 8 * j := by decide +kernel
theorem p256 (j : Nat) : 2 ^ (8 * j) = 256 ^ j := by rw [Nat.pow_mul]
theorem signIn_b (c : Int64) {j : Nat} (hj : j < 8) : f_signIn c (nI j) = nI (lgB c j) := by
  unfold f_signIn
  rw [by_i, ushr_n c _ (sh_k j hj), p256]
  exact by_k _ (lgB_lt c j)
theorem sg_k : ∀ n : Nat, n ≤ 8 → ∀ k : Nat, k < n → nI n - 1 - nI k = nI (n - 1 - k) := by decide +kernel
theorem ss_k : ∀ j : Nat, j < 8 → ((((8 * nI j : Int32).toInt64 &&& 63)).toBitVec.smod 64).toNat = 8 * j := by decide +kernel
theorem lgN_and (x : Int64) : lgN x % 256 = (x.toInt % 256).toNat := by
  rw [lgN_int]
  split <;> omega
theorem sg_b (c : Int64) {n k : Nat} (hn : n ≤ 8) (hk : k < n) : m_sg c n k = nI (lgB c (n - 1 - k)) := by
  unfold m_sg
  rw [sg_k n hn k hk, by_i]
  generalize hi : n - 1 - k = i
  have hi8 : i < 8 := by omega
  have e : lgN (c >>> ((8 * nI i : Int32).toInt64 &&& 63)) % 256 = lgB c i := by
    rw [lgN_and, Kit.i64_shr c _ (ss_k i hi8), lgN_int]
    unfold lgB
    have hl := lgN_lt c
    rcases (show i = 0 ∨ i = 1 ∨ i = 2 ∨ i = 3 ∨ i = 4 ∨ i = 5 ∨ i = 6 ∨ i = 7 by omega) with rfl | rfl | rfl | rfl | rfl | rfl | rfl | rfl <;> (split <;> simp only [Nat.reduceMul, Nat.reducePow, Int.reducePow] <;> omega)
  rw [e]
theorem rg_b {b : Nat} (hb : b < 256) : f_btw (nI b) 33 126 = 0 ↔ ¬ (33 ≤ b ∧ b ≤ 126) := by
  have key : ∀ b : Nat, b < 256 → (f_btw (nI b) 33 126 = 0 ↔ ¬ (33 ≤ b ∧ b ≤ 126)) := by decide +kernel
  exact key b hb
theorem pu_si (c : Int64) (n : Nat) : ∀ j, n + j = 8 → ((m_puF c n j = some (f_siF c n j) ∧ (f_siF c n j = 8 ∨ (f_siF c n j < 8 ∧ lgB c (f_siF c n j) = 0))) ∨ (m_puF c n j = none ∧ f_siF c n j < 8 ∧ lgB c (f_siF c n j) ≠ 0)) ∧ ∀ i, j ≤ i → i < f_siF c n j → 33 ≤ lgB c i ∧ lgB c i ≤ 126 := by
  induction n with
  | zero => exact fun j hj => ⟨Or.inl ⟨rfl, Or.inl (by show j = 8; omega)⟩, fun i h1 h2 => absurd (show i < j from h2) (by omega)⟩
  | succ n ih =>
    intro j hj
    have e1 : lgN (m_re c j) % 256 = lgB c j := by rw [re_n]; rfl
    rw [puF_s, siF_s, by_i, signIn_b c (j := j) (by omega), e1]
    by_cases c0 : f_btw (nI (lgB c j)) 33 126 = 0
    · rw [if_pos c0, if_pos c0]
      refine ⟨?_, fun i h1 h2 => absurd h2 (by omega)⟩
      by_cases z : lgB c j = 0
      · rw [if_pos ((zrb _).mpr (e1.trans z))]
        exact Or.inl ⟨rfl, Or.inr ⟨by omega, z⟩⟩
      · rw [if_neg (fun q => z (e1.symm.trans ((zrb _).mp q)))]
        exact Or.inr ⟨rfl, by omega, z⟩
    · have c1 : 33 ≤ lgB c j ∧ lgB c j ≤ 126 := by
        have := (not_congr (rg_b (lgB_lt c j))).mp c0
        omega
      rw [if_neg c0, if_neg c0, if_neg (fun q => by have := e1.symm.trans ((zrb _).mp q); omega)]
      obtain ⟨i1, i2⟩ := ih (j + 1) (by omega)
      refine ⟨i1, fun i h1 h2 => ?_⟩
      by_cases e : i = j
      · rw [e]
        exact c1
      · exact i2 i (by omega) h2
/-- the signs of a put text: how many there are, and what each of them is -/
theorem put_k (c : Int64) : (f_signs c = 0 ∧ ∀ w, m_put w c = (-2, w)) ∨ (∃ n : Nat, 1 ≤ n ∧ n ≤ 8 ∧ f_signs c = nI n ∧ (∀ i, i < n → 33 ≤ lgB c i ∧ lgB c i ≤ 126) ∧ ∀ w, m_put w c = if w 647 8 + nI n ≤ 80 then (m_putW w c n 647 8, m_putW w c n) else (-4, w)) := by
  obtain ⟨h1, h2⟩ := pu_si c 8 0 rfl
  have hs : f_siF c 8 0 = f_si c := rfl
  have hm : m_puF c 8 0 = m_pu c := rfl
  rw [hs] at h1 h2
  rw [hm] at h1
  have h8 := si_le c
  unfold f_signs m_put
  generalize f_si c = s at h1 h2 h8 ⊢
  rcases h1 with ⟨e, h1⟩ | ⟨e, h1, h3⟩
  · rw [e]
    try dsimp only
    rcases h1 with rfl | ⟨h3, h4⟩
    · refine Or.inr ⟨8, by omega, by omega, by rw [if_pos (by decide)], fun i hi => h2 i (by omega) hi, fun w => ?_⟩
      have : lgN (m_re c 8) = 0 := by
        rw [re_n]
        exact Nat.div_eq_of_lt (lgN_lt c)
      rw [if_neg (by decide), if_pos ((zr _).mpr this)]
    · rw [if_neg (show ¬ (8 : Int32) ≤ nI s from nI_ge h3 (by decide))]
      have e2 : lgN ((c.toUInt64 >>> ((8 * nI s).toInt64.toUInt64 &&& Int64.toUInt64 63)).toInt64) = lgN c / 256 ^ s := by rw [ushr_n c _ (sh_k s h3), p256]
      by_cases z : lgN c / 256 ^ s = 0
      · rw [if_pos ((zr _).mpr (e2.trans z))]
        by_cases z0 : s = 0
        · subst z0
          exact Or.inl ⟨rfl, fun w => by rw [if_pos (by decide)]⟩
        · refine Or.inr ⟨s, by omega, h8, rfl, fun i hi => h2 i (by omega) hi, fun w => ?_⟩
          have n0 : ¬ nI s = 0 := fun q => by
            have := congrArg Int32.toInt q
            rw [bI (by omega)] at this
            have e0 : (0 : Int32).toInt = 0 := by decide
            omega
          rw [if_neg n0, if_pos ((zr _).mpr ((re_n c s).trans z))]
      · rw [if_neg (fun q => z (e2.symm.trans ((zr _).mp q)))]
        refine Or.inl ⟨rfl, fun w => ?_⟩
        rw [if_neg (fun q => z ((re_n c s).symm.trans ((zr _).mp q)))]
        split <;> rfl
  · rw [e]
    try dsimp only
    have e2 : lgN ((c.toUInt64 >>> ((8 * nI s).toInt64.toUInt64 &&& Int64.toUInt64 63)).toInt64) = lgN c / 256 ^ s := by rw [ushr_n c _ (sh_k s h1), p256]
    have z : ¬ lgN c / 256 ^ s = 0 := fun q => h3 (by unfold lgB; rw [q])
    rw [if_neg (show ¬ (8 : Int32) ≤ nI s from nI_ge h1 (by decide)), if_neg (fun q => z (e2.symm.trans ((zr _).mp q)))]
    exact Or.inl ⟨rfl, fun w => rfl⟩
/-- putting signs on the pad -/
theorem apL_c {c : Int64} {C : fOm} {n m : Nat} (hn : n ≤ 8) (hs : f_signs c = nI n) (hm : m + n ≤ 80) (e : C 527 1 = nI m) (hB : ∀ i, i < n → 33 ≤ lgB c i ∧ lgB c i ≤ 126) (j : Nat) (hj : j ≤ n) : f_apL c C j 527 1 = nI (m + j) ∧ (∀ i, f_apL c C j 528 i = if m ≤ i ∧ i < m + j then nI (lgB c (n - 1 - (i - m))) else C 528 i) ∧ (∀ q, q ≠ 527 → q ≠ 528 → f_apL c C j q = C q) ∧ ∀ i, i ≠ 1 → f_apL c C j 527 i = C 527 i := by
  induction j with
  | zero => exact ⟨e, fun i => by rw [if_neg (by omega)]; rfl, fun _ _ _ => rfl, fun _ _ => rfl⟩
  | succ j ih =>
    obtain ⟨i1, i2, i3, i4⟩ := ih (by omega)
    have hb := hB (n - 1 - j) (by omega)
    have eS : f_signIn c (f_signs c - 1 - nI j) = nI (lgB c (n - 1 - j)) := by
      rw [hs, sg_k n hn j (by omega), signIn_b c (by omega)]
    have eV : vp_nar .char (nI (lgB c (n - 1 - j))) = nI (lgB c (n - 1 - j)) := by
      have key : ∀ b : Nat, b < 256 → vp_nar .char (nI b) = nI b := by decide +kernel
      exact key _ (lgB_lt c _)
    have eA : f_apL c C (j + 1) = wu (wu (f_apL c C j) 528 (m + j) (nI (lgB c (n - 1 - j)))) 527 1 (nI (m + (j + 1))) := by
      show f_append (f_apL c C j) (f_signIn c (f_signs c - 1 - nI j)) = _
      unfold f_append
      rw [i1, if_neg (show ¬ (80 : Int32) ≤ nI (m + j) from nI_ge (show m + j < 80 by omega) (by decide)), eS, eV, nI_clamp (by omega)]
      try dsimp only
      rw [wu_ne (by decide), i1, nI_1]
      rfl
    rw [eA]
    refine ⟨by rw [wu_i, if_pos rfl], fun i => ?_, fun q q1 q2 => by rw [wu_ne q1, wu_ne q2]; exact i3 q q1 q2, fun i hi => by rw [wu_i, if_neg hi, wu_ne (by decide)]; exact i4 i hi⟩
    rw [wu_ne (by decide), wu_i, i2]
    by_cases c1 : i = m + j
    · rw [if_pos c1, if_pos (by omega), c1, Nat.add_sub_cancel_left]
    · rw [if_neg c1]
      by_cases c2 : m ≤ i ∧ i < m + j
      · rw [if_pos c2, if_pos (by omega)]
      · rw [if_neg c2, if_neg (by omega)]
theorem mapL_c {c : Int64} {M : fOm} {n m : Nat} (hn : n ≤ 8) (hm : m + n ≤ 80) (e : M 647 8 = nI m) (j : Nat) (hj : j ≤ n) : (∀ i, m_apL c n M j 653 i = if m ≤ i ∧ i < m + j then nI (lgB c (n - 1 - (i - m))) else M 653 i) ∧ ∀ q, q ≠ 653 → m_apL c n M j q = M q := by
  induction j with
  | zero => exact ⟨fun i => by rw [if_neg (by omega)]; rfl, fun _ _ => rfl⟩
  | succ j ih =>
    obtain ⟨i2, i3⟩ := ih (by omega)
    have eA : m_apL c n M (j + 1) = wu (m_apL c n M j) 653 (m + j) (nI (lgB c (n - 1 - j))) := by
      show wu (m_apL c n M j) 653 (m_apL c n M j 647 8 + nI j).toNatClampNeg (m_sg c n j) = _
      rw [i3 647 (by decide), e, nI_add, nI_clamp (by omega), sg_b c hn (by omega)]
    rw [eA]
    refine ⟨fun i => ?_, fun q q1 => by rw [wu_ne q1]; exact i3 q q1⟩
    rw [wu_i, i2]
    by_cases c1 : i = m + j
    · rw [if_pos c1, if_pos (by omega), c1, Nat.add_sub_cancel_left]
    · rw [if_neg c1]
      by_cases c2 : m ≤ i ∧ i < m + j
      · rw [if_pos c2, if_pos (by omega)]
      · rw [if_neg c2, if_neg (by omega)]
theorem put_R {C M : fOm} {T : Nat} {c : Int64} (h : RR C M T) : (m_put M c).1 = (f_put C c).1 ∧ RR (f_put C c).2 (m_put M c).2 T := by
  unfold f_put
  rcases put_k c with ⟨k1, k2⟩ | ⟨n, n1, n8, k1, kB, k2⟩
  · rw [if_pos k1, k2]
    exact ⟨rfl, h⟩
  · have n0 : ¬ f_signs c = 0 := fun q => by
      have := congrArg Int32.toInt (k1.symm.trans q)
      rw [bI (by omega)] at this
      have e0 : (0 : Int32).toInt = 0 := by decide
      omega
    rw [if_neg n0, k2]
    obtain ⟨h1, ⟨a, f, g1, g2, g3, g4, g5, g6, g7, g8⟩, h3, m, p1, p2, p3, p4⟩ := id h
    rw [p2, p3, k1, nI_add]
    by_cases c8 : m + n ≤ 80
    · have c8' : nI (m + n) ≤ (80 : Int32) := nI_le (b := 80) c8 (by decide)
      rw [if_pos c8', if_pos c8', nI_clamp (by omega)]
      obtain ⟨a1, a2, a3, a4⟩ := apL_c n8 k1 c8 p2 kB n (Nat.le_refl _)
      obtain ⟨b2, b3⟩ := mapL_c (c := c) n8 c8 p3 n (Nat.le_refl _)
      have eP : m_putW M c n = wu (m_apL c n M n) 647 8 (nI (m + n)) := by
        unfold m_putW
        rw [b3 647 (by decide), p3, nI_add]
      have x7 : ∀ i, i ≠ 8 → m_putW M c n 647 i = M 647 i := fun i hi => by rw [eP, wu_i, if_neg hi, b3 647 (by decide)]
      have xo : ∀ q, q ≠ 647 → q ≠ 653 → m_putW M c n q = M q := fun q q1 q2 => by rw [eP, wu_ne q1, b3 q q2]
      have x8 : m_putW M c n 647 8 = nI (m + n) := by rw [eP, wu_i, if_pos rfl]
      have x3 : ∀ i, m_putW M c n 653 i = if m ≤ i ∧ i < m + n then nI (lgB c (n - 1 - (i - m))) else M 653 i := fun i => by rw [eP, wu_ne (by decide)]; exact b2 i
      refine ⟨by show m_putW M c n 647 8 = f_apL c C n 527 1; rw [x8, a1], ?_⟩
      show RR (f_apL c C n) (m_putW M c n) T
      refine ⟨h1.eqv (fun q q1 q2 => a3 q (by omega) (by omega)) (fun i hi => by rw [xo 648 (by decide) (by decide)]), ⟨a, f, g1, g2, by rw [a3 117 (by decide) (by decide)]; exact g3, (x7 3 (by decide)).trans g4, (x7 2 (by decide)).trans g5, by rw [a3 118 (by decide) (by decide)]; exact g6, by rw [a3 118 (by decide) (by decide)]; exact g7, fun i hi => ?_⟩, fun s hs => ?_, m + n, c8, a1, x8, fun i hi => ?_⟩
      · rw [a3 118 (by decide) (by decide)]
        obtain ⟨m2, hm2, e⟩ := g6 i (by omega)
        exact (g8 i hi).eqv (fun q q1 q2 => a3 q (by omega) (by omega)) (fun x _ => by unfold pR; rw [xo 649 (by decide) (by decide)])
      · rw [a3 526 (by decide) (by decide), xo 651 (by decide) (by decide)]
        exact ⟨(h3 s hs).1, fun c => ((h3 s hs).2 c).eqv (fun q q1 q2 => a3 q (by omega) (by omega)) (fun x _ => by unfold sRw; rw [xo 650 (by decide) (by decide)])⟩
      · rw [a2, x3]
        by_cases c2 : m ≤ i ∧ i < m + n
        · rw [if_pos c2, if_pos c2]
          have hb := kB (n - 1 - (i - m)) (by omega)
          exact ⟨rfl, nI_le (a := 33) hb.1 (by omega), nI_le (b := 126) hb.2 (by decide)⟩
        · rw [if_neg c2, if_neg c2]
          exact p4 i (by omega)
    · have c8' : ¬ nI (m + n) ≤ (80 : Int32) := nI_ge (show 80 < m + n by omega) (by omega)
      rw [if_neg c8', if_neg c8']
      exact ⟨rfl, h⟩
