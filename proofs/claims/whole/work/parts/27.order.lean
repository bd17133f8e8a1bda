/-! ===== an order ===== -/
theorem bn_as {p : fB2} {k e : fOm → fB2} : bn (bn p k) e = bn p fun w => bn (k w) e := by
  by_cases h : p.1 = 0
  · rw [bn_n (p := p) (k := k) h, bn_n (p := p) (k := fun w => bn (k w) e) h]
    exact bn_n rfl
  · rw [bn_p (p := p) (k := k) h, bn_p (p := p) (k := fun w => bn (k w) e) h]
theorem nz1 : ¬ (1 : Int32) = 0 := by decide
theorem bn_1 {W : fOm} {k : fOm → fB2} : bn ((1, W) : fB2) k = k W := bn_p nz1
def f_roB (c : Int32) (w : fOm) : fB2 := if c = 102 then f_roF w else if c = 106 then f_roJ w else if c = 108 then f_roL w else bn (f_rn w) fun w => (1, w)
theorem roB_f {w : fOm} : f_roB 102 w = bn (bn (bn (f_rn w) fun w => f_take w 58) f_rv) fun w => (1, w) := by
  rw [bn_as, bn_as]
  exact if_pos rfl
theorem roB_j {w : fOm} : f_roB 106 w = bn (bn (bn (f_rn w) fun w => f_take w 61) f_rm) fun w => (1, w) := by
  rw [bn_as, bn_as]
  unfold f_roB
  rw [if_neg (by decide), if_pos rfl]
  rfl
theorem roB_l {w : fOm} : f_roB 108 w = bn (bn (bn (bn (bn (f_rn w) fun w => f_take w 58) f_rn) fun w => f_take w 61) f_rn) fun w => (1, w) := by
  rw [bn_as, bn_as, bn_as, bn_as]
  unfold f_roB
  rw [if_neg (by decide), if_neg (by decide), if_pos rfl]
  rfl
theorem roB_t {w : fOm} : f_roB 116 w = bn (f_rn w) fun w => (1, w) := by
  unfold f_roB
  rw [if_neg (by decide), if_neg (by decide), if_neg (by decide)]
theorem S1.one {g : Nat → Nat} {m b : Nat} {r : fB2} {X : fOm} (h : S1 g m b r X) : bn r (fun w => (1, w)) = r := by
  have one : r.1 = 1 → bn r (fun w => (1, w)) = r := fun q => by
    rw [bn_p (p := r) (by rw [q]; exact nz1), ← q]
  have zero : r.1 = 0 → bn r (fun w => (1, w)) = r := fun q => by
    rw [bn_n (p := r) q, ← q]
  rcases h with ⟨q, -⟩ | ⟨-, -, p, -, -, -, -, q | ⟨q, -⟩⟩
  · exact one q
  · exact zero q
  · exact one q
theorem val_S {g : Nat → Nat} {m b : Nat} {r : fB2} {X : fOm} (h : S0 g m b r X) : S1 g m b (bn r f_rv) (m_tl (m_tn X)) := by
  have h2 := num_S h
  rcases h with ⟨r1, hg⟩ | ⟨r0, hb⟩
  · rw [bn_p (p := r) (k := f_rv) (by rw [r1]; exact nz1)]
    exact val_F 80 81 r.2 X (by omega) hg (fun c _ _ => by have := hg.1.1; omega)
  · rw [bn_n (p := r) (k := f_rv) r0]
    rw [bn_n (p := r) (k := f_rn) r0] at h2
    rcases h2 with ⟨q, -⟩ | hB
    · exact absurd q (show ¬ (0 : Int32) = 1 by decide)
    · unfold m_tl
      rw [tl_w 81 (by rw [hB.2.2.choose_spec.2.2.2.1]; decide)]
      exact Or.inr hB
abbrev isL (c : Int32) : Prop := c = 102 ∨ c = 106 ∨ c = 108 ∨ c = 116
theorem roB_S {g : Nat → Nat} {m b : Nat} {W X : fOm} {c : Int32} (hc : isL c) (h : GD g m b W X) : S1 g m b (f_roB c W) (m_toB c X) := by
  have n1 : S1 g m b (f_rn W) (m_tn X) := by
    have := num_S (r := ((1, W) : fB2)) (Or.inl ⟨rfl, h⟩)
    rw [bn_1] at this
    exact this
  rcases hc with rfl | rfl | rfl | rfl
  · have v := val_S (take_S (c := 58) (by decide) (by unfold dg; omega) n1)
    have e := v.one
    rw [show f_roB 102 W = _ from roB_f.trans e, show m_toB 102 X = m_tl (m_tn (m_ts (m_tn X) 58)) from if_pos rfl]
    exact v
  · have v := (mode_S (take_S (c := 61) (by decide) (by unfold dg; omega) n1)).s1
    have e := v.one
    rw [show f_roB 106 W = _ from roB_j.trans e, show m_toB 106 X = m_tm (m_ts (m_tn X) 61) by unfold m_toB; rw [if_neg (by decide), if_pos rfl]]
    exact v
  · have v := num_S (take_S (c := 61) (by decide) (by unfold dg; omega) (num_S (take_S (c := 58) (by decide) (by unfold dg; omega) n1)))
    have e := v.one
    rw [show f_roB 108 W = _ from roB_l.trans e, show m_toB 108 X = m_tn (m_ts (m_tn (m_ts (m_tn X) 58)) 61) by unfold m_toB; rw [if_neg (by decide), if_neg (by decide), if_pos rfl]]
    exact v
  · have e := n1.one
    rw [show f_roB 116 W = _ from roB_t.trans e, show m_toB 116 X = m_tn X by unfold m_toB; rw [if_neg (by decide), if_neg (by decide), if_neg (by decide), if_pos rfl]]
    exact n1
/-! what the class's reader keeps -/
def RS (P : fOm → Prop) : Prop := (∀ w v, P w → P (wu w 529 1 v)) ∧ ∀ w n, P w → P (f_keep w n).2
theorem rs_take {P : fOm → Prop} (h : RS P) {w : fOm} {c : Int32} (k : P w) : P (f_take w c).2 := by
  unfold f_take
  split
  · exact h.1 _ _ k
  · exact k
theorem rs_rnL {P : fOm → Prop} (h : RS P) (f : Nat) : ∀ (n : Int32) (w : fOm), P w → P (f_rnL f n w).2 := by
  induction f with
  | zero => exact fun _ _ k => k
  | succ f ih =>
    intro n w k
    show P (if n ≤ 0 then (n, w) else if f_digit w < 0 then (n, w) else f_rnL f (n * 10 + f_digit w) (f_nx w)).2
    split
    · exact k
    · split
      · exact k
      · exact ih _ _ (h.1 _ _ k)
theorem rs_rn {P : fOm → Prop} (h : RS P) {w : fOm} (k : P w) : P (f_rn w).2 := by
  unfold f_rn
  split
  · exact h.2 _ _ (rs_rnL h 2 _ _ (h.1 _ _ k))
  · exact k
theorem rs_rm {P : fOm → Prop} (h : RS P) {w : fOm} (k : P w) : P (f_rm w).2 := by
  unfold f_rm
  split
  · exact k
  · exact h.2 _ _ (h.1 _ _ k)
theorem rs_rvF {P : fOm → Prop} (h : RS P) (n : Nat) : ∀ w : fOm, P w → P (f_rvF n w).2 := by
  induction n with
  | zero => exact fun _ k => k
  | succ n ih =>
    intro w k
    have k2 : P (f_rn w).2 := rs_rn h k
    rw [rvF_s]
    generalize f_rn w = r at k2 ⊢
    by_cases c : r.1 = 0
    · rw [if_pos c]
      exact k2
    · rw [if_neg c]
      have k3 : P (f_take r.2 44).2 := rs_take h k2
      generalize f_take r.2 44 = r2 at k3 ⊢
      by_cases c2 : r2.1 = 0
      · rw [if_pos c2]
        exact k3
      · rw [if_neg c2]
        exact ih _ k3
theorem rs_bn {P : fOm → Prop} {p : fB2} {k : fOm → fB2} (hp : P p.2) (hk : ∀ w, P w → P (k w).2) : P (bn p k).2 := by
  unfold bn
  split
  · exact hp
  · exact hk _ hp
theorem rs_roB {P : fOm → Prop} (h : RS P) {c : Int32} {w : fOm} (k : P w) : P (f_roB c w).2 := by
  unfold f_roB
  split
  · rw [roF_e]
    exact rs_bn (rs_rn h k) fun w k => rs_bn (rs_take h k) fun w k => rs_bn (rs_rvF h 80 w k) fun w k => k
  · split
    · rw [roJ_e]
      exact rs_bn (rs_rn h k) fun w k => rs_bn (rs_take h k) fun w k => rs_bn (rs_rm h k) fun w k => k
    · split
      · rw [roL_e]
        exact rs_bn (rs_rn h k) fun w k => rs_bn (rs_take h k) fun w k => rs_bn (rs_rn h k) fun w k => rs_bn (rs_take h k) fun w k => rs_bn (rs_rn h k) fun w k => k
      · exact rs_bn (rs_rn h k) fun w k => k
/-- how many numbers, and the first of them -/
def CK (H : Nat → Int32) (b : Nat) (w : fOm) : Prop := ∃ c : Nat, w 529 4 = nI c ∧ b ≤ c ∧ c ≤ 80 ∧ ∀ i, i < b → w 530 i = H i
theorem ck_RS {H : Nat → Int32} {b : Nat} : RS (CK H b) := by
  refine ⟨fun w v ⟨c, h1, h2, h3, h4⟩ => ⟨c, by rw [wu_i, if_neg (by decide)]; exact h1, h2, h3, fun i hi => by rw [wu_ne (by decide)]; exact h4 i hi⟩, fun w n ⟨c, h1, h2, h3, h4⟩ => ?_⟩
  unfold f_keep
  split
  · rename_i q
    rw [h1] at q
    have hc : c < 80 := by
      have := Int32.lt_iff_toInt_lt.mp q
      rw [bI (by omega), show (80 : Int32).toInt = 80 by decide] at this
      omega
    refine ⟨c + 1, ?_, by omega, by omega, fun i hi => ?_⟩
    · show wu (wu w 530 (w 529 4).toNatClampNeg n) 529 4 (wu w 530 (w 529 4).toNatClampNeg n 529 4 + 1) 529 4 = _
      rw [wu_i, if_pos rfl, wu_ne (by decide), h1, nI_1]
    · show wu (wu w 530 (w 529 4).toNatClampNeg n) 529 4 (wu w 530 (w 529 4).toNatClampNeg n 529 4 + 1) 530 i = _
      rw [wu_ne (by decide), wu_i, h1, nI_clamp (by omega), if_neg (by omega)]
      exact h4 i hi
  · exact ⟨c, h1, h2, h3, h4⟩
/-- all else -/
def PK (w0 w : fOm) : Prop := (∀ q, q ≠ 529 → q ≠ 530 → w q = w0 q) ∧ ∀ i, i ≠ 1 → i ≠ 4 → w 529 i = w0 529 i
theorem PK.rf {w : fOm} : PK w w := ⟨fun _ _ _ => rfl, fun _ _ _ => rfl⟩
theorem PK.tr {a b c : fOm} (h : PK a b) (k : PK b c) : PK a c := ⟨fun q x y => (k.1 q x y).trans (h.1 q x y), fun i x y => (k.2 i x y).trans (h.2 i x y)⟩
theorem pk_RS {w0 : fOm} : RS (PK w0) := by
  refine ⟨fun w v h => ⟨fun q x y => (wu_ne x).trans (h.1 q x y), fun i x y => by rw [wu_i, if_neg x]; exact h.2 i x y⟩, fun w n h => ?_⟩
  unfold f_keep
  split
  · refine ⟨fun q x y => ?_, fun i x y => ?_⟩
    · show wu (wu w 530 (w 529 4).toNatClampNeg n) 529 4 (wu w 530 (w 529 4).toNatClampNeg n 529 4 + 1) q = _
      rw [wu_ne x, wu_ne y]
      exact h.1 q x y
    · show wu (wu w 530 (w 529 4).toNatClampNeg n) 529 4 (wu w 530 (w 529 4).toNatClampNeg n 529 4 + 1) 529 i = _
      rw [wu_i, if_neg y, wu_ne (by decide)]
      exact h.2 i x y
  · exact h
def KE (n : Nat) (r : fB2) : Prop := r.1 = 0 ∨ r.2 529 4 = nI n
theorem KE.bn {n n2 : Nat} {r : fB2} {k : fOm → fB2} (h : KE n r) (hk : ∀ w, w 529 4 = nI n → KE n2 (k w)) : KE n2 (bn r k) := by
  by_cases q : r.1 = 0
  · rw [bn_n (p := r) q]
    exact Or.inl rfl
  · rw [bn_p (p := r) q]
    exact hk _ (h.resolve_left q)
theorem ke_tk {n : Nat} {w : fOm} {c : Int32} (h : w 529 4 = nI n) : KE n (f_take w c) := by
  refine Or.inr ?_
  unfold f_take
  split
  · show wu w 529 1 (w 529 1 + 1) 529 4 = _
    rw [wu_i, if_neg (by decide)]
    exact h
  · exact h
theorem ke_kp {n : Nat} {w : fOm} {v : Int32} (h : w 529 4 = nI n) : KE (n + 1) (f_keep w v) := by
  unfold f_keep
  split
  · refine Or.inr ?_
    show wu (wu w 530 (w 529 4).toNatClampNeg v) 529 4 (wu w 530 (w 529 4).toNatClampNeg v 529 4 + 1) 529 4 = _
    rw [wu_i, if_pos rfl, wu_ne (by decide), h, nI_1]
  · exact Or.inl rfl
theorem ke_rn {n : Nat} {w : fOm} (h : w 529 4 = nI n) : KE (n + 1) (f_rn w) := by
  by_cases q : (f_rn w).1 = 0
  · exact Or.inl q
  · exact Or.inr (by rw [rn_c q, h, nI_1])
theorem ke_rm {n : Nat} {w : fOm} (h : w 529 4 = nI n) : KE (n + 1) (f_rm w) := by
  unfold f_rm
  split
  · exact Or.inl rfl
  · refine ke_kp ?_
    unfold f_nx
    rw [wu_i, if_neg (by decide)]
    exact h
theorem ke_one {n : Nat} {w : fOm} (h : w 529 4 = nI n) : KE n ((1, w) : fB2) := Or.inr h
theorem roB_n {c : Int32} {W : fOm} (hc : isL c) (h0 : W 529 4 = nI 0) (h1 : (f_roB c W).1 = 1) : ∃ n : Nat, (f_roB c W).2 529 4 = nI n ∧ 1 ≤ n ∧ n ≤ 80 ∧ (c = 106 → n = 2) ∧ (c = 108 → n = 3) := by
  have k1 : KE 1 (f_rn W) := ke_rn h0
  have ex : ∀ {n : Nat} {r : fB2}, KE n r → r.1 = 1 → r.2 529 4 = nI n := fun h e => h.resolve_left (by rw [e]; exact nz1)
  rcases hc with rfl | rfl | rfl | rfl
  · rw [roB_f] at h1 ⊢
    have k2 := k1.bn (k := fun w => f_take w 58) (fun w h => ke_tk h)
    generalize (bn (f_rn W) fun w => f_take w 58) = r2 at k2 h1 ⊢
    rcases k2 with z | z
    · rw [bn_n (p := r2) (k := f_rv) z, bn_n (p := ((0, r2.2) : fB2)) rfl] at h1
      exact absurd h1 (show ¬ (0 : Int32) = 1 by decide)
    · have ck : CK (r2.2 530) 1 r2.2 := ⟨1, z, Nat.le_refl 1, by decide, fun _ _ => rfl⟩
      have ck2 : CK (r2.2 530) 1 (bn (bn r2 f_rv) fun w => (1, w)).2 := rs_bn (rs_bn ck fun w k => rs_rvF ck_RS 80 w k) fun w k => k
      obtain ⟨n, a1, a2, a3, -⟩ := ck2
      exact ⟨n, a1, a2, a3, fun q => absurd q (by decide), fun q => absurd q (by decide)⟩
  · rw [roB_j] at h1 ⊢
    have k2 := ((k1.bn (k := fun w => f_take w 61) (fun w h => ke_tk h)).bn (k := f_rm) (fun w h => ke_rm h)).bn (k := fun w => (1, w)) (fun w h => ke_one h)
    exact ⟨2, ex k2 h1, by decide, by decide, fun _ => rfl, fun q => absurd q (by decide)⟩
  · rw [roB_l] at h1 ⊢
    have k2 := ((((k1.bn (k := fun w => f_take w 58) (fun w h => ke_tk h)).bn (k := f_rn) (fun w h => ke_rn h)).bn (k := fun w => f_take w 61) (fun w h => ke_tk h)).bn (k := f_rn) (fun w h => ke_rn h)).bn (k := fun w => (1, w)) (fun w h => ke_one h)
    exact ⟨3, ex k2 h1, by decide, by decide, fun q => absurd q (by decide), fun _ => rfl⟩
  · rw [roB_t] at h1 ⊢
    have k2 := k1.bn (k := fun w => (1, w)) (fun w h => ke_one h)
    exact ⟨1, ex k2 h1, by decide, by decide, fun q => absurd q (by decide), fun q => absurd q (by decide)⟩
/-- the reference's older numbers stay -/
theorem toB_656 {g : Nat → Nat} {m b : Nat} {W X : fOm} {c : Int32} (hc : isL c) (h : GD g m b W X) (hn : m_toB c X 647 10 = 0) : ∀ i, i < b → m_toB c X 656 i = X 656 i := by
  obtain ⟨t1, t2, p, c0, h1, h2, h3, h4, h5, h6, h7, h8⟩ := h
  have hm := t1.1
  let W2 : fOm := fun q => if q = 530 then X 656 else if q = 529 then (fun i => if i = 4 then nI (b + c0) else W 529 i) else W q
  have G : GD g m 0 W2 X := ⟨t1.eq rfl rfl, t2, p, b + c0, h1, by omega, h3, h4, h5, rfl, by rw [Nat.zero_add]; exact h7, fun i _ => by rw [Nat.zero_add]; rfl⟩
  have ck : CK (X 656) b W2 := ⟨b + c0, rfl, by omega, by omega, fun _ _ => rfl⟩
  have ck2 := rs_roB (c := c) ck_RS ck
  rcases roB_S hc G with ⟨-, -, -, p2, c2, k1, k2, k3, k4, k5, k6, k7, k8⟩ | ⟨-, -, p2, k1, k2, k3, k4, -⟩
  · obtain ⟨n, a1, a2, a3, a4⟩ := ck2
    have e := nI_eqN (by omega) (by omega) (a1.symm.trans k6)
    intro i hi
    have := k8 i (by omega)
    rw [Nat.zero_add] at this
    rw [← this]
    exact a4 i hi
  · rw [k4] at hn
    exact absurd hn nz1
theorem ro_cases {g : Nat → Nat} {m p : Nat} {W : fOm} (t1 : TC W g m) (hp : p ≤ m) (e1 : W 529 1 = nI p) : ((g p = 102 ∨ g p = 106 ∨ g p = 108 ∨ g p = 116) ∧ f_ro W = f_roB (nI (g p)) (wu (f_r0 W) 529 1 (nI (p + 1)))) ∨ (¬ (g p = 102 ∨ g p = 106 ∨ g p = 108 ∨ g p = 116) ∧ f_ro W = (0, f_r0 W)) := by
  have s0 : f_r0 W 529 1 = nI p := by
    unfold f_r0
    rw [wu_i, if_neg (by decide), wu_i, if_neg (by decide)]
    exact e1
  have t0 : TC (f_r0 W) g m := t1.eq (by unfold f_r0; rw [wu_ne (by decide), wu_ne (by decide)]) (by unfold f_r0; rw [wu_ne (by decide), wu_ne (by decide)])
  have tk : ∀ c : Nat, c ≤ 126 → f_take (f_r0 W) (nI c) = if g p = c then (1, wu (f_r0 W) 529 1 (nI (p + 1))) else (0, f_r0 W) := fun c hc => by
    unfold f_take
    rw [t0.sg hp s0, s0, nI_1]
    by_cases q : g p = c
    · rw [if_pos q, if_pos (by rw [q])]
    · rw [if_neg q, if_neg (fun z => q (nI_eqN (by have := t1.g p; omega) (by omega) z))]
  have k102 : f_take (f_r0 W) 102 = _ := tk 102 (by decide)
  have k106 : f_take (f_r0 W) 106 = _ := tk 106 (by decide)
  have k108 : f_take (f_r0 W) 108 = _ := tk 108 (by decide)
  have k116 : f_take (f_r0 W) 116 = _ := tk 116 (by decide)
  show _ ∧ bo (f_take (f_r0 W) 102) f_roF (fun w => bo (f_take w 106) f_roJ fun w => bo (f_take w 108) f_roL f_roT) = _ ∨ _ ∧ bo (f_take (f_r0 W) 102) f_roF (fun w => bo (f_take w 106) f_roJ fun w => bo (f_take w 108) f_roL f_roT) = _
  rw [k102]
  by_cases c1 : g p = 102
  · rw [if_pos c1, bo_p (show ¬ ((1, wu (f_r0 W) 529 1 (nI (p + 1))) : fB2).1 = 0 from nz1), c1]
    exact Or.inl ⟨Or.inl rfl, (if_pos rfl : f_roB 102 _ = _).symm⟩
  · rw [if_neg c1, bo_n (show ((0, f_r0 W) : fB2).1 = 0 from rfl)]
    try dsimp only
    rw [k106]
    by_cases c2 : g p = 106
    · rw [if_pos c2, bo_p (show ¬ ((1, wu (f_r0 W) 529 1 (nI (p + 1))) : fB2).1 = 0 from nz1), c2]
      refine Or.inl ⟨Or.inr (Or.inl rfl), ?_⟩
      show _ = f_roB 106 _
      unfold f_roB
      rw [if_neg (by decide), if_pos rfl]
    · rw [if_neg c2, bo_n (show ((0, f_r0 W) : fB2).1 = 0 from rfl)]
      try dsimp only
      rw [k108]
      by_cases c3 : g p = 108
      · rw [if_pos c3, bo_p (show ¬ ((1, wu (f_r0 W) 529 1 (nI (p + 1))) : fB2).1 = 0 from nz1), c3]
        refine Or.inl ⟨Or.inr (Or.inr (Or.inl rfl)), ?_⟩
        show _ = f_roB 108 _
        unfold f_roB
        rw [if_neg (by decide), if_neg (by decide), if_pos rfl]
      · rw [if_neg c3, bo_n (show ((0, f_r0 W) : fB2).1 = 0 from rfl)]
        try dsimp only
        rw [roT_e, k116]
        by_cases c4 : g p = 116
        · rw [if_pos c4, bn_1, c4]
          exact Or.inl ⟨Or.inr (Or.inr (Or.inr rfl)), (show f_roB 116 _ = _ from roB_t).symm⟩
        · rw [if_neg c4, bn_n (p := ((0, f_r0 W) : fB2)) rfl]
          exact Or.inr ⟨fun q => by rcases q with q | q | q | q <;> contradiction, rfl⟩
/-- an order that both read -/
def OG (g : Nat → Nat) (m k b : Nat) (r : fB2) (Y : fOm) : Prop := r.1 = 1 ∧ TC r.2 g m ∧ TM Y g m ∧ ∃ p c : Nat, p ≤ m ∧ b + c ≤ p ∧ 1 ≤ c ∧ r.2 529 1 = nI p ∧ Y 647 9 = nI p ∧ Y 647 10 = 0 ∧ Y 647 11 = nI (k + 1) ∧ Y 647 12 = nI (b + c) ∧ r.2 529 4 = nI c ∧ r.2 529 2 = Y 654 k ∧ isL (Y 654 k) ∧ Y 655 k = nI b ∧ Y 655 (k + 1) = nI (b + c) ∧ (∀ i, i < c → r.2 530 i = Y 656 (b + i)) ∧ (Y 654 k = 106 → c = 2) ∧ (Y 654 k = 108 → c = 3)
def OF (k b : Nat) (X Y : fOm) : Prop := (∀ i, i ≠ k → Y 654 i = X 654 i) ∧ (∀ i, i ≠ k → i ≠ k + 1 → Y 655 i = X 655 i) ∧ ∀ i, i < b → Y 656 i = X 656 i
theorem ro_S {g : Nat → Nat} {m k b p a : Nat} {W X : fOm} (t1 : TC W g m) (t2 : TM X g m) (hp : p ≤ m) (hb : b ≤ p) (iv : IV X k a) (hk : k < 28) (e1 : W 529 1 = nI p) (e2 : X 647 9 = nI p) (e3 : X 647 10 = 0) (e5 : X 647 12 = nI b) : (OG g m k b (f_ro W) (m_to X) ∧ OF k b X (m_to X) ∧ g p ≠ 59) ∨ BD g m (f_ro W) (m_to X) := by
  have hm := t1.1
  have hnx : m_nx X = nI (g p) := t2.nx hp e2
  have e4 : X 647 11 = nI k := iv.1
  have z2 : f_r0 W 529 2 = nI (g p) := by
    unfold f_r0
    rw [wu_i, if_neg (by decide), wu_i, if_pos rfl]
    exact t1.sg hp e1
  have z1 : f_r0 W 529 1 = nI p := by
    unfold f_r0
    rw [wu_i, if_neg (by decide), wu_i, if_neg (by decide)]
    exact e1
  have z4 : f_r0 W 529 4 = nI 0 := by
    unfold f_r0
    rw [wu_i, if_pos rfl]
    rfl
  have z0 : TC (f_r0 W) g m := t1.eq (by unfold f_r0; rw [wu_ne (by decide), wu_ne (by decide)]) (by unfold f_r0; rw [wu_ne (by decide), wu_ne (by decide)])
  have m0 : m_to0 X = wu (wu X 647 9 (nI (p + 1))) 655 k (nI b) := by
    unfold m_to0
    try dsimp only
    rw [e2, nI_1, show wu X 647 9 (nI (p + 1)) 647 11 = nI k by rw [wu_i, if_neg (by decide), e4], show wu X 647 9 (nI (p + 1)) 647 12 = nI b by rw [wu_i, if_neg (by decide), e5], nI_clamp (by omega)]
  have o647 : ∀ i, i ≠ 9 → m_to0 X 647 i = X 647 i := fun i hi => by rw [m0, wu_ne (by decide), wu_i, if_neg hi]
  have o9 : m_to0 X 647 9 = nI (p + 1) := by rw [m0, wu_ne (by decide), wu_i, if_pos rfl]
  have o654 : m_to0 X 654 = X 654 := by rw [m0, wu_ne (by decide), wu_ne (by decide)]
  have o656 : m_to0 X 656 = X 656 := by rw [m0, wu_ne (by decide), wu_ne (by decide)]
  have o655 : ∀ i, i ≠ k → m_to0 X 655 i = X 655 i := fun i hi => by rw [m0, wu_i, if_neg hi, wu_ne (by decide)]
  have o655k : m_to0 X 655 k = nI b := by rw [m0, wu_i, if_pos rfl]
  have oT : TM (m_to0 X) g m := t2.eq (o647 8 (by decide)) (by rw [m0, wu_ne (by decide), wu_ne (by decide)])
  rcases ro_cases t1 hp e1 with ⟨hc, er⟩ | ⟨hc, er⟩
  · have hlt := t1.lt (i := p) (by omega)
    have c32 : isL (nI (g p)) := by rcases hc with q | q | q | q <;> (rw [q]; decide)
    have eC : EC (f_r0 W) (wu (f_r0 W) 529 1 (nI (p + 1))) (p + 1) := EC.w
    have w4 : wu (f_r0 W) 529 1 (nI (p + 1)) 529 4 = nI 0 := (eC.2.1 4 (by decide)).trans z4
    have hG : GD g m b (wu (f_r0 W) 529 1 (nI (p + 1))) (m_to0 X) := ⟨eC.T z0, oT, p + 1, 0, hlt, by omega, eC.2.2, o9, (o647 10 (by decide)).trans e3, w4, (o647 12 (by decide)).trans e5, fun i hi => absurd hi (by omega)⟩
    have hS := roB_S c32 hG
    have hI := toB_IV iv e3
    rw [hnx] at hI
    have hF : FS pS (m_to0 X) (m_toB (nI (g p)) (m_to0 X)) := toB_F
    have hN := roB_n c32 w4
    have hK := toB_656 c32 hG
    have h2 : PK (wu (f_r0 W) 529 1 (nI (p + 1))) (f_roB (nI (g p)) (wu (f_r0 W) 529 1 (nI (p + 1)))).2 := rs_roB pk_RS PK.rf
    have w2 : wu (f_r0 W) 529 1 (nI (p + 1)) 529 2 = nI (g p) := (eC.2.1 2 (by decide)).trans z2
    rw [er]
    unfold m_to
    rw [hnx]
    generalize m_toB (nI (g p)) (m_to0 X) = w at hS hI hF hK ⊢
    generalize f_roB (nI (g p)) (wu (f_r0 W) 529 1 (nI (p + 1))) = r at hS hN h2 ⊢
    rcases hS with ⟨r1, s1, s2, p2, c, h1, h2', h3, h4, h5, h6, h7, h8⟩ | hB
    · have o : w 647 11 = nI k := hI.1.1
      have eE : m_toE (nI (g p)) w = wu (wu (wu w 654 k (nI (g p))) 647 11 (nI (k + 1))) 655 (k + 1) (nI (b + c)) := by
        unfold m_toE
        rw [if_pos h5]
        try dsimp only
        rw [o, nI_clamp (by omega), show wu w 654 k (nI (g p)) 647 11 = nI k by rw [wu_ne (by decide)]; exact o, nI_1, show wu (wu w 654 k (nI (g p))) 647 11 (nI (k + 1)) 647 11 = nI (k + 1) by rw [wu_i, if_pos rfl], nI_clamp (by omega), show wu (wu w 654 k (nI (g p))) 647 11 (nI (k + 1)) 647 12 = nI (b + c) by rw [wu_i, if_neg (by decide), wu_ne (by decide)]; exact h7]
      rw [eE]
      obtain ⟨n, n1, n2, n3, n4, n5⟩ := hN r1
      have en := nI_eqN (by omega) (by omega) (n1.symm.trans h6)
      have y647 : ∀ i, i ≠ 11 → wu (wu (wu w 654 k (nI (g p))) 647 11 (nI (k + 1))) 655 (k + 1) (nI (b + c)) 647 i = w 647 i := fun i hi => by rw [wu_ne (by decide), wu_i, if_neg hi, wu_ne (by decide)]
      have y654 : ∀ i, wu (wu (wu w 654 k (nI (g p))) 647 11 (nI (k + 1))) 655 (k + 1) (nI (b + c)) 654 i = if i = k then nI (g p) else w 654 i := fun i => by rw [wu_ne (by decide), wu_ne (by decide), wu_i]
      have y655 : ∀ i, wu (wu (wu w 654 k (nI (g p))) 647 11 (nI (k + 1))) 655 (k + 1) (nI (b + c)) 655 i = if i = k + 1 then nI (b + c) else w 655 i := fun i => by rw [wu_i, wu_ne (by decide), wu_ne (by decide)]
      have y656 : wu (wu (wu w 654 k (nI (g p))) 647 11 (nI (k + 1))) 655 (k + 1) (nI (b + c)) 656 = w 656 := by rw [wu_ne (by decide), wu_ne (by decide), wu_ne (by decide)]
      have y653 : wu (wu (wu w 654 k (nI (g p))) 647 11 (nI (k + 1))) 655 (k + 1) (nI (b + c)) 653 = w 653 := by rw [wu_ne (by decide), wu_ne (by decide), wu_ne (by decide)]
      have y11 : wu (wu (wu w 654 k (nI (g p))) 647 11 (nI (k + 1))) 655 (k + 1) (nI (b + c)) 647 11 = nI (k + 1) := by rw [wu_ne (by decide), wu_i, if_pos rfl]
      generalize wu (wu (wu w 654 k (nI (g p))) 647 11 (nI (k + 1))) 655 (k + 1) (nI (b + c)) = Y at y647 y654 y655 y656 y653 y11 ⊢
      have yk : Y 654 k = nI (g p) := by rw [y654, if_pos rfl]
      subst en
      refine Or.inl ⟨⟨r1, s1, s2.eq (y647 8 (by decide)) y653, p2, n, h1, h2', n2, h3, (y647 9 (by decide)).trans h4, (y647 10 (by decide)).trans h5, y11, (y647 12 (by decide)).trans h7, h6, ?_, ?_, ?_, ?_, ?_, ?_, ?_⟩, ⟨?_, ?_, ?_⟩, by omega⟩
      · rw [yk, h2.2 2 (by decide) (by decide)]
        exact w2
      · rw [yk]
        exact c32
      · rw [y655, if_neg (by omega), hF.1 655 (by decide) (by decide)]
        exact o655k
      · rw [y655, if_pos rfl]
      · rw [y656]
        exact h8
      · rw [yk]
        exact n4
      · rw [yk]
        exact n5
      · intro i hi
        rw [y654, if_neg hi, hF.1 654 (by decide) (by decide), o654]
      · intro i hi hi2
        rw [y655, if_neg hi2, hF.1 655 (by decide) (by decide), o655 i hi]
      · intro i hi
        rw [y656, hK h5 i hi, o656]
    · have e10 : ¬ w 647 10 = 0 := by
        rw [hB.2.2.choose_spec.2.2.2.1]
        exact nz1
      rw [show m_toE (nI (g p)) w = w from if_neg e10]
      exact Or.inr hB
  · have hg := t1.g p
    have ne : ∀ c : Nat, c ≤ 126 → g p ≠ c → ¬ nI (g p) = nI c := fun c hc2 q z => q (nI_eqN (by omega) (by omega) z)
    have q1 : ¬ nI (g p) = 102 := ne 102 (by decide) (fun z => hc (Or.inl z))
    have q2 : ¬ nI (g p) = 106 := ne 106 (by decide) (fun z => hc (Or.inr (Or.inl z)))
    have q3 : ¬ nI (g p) = 108 := ne 108 (by decide) (fun z => hc (Or.inr (Or.inr (Or.inl z))))
    have q4 : ¬ nI (g p) = 116 := ne 116 (by decide) (fun z => hc (Or.inr (Or.inr (Or.inr z))))
    have eY : m_to X = wu (wu (m_to0 X) 647 9 (nI p)) 647 10 1 := by
      have eB : m_toB (nI (g p)) (m_to0 X) = wu (wu (m_to0 X) 647 9 (nI p)) 647 10 1 := by
        unfold m_toB m_toX
        rw [if_neg q1, if_neg q2, if_neg q3, if_neg q4, o9, nI_pred]
      unfold m_to
      rw [hnx, eB]
      unfold m_toE
      rw [if_neg (by rw [wu_i, if_pos rfl]; exact nz1)]
    rw [eY, er]
    exact Or.inr ⟨z0, oT.eq (by rw [wu_i, if_neg (by decide), wu_i, if_neg (by decide)]) (by rw [wu_ne (by decide), wu_ne (by decide)]), p, hp, z1, by rw [wu_i, if_neg (by decide), wu_i, if_pos rfl], by rw [wu_i, if_pos rfl], Or.inl rfl⟩
