/-! ===== the whole text ===== -/
def qY (M : fOm) (j : Nat) : fOm := m_ftI (m_ft1 M) j
def qX (M : fOm) : Nat → fOm
  | 0 => m_ft0 M
  | j + 1 => m_ts (qY M j) 59
def GO (g : Nat → Nat) (m : Nat) (M : fOm) (i : Nat) : Prop := ∃ p b : Nat, TM (qX M i) g m ∧ p ≤ m ∧ b ≤ p ∧ qX M i 647 9 = nI p ∧ qX M i 647 10 = 0 ∧ qX M i 647 12 = nI b ∧ IV (qX M i) i (3 * i) ∧ i ≤ 26 ∧ qY M i = m_to (qX M i)
theorem ff_S {g : Nat → Nat} {m : Nat} {C M : fOm} (n : Nat) : ∀ j : Nat, n + j = 27 → f_ff C = f_ffF (80 - j) (f_ffI (f_f0 C) j) → m_ft M = m_ftF (81 - j) (m_ftI (m_ft1 M) j) → FV (qY M j) j → (∀ i, i < j → GO g m M i ∧ qY M i 647 10 = 0) → GO g m M j → TC (f_ffI (f_f0 C) j) g m → f_ffI (f_f0 C) j 529 1 = qX M j 647 9 →
    (∃ J, J ≤ 26 ∧ m_ftR M = -6 ∧ (f_ff C).1 = -6 ∧ m_ft M = qY M J ∧ qY M J 647 9 = nI m ∧ ∀ i, i ≤ J → GO g m M i ∧ qY M i 647 10 = 0) ∨ (∃ p2, p2 ≤ m ∧ m_ftR M = nI p2 ∧ (f_ff C).1 = nI p2) := by
  induction n with
  | zero =>
    intro j hj _ _ _ _ hg _ _
    obtain ⟨p, b, -, -, -, -, -, -, -, g8, -⟩ := hg
    omega
  | succ n ih =>
    intro j hj hC hM hF hG hg t hp
    obtain ⟨p, b, g1, g2, g3, g4, g5, g6, g7, g8, g9⟩ := id hg
    have hS := ro_S t g1 g2 g3 g7 (by omega) (hp.trans g4) g4 g5 g6
    rw [← g9] at hS
    have hm := t.1
    have fb := @ff_b C j hC (by omega)
    have fc := @ff_c C j hC (by omega)
    have fd := @ff_d C j hC (by omega)
    have fe := @ff_e C j hC (by omega)
    have eI : f_ffI (f_f0 C) (j + 1) = (f_take (f_ro (f_ffI (f_f0 C) j)).2 59).2 := rfl
    rw [eI] at fe
    have ihj := ih (j + 1) (by omega)
    rw [eI] at ihj
    generalize f_ro (f_ffI (f_f0 C) j) = r at hS fb fc fd fe ihj
    have take59 : ∀ p2, TC r.2 g m → p2 ≤ m → r.2 529 1 = nI p2 → f_take r.2 59 = if g p2 = 59 then (1, wu r.2 529 1 (nI (p2 + 1))) else (0, r.2) := fun p2 s1 h1 h3 => by
      unfold f_take
      rw [s1.sg h1 h3, h3, nI_1]
      by_cases q : g p2 = 59
      · rw [if_pos q, if_pos (show nI (g p2) = (59 : Int32) by rw [q]; rfl)]
      · rw [if_neg q, if_neg (show ¬ nI (g p2) = (59 : Int32) from fun z => q (nI_eqN (b := 59) (by have := s1.g p2; omega) (by decide) z))]
    rcases hS with ⟨hOG, hOF, h59⟩ | hB
    · obtain ⟨r1, s1, s2, p2, c, h1, h2, hc1, h3, h4, h5, h6, h7, -⟩ := hOG
      have r0 : ¬ r.1 = 0 := by rw [r1]; exact nz1
      by_cases e : p2 = m
      · subst e
        have fc := fc r0 (by rw [h3, s1.2.1])
        have e2 : m_ft M = qY M j := ft_b hM (by omega) h5 (by show qY M j 647 8 ≤ qY M j 647 9; rw [s2.2.1, h4]; exact Int32.le_refl _)
        refine Or.inl ⟨j, g8, ?_, fc.1.symm, e2, h4, fun i hi => ?_⟩
        · unfold m_ftR
          rw [e2, if_pos h5]
        · rcases Nat.lt_or_ge i j with z | z
          · exact hG i z
          · have : i = j := by omega
            subst this
            exact ⟨hg, h5⟩
      · have hlt : p2 < m := by omega
        have n1 : ¬ r.2 529 1 = r.2 527 1 := by
          rw [h3, s1.2.1]
          exact fun z => e (nI_eqN (by omega) (by omega) z)
        have hM2 := ft_c hM (by omega) h5 (by show ¬ qY M j 647 8 ≤ qY M j 647 9; rw [s2.2.1, h4]; exact nI_ge hlt (by omega))
        have hx := ts_E (c := 59) h4
        have hnx := s2.nx h1 h4
        have eS : qY M (j + 1) = m_ftS (qY M j) := rfl
        have tk := take59 p2 s1 h1 h3
        by_cases q : g p2 = 59
        · rw [if_pos q] at tk
          have eM := hx.1 h5 (by rw [hnx, q]; rfl)
          have eC : EC r.2 (wu r.2 529 1 (nI (p2 + 1))) (p2 + 1) := EC.w
          have fe := fe r0 n1 (by rw [tk]; exact nz1)
          rw [tk] at fe ihj
          have hIV : IV (m_ts (qY M j) 59) (j + 1) (3 * (j + 1)) := (ts_IV (c := 59) (by decide) (hF.2 h5)).le (by omega)
          have eY : qY M (j + 1) = m_to (qX M (j + 1)) := by
            rw [eS]
            exact if_pos eM.2.2.2
          refine ihj fe hM2 (by rw [eS]; exact ftS_FV hF h5) (fun i hi => ?_) ⟨p2 + 1, b + c, eM.T s2, by omega, by omega, eM.2.2.1, eM.2.2.2, (eM.2.1 12 (by decide) (by decide)).trans h7, hIV, by have := hIV.al eM.2.2.2; omega, eY⟩ (eC.T s1) (eC.2.2.trans eM.2.2.1.symm)
          rcases Nat.lt_or_ge i j with z | z
          · exact hG i z
          · have : i = j := by omega
            subst this
            exact ⟨hg, h5⟩
        · rw [if_neg q] at tk
          have eM := hx.2.1 h5 (by rw [hnx]; exact fun z => q (nI_eqN (b := 59) (by have := s1.g p2; omega) (by decide) z))
          have fd := fd r0 n1 (by rw [tk])
          rw [tk] at fd
          have eY : m_ftI (m_ft1 M) (j + 1) = m_ts (qY M j) 59 := by
            show m_ftS (qY M j) = _
            exact if_neg (by rw [eM.2.2.2]; exact nz1)
          have e2 := ft_a hM2 (by omega) (by rw [eY, eM.2.2.2]; exact nz1)
          refine Or.inr ⟨p2, h1, ?_, fd.1.symm.trans h3⟩
          unfold m_ftR
          rw [e2, eY, if_neg (by rw [eM.2.2.2]; exact nz1)]
          exact eM.2.2.1
    · obtain ⟨b1, b2, p2, k1, k2, k3, k4, k5⟩ := hB
      have n10 : ¬ qY M j 647 10 = 0 := by rw [k4]; exact nz1
      have e2 : m_ft M = qY M j := ft_a hM (by omega) n10
      refine Or.inr ⟨p2, k1, ?_, ?_⟩
      · unfold m_ftR
        rw [e2, if_neg n10]
        exact k3
      · rcases k5 with k5 | ⟨k5, k6⟩
        · exact (fb k5).1.symm.trans k2
        · have hd := k6.1
          have hlt := b1.lt (i := p2) (by omega)
          have tk := take59 p2 b1 k1 k2
          rw [if_neg (by have := k6.2; omega)] at tk
          have fd := fd (by rw [k5]; exact nz1) (by rw [k2, b1.2.1]; exact fun z => by have := nI_eqN (by omega) (by omega) z; omega) (by rw [tk])
          rw [tk] at fd
          exact fd.1.symm.trans k2
theorem text_of {C M : fOm} (h : PR C M) : ∃ g m, TC C g m ∧ TM M g m := by
  obtain ⟨m, h1, h2, h3, h4⟩ := h
  refine ⟨fun i => if i < m then (M 653 i).toNatClampNeg else 0, m, ?_⟩
  have key : ∀ i, i < m → M 653 i = nI (if i < m then (M 653 i).toNatClampNeg else 0) ∧ 33 ≤ (if i < m then (M 653 i).toNatClampNeg else 0) ∧ (if i < m then (M 653 i).toNatClampNeg else 0) ≤ 126 := fun i hi => by
    obtain ⟨-, a, b⟩ := h4 i hi
    obtain ⟨x, hx, e⟩ := rgN (x := M 653 i) (M := 126) (n := 126) ⟨Int32.le_trans (by decide) a, b⟩ rfl
    rw [if_pos hi, e, nI_clamp (by omega)]
    rw [e] at a
    refine ⟨rfl, ?_, hx⟩
    have := Int32.le_iff_toInt_le.mp a
    rw [bI (by omega), show (33 : Int32).toInt = 33 by decide] at this
    omega
  exact ⟨⟨h1, h2, fun i hi => by rw [(h4 i hi).1]; exact key i hi, fun i hi => if_neg (by omega)⟩, ⟨h1, h3, key, fun i hi => if_neg (by omega)⟩⟩
theorem rs_ro {P : fOm → Prop} (h : RS P) (h0 : ∀ w, P w → P (f_r0 w)) {w : fOm} (k : P w) : P (f_ro w).2 := by
  have bo2 : ∀ {p : fB2} {k e : fOm → fB2}, P p.2 → (∀ w, P w → P (k w).2) → (∀ w, P w → P (e w).2) → P (bo p k e).2 := fun {p k e} hp hk he => by
    by_cases q : p.1 = 0
    · rw [bo_n q]
      exact he _ hp
    · rw [bo_p q]
      exact hk _ hp
  have kF : ∀ w, P w → P (f_roF w).2 := fun w k => by
    have := rs_roB (c := 102) h k
    rw [show f_roB 102 w = f_roF w from if_pos rfl] at this
    exact this
  have kJ : ∀ w, P w → P (f_roJ w).2 := fun w k => by
    have := rs_roB (c := 106) h k
    rw [show f_roB 106 w = f_roJ w by unfold f_roB; rw [if_neg (by decide), if_pos rfl]] at this
    exact this
  have kL : ∀ w, P w → P (f_roL w).2 := fun w k => by
    have := rs_roB (c := 108) h k
    rw [show f_roB 108 w = f_roL w by unfold f_roB; rw [if_neg (by decide), if_neg (by decide), if_pos rfl]] at this
    exact this
  have kT : ∀ w, P w → P (f_roT w).2 := fun w k => by
    rw [roT_e]
    exact rs_bn (rs_take h k) fun w k => rs_bn (rs_rn h k) fun w k => k
  show P (bo (f_take (f_r0 w) 102) f_roF fun w => bo (f_take w 106) f_roJ fun w => bo (f_take w 108) f_roL f_roT).2
  exact bo2 (rs_take h (h0 w k)) kF (fun w k => bo2 (rs_take h k) kJ (fun w k => bo2 (rs_take h k) kL kT))
theorem rs_ffF {P : fOm → Prop} (h : RS P) (h0 : ∀ w, P w → P (f_r0 w)) (n : Nat) : ∀ w, P w → P (f_ffF n w).2 := by
  induction n with
  | zero => exact fun _ k => k
  | succ n ih =>
    intro w k
    have k2 := rs_ro h h0 k
    rw [ffF_s]
    generalize f_ro w = r at k2 ⊢
    by_cases c : r.1 = 0
    · rw [if_pos c]
      exact k2
    · rw [if_neg c]
      by_cases c1 : r.2 529 1 = r.2 527 1
      · rw [if_pos c1]
        exact k2
      · rw [if_neg c1]
        have k3 : P (f_take r.2 59).2 := rs_take h k2
        generalize f_take r.2 59 = r2 at k3 ⊢
        by_cases c2 : r2.1 = 0
        · rw [if_pos c2]
          exact k3
        · rw [if_neg c2]
          exact ih _ k3
/-- the cells that the class's reader may change -/
def P2 (w0 w : fOm) : Prop := ∀ q, q ≠ 529 → q ≠ 530 → w q = w0 q
theorem p2_RS {w0 : fOm} : RS (P2 w0) := by
  refine ⟨fun w v h q x y => (wu_ne x).trans (h q x y), fun w n h => ?_⟩
  unfold f_keep
  split
  · intro q x y
    show wu (wu w 530 (w 529 4).toNatClampNeg n) 529 4 (wu w 530 (w 529 4).toNatClampNeg n 529 4 + 1) q = _
    rw [wu_ne x, wu_ne y]
    exact h q x y
  · exact h
theorem p2_r0 {w0 : fOm} : ∀ w, P2 w0 w → P2 w0 (f_r0 w) := fun w h q x y => by
  unfold f_r0
  rw [wu_ne x, wu_ne x]
  exact h q x y
theorem p2_ff {C : fOm} : P2 C (f_ff C).2 := rs_ffF p2_RS p2_r0 80 _ (fun q x _ => wu_ne x)
theorem ff_0S {g : Nat → Nat} {m : Nat} {C M : fOm} (t1 : TC C g m) (t2 : TM M g m) (h8 : 0 ≤ M 647 8 ∧ M 647 8 ≤ 80) :
    (∃ J, J ≤ 26 ∧ m_ftR M = -6 ∧ (f_ff C).1 = -6 ∧ m_ft M = qY M J ∧ qY M J 647 9 = nI m ∧ ∀ i, i ≤ J → GO g m M i ∧ qY M i 647 10 = 0) ∨ (∃ p2, p2 ≤ m ∧ m_ftR M = nI p2 ∧ (f_ff C).1 = nI p2) := by
  refine ff_S 27 0 rfl ff_0 rfl (ft1_FV h8) (fun i hi => absurd hi (by omega)) ⟨0, 0, t2.eq (by simp [qX, m_ft0, wu_i]) (by simp only [qX, m_ft0]; rw [wu_ne (by decide), wu_ne (by decide), wu_ne (by decide), wu_ne (by decide)]), by omega, by omega, by simp [qX, m_ft0, wu_i]; rfl, by simp [qX, m_ft0, wu_i], by simp [qX, m_ft0, wu_i]; rfl, ft0_IV h8, by omega, rfl⟩ (t1.eq (by show f_f0 C 527 = _; unfold f_f0; rw [wu_ne (by decide)]) (by show f_f0 C 528 = _; unfold f_f0; rw [wu_ne (by decide)])) ?_
  show f_f0 C 529 1 = m_ft0 M 647 9
  unfold f_f0
  simp [m_ft0, wu_i]
theorem fault_R {C M : fOm} {T : Nat} (h : RR C M T) : m_ftR M = (f_ff C).1 ∧ RR (f_ff C).2 (m_ft M) T := by
  obtain ⟨g, m, t1, t2⟩ := text_of h.2.2.2
  refine ⟨?_, h.side (fun q _ x y => p2_ff q x y) (fun i _ => by rw [ft_648]) (fun q h1 h2 h3 h4 h5 h6 => ft_F.1 q h1 (fun z => by rcases z with z | z | z; exact h4 z; exact h5 z; exact h6 z)) (fun i hi => ft_F.2 i hi)⟩
  rcases ff_0S t1 t2 h.pd with ⟨J, -, e1, e2, -⟩ | ⟨p2, -, e1, e2⟩
  · rw [e1, e2]
  · rw [e1, e2]
