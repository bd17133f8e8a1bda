/-! ===== contracts: from a world, with arguments, to an answer and a world ===== -/
def rmD (d : Nat) : Room := { frames := d, cells := 0, slots := 0, locals := 30 * d }
def vref (F : Nat) : Option Nat → Value
  | none => .null
  | some k => .ref (F + k)
def fP (F : Nat) (G : fG) (R : Option Value) (Ω : fOm) : Option Value → Nat → (Nat → va_E) → Prop := fun r n cf => n = NC ∧ r = R ∧ cf = cel F G Ω ∧ Inv Ω
def CT (l : Launch) (G : fG) (F : Nat) (y : MethodName) (cc : ByteArray) (nL : Nat) (ret : Option FieldType) (d : Nat) (As : List Value) (ω : fOm) (R : Option Value) (Ω : fOm) : Prop := Met l y (.code y cc nL ret :: Tg) (rmD d) (va_Pc As (fB G F NC (cel F G ω))) (fQ G F (fP F G R Ω)) 0 0 (fA F)
/-- what the tables say of a method -/
abbrev MH (y : MethodName) (C : String) (np : Nat) : Prop := y.cls = C ∧ y.cls ≠ "java/lang/invoke/MethodHandle" ∧ y.cls ≠ "java/lang/invoke/VarHandle" ∧ (parseMethodDescriptor y.desc).map (fun d => d.parameters.length) = some np
def MI (y : MethodName) (bytes : ByteArray) (mL : Nat) (r : Option FieldType) (C : String) (np : Nat) : Prop := Cond.code y bytes mL r ∈ Tg ∧ Cond.instanceMethod y ∈ Tg ∧ Cond.selects C y y ∈ Tg ∧ Cond.initialized C ∈ Tg ∧ MH y C np
def MS (y : MethodName) (bytes : ByteArray) (mL : Nat) (r : Option FieldType) (C : String) (np : Nat) : Prop := Cond.code y bytes mL r ∈ Tg ∧ Cond.static y ∈ Tg ∧ Cond.initialized C ∈ Tg ∧ MH y C np
theorem ob_9 {F : Nat} {G : fG} {ω : fOm} {k : Nat} (h : kd k = 9) : ∃ fs, cel F G ω k = .inr (0, fs) := ⟨_, cel_9 h⟩
theorem ob_13 {F : Nat} {G : fG} {ω : fOm} {k : Nat} (h : kd k = 13) : ∃ fs, cel F G ω k = .inr (1, fs) := ⟨_, cel_13 h⟩
theorem ob_11 {F : Nat} {G : fG} {ω : fOm} {k : Nat} (h : kd k = 11) : ∃ fs, cel F G ω k = .inr (2, fs) := ⟨_, cel_11 h⟩
theorem ob_19 {F : Nat} {G : fG} {ω : fOm} {k : Nat} (h : kd k = 19) : ∃ fs, cel F G ω k = .inr (3, fs) := ⟨_, cel_19 h⟩
theorem ob_17 {F : Nat} {G : fG} {ω : fOm} {k : Nat} (h : kd k = 17) : ∃ fs, cel F G ω k = .inr (4, fs) := ⟨_, cel_17 h⟩
theorem ob_6 {F : Nat} {G : fG} {ω : fOm} {k : Nat} (h : kd k = 6) : ∃ fs, cel F G ω k = .inr (5, fs) := ⟨_, cel_6 h⟩
theorem ob_1 {F : Nat} {G : fG} {ω : fOm} {k : Nat} (h : kd k = 1) : ∃ fs, cel F G ω k = .inr (6, fs) := ⟨_, cel_1 h⟩
theorem ob_12 {F : Nat} {G : fG} {ω : fOm} {k : Nat} (h : kd k = 12) : ∃ fs, cel F G ω k = .inr (7, fs) := ⟨_, cel_12 h⟩
theorem ob_21 {F : Nat} {G : fG} {ω : fOm} {k : Nat} (h : kd k = 21) : ∃ fs, cel F G ω k = .inr (8, fs) := ⟨_, cel_21 h⟩
section FCA
variable {X : xT} {Q : State → Prop} {G : fG} {F nL : Nat} {ω Ω : fOm} {cells slots pc : Nat} {loc : List (Nat × Value)} {st : List Value} {cc : ByteArray} {own : String} {ret : Option FieldType} {index : Nat}
theorem ct_met {l : Launch} {y : MethodName} {As : List Value} {R : Option Value} {d : Nat} (hy : plainName y.cls = true) (ho : y.cls = own) (hl : (lg_sl As).length ≤ nL)
    (body : ∀ X : xT, xl X = l → xR X = rmD d → Cx X G F nL cc own ret → Vg X (MQ (xb X) (fQ G F (fP F G R Ω)) (xa X) (xs X) 0 0 (fA F)) G F nL NC (cel F G ω) 0 0 0 (lv_args 0 As) []) : CT l G F y cc nL ret d As ω R Ω := g_met hy ho hl body
theorem e_iret (h : Cx X G F nL cc own (some .int)) {v e : Int32} (hI : Inv ω) (d : decode cc pc = .ok (.ireturn, 1)) (hv : v = e) (hw : ω = Ω) : Vg X (MQ (xb X) (fQ G F (fP F G (some (.int e)) Ω)) (xa X) (xs X) 0 0 (fA F)) G F nL NC (cel F G ω) 0 0 pc loc [.int v] := g_iret h d ⟨rfl, by rw [hv], by rw [hw], hw ▸ hI⟩
theorem e_zret {ty : FieldType} (h : Cx X G F nL cc own (some ty)) {v e : Int32} (hI : Inv ω) (d : decode cc pc = .ok (.ireturn, 1)) (hn : narrow ty (.int e) = .int e) (hv : v = e) (hw : ω = Ω) : Vg X (MQ (xb X) (fQ G F (fP F G (some (.int e)) Ω)) (xa X) (xs X) 0 0 (fA F)) G F nL NC (cel F G ω) 0 0 pc loc [.int v] := g_zret h (by rw [hv]; exact hn) d ⟨rfl, by rw [hv], by rw [hw], hw ▸ hI⟩
theorem e_vret (h : Cx X G F nL cc own none) (hI : Inv ω) (d : decode cc pc = .ok (.return_, 1)) (hw : ω = Ω) : Vg X (MQ (xb X) (fQ G F (fP F G none Ω)) (xa X) (xs X) 0 0 (fA F)) G F nL NC (cel F G ω) 0 0 pc loc [] := g_vret h d ⟨rfl, rfl, by rw [hw], hw ▸ hI⟩
theorem e_aret {C : String} (h : Cx X G F nL cc own (some (.object C))) {o o2 : Option Nat} (hI : Inv ω) (d : decode cc pc = .ok (.areturn, 1)) (hv : o = o2) (hw : ω = Ω) : Vg X (MQ (xb X) (fQ G F (fP F G (some (vref F o2)) Ω)) (xa X) (xs X) 0 0 (fA F)) G F nL NC (cel F G ω) 0 0 pc loc [vref F o] := g_aret h (by cases o <;> simp [vref]) d ⟨rfl, by rw [hv], by rw [hw], hw ▸ hI⟩
theorem g_loop3 {hd : Nat} {n : Nat} (N : Nat) (Pj : Nat → Prop) (lc : Nat → List (Nat × Value)) (w : Nat → Nat → va_E) (h0 : Pj 0) (hs : ∀ j, j ≤ N → Pj j → (j < N → Pj (j + 1) → Vg X Q G F nL n (w (j + 1)) cells slots hd (lc (j + 1)) []) → Vg X Q G F nL n (w j) cells slots hd (lc j) []) : Vg X Q G F nL n (w 0) cells slots hd (lc 0) [] := by
  have key : ∀ k, k ≤ N → Pj (N - k) → Vg X Q G F nL n (w (N - k)) cells slots hd (lc (N - k)) [] := by
    intro k
    induction k with
    | zero => intro _ hp; exact hs N (Nat.le_refl N) hp (fun a => absurd a (Nat.lt_irrefl N))
    | succ k ih =>
      intro hk hp
      have e : N - k = N - (k + 1) + 1 := by omega
      refine hs _ (by omega) hp fun _ hp2 => ?_
      have h2 := ih (by omega)
      rw [e] at h2
      exact h2 hp2
  have h0' := key N (Nat.le_refl N)
  rw [Nat.sub_self] at h0'
  exact h0' h0
theorem g_lt {loc2 : List (Nat × Value)} {st2 : List Value} {ω2 : fOm} (e1 : ω = ω2) (e2 : loc = loc2) (e3 : st = st2) (kk : Vg X Q G F nL NC (cel F G ω2) cells slots pc loc2 st2) : Vg X Q G F nL NC (cel F G ω) cells slots pc loc st := by
  subst e1; subst e2; subst e3; exact kk
theorem k_V_i {k ci : Nat} {y : MethodName} {bytes : ByteArray} {mL np d D : Nat} {r2 : Option FieldType} {C : String} {As st0 : List Value} {e : Int32} (h : Cx X G F nL cc own ret) (hX : xR X = rmD D) (hM : CT (xl X) G F y bytes mL r2 d (.ref (F + k) :: As) ω (some (.int e)) ω) (hst : st0 = As.reverse ++ .ref (F + k) :: st) (hob : k < NC ∧ ∃ fs, cel F G ω k = .inr (ci, fs)) (hci : (fCl[ci]?).map (fun q => q.1) = some C) (mi : MI y bytes mL r2 C np) (hl : Cond.methodLink own index y ∈ Tg) (hd : d + 1 ≤ D) (hL : mL ≤ 11) (hn : As.length = np) (hW : (st.map fun v => v.category).sum ≤ 8) (hcz : cells ≤ (xR X).cells) (hsz : slots ≤ (xR X).slots) (dc : decode cc pc = .ok (.invokevirtual index, 3)) (kk : ∀ v, v = e → Vg X Q G F nL NC (cel F G ω) cells slots (pc + 3) loc (.int v :: st)) : Vg X Q G F nL NC (cel F G ω) cells slots pc loc (st0) := by
  obtain ⟨hk, fs, he⟩ := hob
  exact g_callV h hM hst hk he hci mi.1 hl mi.2.1 mi.2.2.1 mi.2.2.2.1 rfl rfl mi.2.2.2.2 hn ⟨by rw [hX]; exact hd, by rw [hX]; show 8 + (mL + 11) + 30 * d ≤ 30 * D; omega⟩ hW ⟨hcz, hsz⟩ dc (fun r n2 cf2 hp => by obtain ⟨rfl, rfl, rfl, -⟩ := hp; exact kk _ rfl)
theorem k_V_j {k ci : Nat} {y : MethodName} {bytes : ByteArray} {mL np d D : Nat} {r2 : Option FieldType} {C : String} {As st0 : List Value} {e : Int32} (h : Cx X G F nL cc own ret) (hX : xR X = rmD D) (hM : CT (xl X) G F y bytes mL r2 d (.ref (F + k) :: As) ω (some (.int e)) Ω) (hst : st0 = As.reverse ++ .ref (F + k) :: st) (hob : k < NC ∧ ∃ fs, cel F G ω k = .inr (ci, fs)) (hci : (fCl[ci]?).map (fun q => q.1) = some C) (mi : MI y bytes mL r2 C np) (hl : Cond.methodLink own index y ∈ Tg) (hd : d + 1 ≤ D) (hL : mL ≤ 11) (hn : As.length = np) (hW : (st.map fun v => v.category).sum ≤ 8) (hcz : cells ≤ (xR X).cells) (hsz : slots ≤ (xR X).slots) (dc : decode cc pc = .ok (.invokevirtual index, 3)) (kk : ∀ v ω2, v = e → ω2 = Ω → Inv ω2 → Vg X Q G F nL NC (cel F G ω2) cells slots (pc + 3) loc (.int v :: st)) : Vg X Q G F nL NC (cel F G ω) cells slots pc loc (st0) := by
  obtain ⟨hk, fs, he⟩ := hob
  exact g_callV h hM hst hk he hci mi.1 hl mi.2.1 mi.2.2.1 mi.2.2.2.1 rfl rfl mi.2.2.2.2 hn ⟨by rw [hX]; exact hd, by rw [hX]; show 8 + (mL + 11) + 30 * d ≤ 30 * D; omega⟩ hW ⟨hcz, hsz⟩ dc (fun r n2 cf2 hp => by obtain ⟨rfl, rfl, rfl, hi⟩ := hp; exact kk _ _ rfl rfl hi)
theorem k_V_v {k ci : Nat} {y : MethodName} {bytes : ByteArray} {mL np d D : Nat} {r2 : Option FieldType} {C : String} {As st0 : List Value} (h : Cx X G F nL cc own ret) (hX : xR X = rmD D) (hM : CT (xl X) G F y bytes mL r2 d (.ref (F + k) :: As) ω none Ω) (hst : st0 = As.reverse ++ .ref (F + k) :: st) (hob : k < NC ∧ ∃ fs, cel F G ω k = .inr (ci, fs)) (hci : (fCl[ci]?).map (fun q => q.1) = some C) (mi : MI y bytes mL r2 C np) (hl : Cond.methodLink own index y ∈ Tg) (hd : d + 1 ≤ D) (hL : mL ≤ 11) (hn : As.length = np) (hW : (st.map fun v => v.category).sum ≤ 8) (hcz : cells ≤ (xR X).cells) (hsz : slots ≤ (xR X).slots) (dc : decode cc pc = .ok (.invokevirtual index, 3)) (kk : ∀ ω2, ω2 = Ω → Inv ω2 → Vg X Q G F nL NC (cel F G ω2) cells slots (pc + 3) loc (st)) : Vg X Q G F nL NC (cel F G ω) cells slots pc loc (st0) := by
  obtain ⟨hk, fs, he⟩ := hob
  exact g_callV h hM hst hk he hci mi.1 hl mi.2.1 mi.2.2.1 mi.2.2.2.1 rfl rfl mi.2.2.2.2 hn ⟨by rw [hX]; exact hd, by rw [hX]; show 8 + (mL + 11) + 30 * d ≤ 30 * D; omega⟩ hW ⟨hcz, hsz⟩ dc (fun r n2 cf2 hp => by obtain ⟨rfl, rfl, rfl, hi⟩ := hp; exact kk _ rfl hi)
theorem k_V_r {k ci : Nat} {y : MethodName} {bytes : ByteArray} {mL np d D : Nat} {r2 : Option FieldType} {C : String} {As st0 : List Value} {o : Option Nat} (h : Cx X G F nL cc own ret) (hX : xR X = rmD D) (hM : CT (xl X) G F y bytes mL r2 d (.ref (F + k) :: As) ω (some (vref F o)) ω) (hst : st0 = As.reverse ++ .ref (F + k) :: st) (hob : k < NC ∧ ∃ fs, cel F G ω k = .inr (ci, fs)) (hci : (fCl[ci]?).map (fun q => q.1) = some C) (mi : MI y bytes mL r2 C np) (hl : Cond.methodLink own index y ∈ Tg) (hd : d + 1 ≤ D) (hL : mL ≤ 11) (hn : As.length = np) (hW : (st.map fun v => v.category).sum ≤ 8) (hcz : cells ≤ (xR X).cells) (hsz : slots ≤ (xR X).slots) (dc : decode cc pc = .ok (.invokevirtual index, 3)) (k0 : o = none → Vg X Q G F nL NC (cel F G ω) cells slots (pc + 3) loc (.null :: st)) (k1 : ∀ k9, o = some k9 → Vg X Q G F nL NC (cel F G ω) cells slots (pc + 3) loc (.ref (F + k9) :: st)) : Vg X Q G F nL NC (cel F G ω) cells slots pc loc (st0) := by
  obtain ⟨hk, fs, he⟩ := hob
  exact g_callV h hM hst hk he hci mi.1 hl mi.2.1 mi.2.2.1 mi.2.2.2.1 rfl rfl mi.2.2.2.2 hn ⟨by rw [hX]; exact hd, by rw [hX]; show 8 + (mL + 11) + 30 * d ≤ 30 * D; omega⟩ hW ⟨hcz, hsz⟩ dc (fun r n2 cf2 hp => by
    obtain ⟨rfl, rfl, rfl, -⟩ := hp
    cases o with
    | none => exact k0 rfl
    | some k9 => exact k1 k9 rfl)
theorem k_V_w {k ci : Nat} {y : MethodName} {bytes : ByteArray} {mL np d D : Nat} {r2 : Option FieldType} {C : String} {As st0 : List Value} {o : Option Nat} (h : Cx X G F nL cc own ret) (hX : xR X = rmD D) (hM : CT (xl X) G F y bytes mL r2 d (.ref (F + k) :: As) ω (some (vref F o)) Ω) (hst : st0 = As.reverse ++ .ref (F + k) :: st) (hob : k < NC ∧ ∃ fs, cel F G ω k = .inr (ci, fs)) (hci : (fCl[ci]?).map (fun q => q.1) = some C) (mi : MI y bytes mL r2 C np) (hl : Cond.methodLink own index y ∈ Tg) (hd : d + 1 ≤ D) (hL : mL ≤ 11) (hn : As.length = np) (hW : (st.map fun v => v.category).sum ≤ 8) (hcz : cells ≤ (xR X).cells) (hsz : slots ≤ (xR X).slots) (dc : decode cc pc = .ok (.invokevirtual index, 3)) (k0 : ∀ ω2, o = none → ω2 = Ω → Inv ω2 → Vg X Q G F nL NC (cel F G ω2) cells slots (pc + 3) loc (.null :: st)) (k1 : ∀ k9 ω2, o = some k9 → ω2 = Ω → Inv ω2 → Vg X Q G F nL NC (cel F G ω2) cells slots (pc + 3) loc (.ref (F + k9) :: st)) : Vg X Q G F nL NC (cel F G ω) cells slots pc loc (st0) := by
  obtain ⟨hk, fs, he⟩ := hob
  exact g_callV h hM hst hk he hci mi.1 hl mi.2.1 mi.2.2.1 mi.2.2.2.1 rfl rfl mi.2.2.2.2 hn ⟨by rw [hX]; exact hd, by rw [hX]; show 8 + (mL + 11) + 30 * d ≤ 30 * D; omega⟩ hW ⟨hcz, hsz⟩ dc (fun r n2 cf2 hp => by
    obtain ⟨rfl, rfl, rfl, hi⟩ := hp
    cases o with
    | none => exact k0 _ rfl rfl hi
    | some k9 => exact k1 k9 _ rfl rfl hi)
theorem k_VN_i {k ci : Nat} {y : MethodName} {bytes : ByteArray} {mL np d D : Nat} {r2 : Option FieldType} {C : String} {As st0 : List Value} {e : Int32} (h : Cx X G F nL cc own ret) (hX : xR X = rmD D) (hM : CT (xl X) G F y bytes mL r2 d (.ref (F + k) :: As) ω (some (.int e)) ω) (hst : st0 = As.reverse ++ .ref (F + k) :: st) (hob : k < NC ∧ ∃ fs, cel F G ω k = .inr (ci, fs)) (hci : (fCl[ci]?).map (fun q => q.1) = some C) (mi : MI y bytes mL r2 C np) (hl : Cond.methodLinkNest own index y "FibreLoops" ∈ Tn) (hd : d + 1 ≤ D) (hL : mL ≤ 11) (hn : As.length = np) (hW : (st.map fun v => v.category).sum ≤ 8) (hcz : cells ≤ (xR X).cells) (hsz : slots ≤ (xR X).slots) (dc : decode cc pc = .ok (.invokevirtual index, 3)) (kk : ∀ v, v = e → Vg X Q G F nL NC (cel F G ω) cells slots (pc + 3) loc (.int v :: st)) : Vg X Q G F nL NC (cel F G ω) cells slots pc loc (st0) := by
  obtain ⟨hk, fs, he⟩ := hob
  exact g_callVN h hM hst hk he hci mi.1 hl mi.2.1 mi.2.2.1 mi.2.2.2.1 rfl rfl mi.2.2.2.2 hn ⟨by rw [hX]; exact hd, by rw [hX]; show 8 + (mL + 11) + 30 * d ≤ 30 * D; omega⟩ hW ⟨hcz, hsz⟩ dc (fun r n2 cf2 hp => by obtain ⟨rfl, rfl, rfl, -⟩ := hp; exact kk _ rfl)
theorem k_VN_j {k ci : Nat} {y : MethodName} {bytes : ByteArray} {mL np d D : Nat} {r2 : Option FieldType} {C : String} {As st0 : List Value} {e : Int32} (h : Cx X G F nL cc own ret) (hX : xR X = rmD D) (hM : CT (xl X) G F y bytes mL r2 d (.ref (F + k) :: As) ω (some (.int e)) Ω) (hst : st0 = As.reverse ++ .ref (F + k) :: st) (hob : k < NC ∧ ∃ fs, cel F G ω k = .inr (ci, fs)) (hci : (fCl[ci]?).map (fun q => q.1) = some C) (mi : MI y bytes mL r2 C np) (hl : Cond.methodLinkNest own index y "FibreLoops" ∈ Tn) (hd : d + 1 ≤ D) (hL : mL ≤ 11) (hn : As.length = np) (hW : (st.map fun v => v.category).sum ≤ 8) (hcz : cells ≤ (xR X).cells) (hsz : slots ≤ (xR X).slots) (dc : decode cc pc = .ok (.invokevirtual index, 3)) (kk : ∀ v ω2, v = e → ω2 = Ω → Inv ω2 → Vg X Q G F nL NC (cel F G ω2) cells slots (pc + 3) loc (.int v :: st)) : Vg X Q G F nL NC (cel F G ω) cells slots pc loc (st0) := by
  obtain ⟨hk, fs, he⟩ := hob
  exact g_callVN h hM hst hk he hci mi.1 hl mi.2.1 mi.2.2.1 mi.2.2.2.1 rfl rfl mi.2.2.2.2 hn ⟨by rw [hX]; exact hd, by rw [hX]; show 8 + (mL + 11) + 30 * d ≤ 30 * D; omega⟩ hW ⟨hcz, hsz⟩ dc (fun r n2 cf2 hp => by obtain ⟨rfl, rfl, rfl, hi⟩ := hp; exact kk _ _ rfl rfl hi)
theorem k_VN_v {k ci : Nat} {y : MethodName} {bytes : ByteArray} {mL np d D : Nat} {r2 : Option FieldType} {C : String} {As st0 : List Value} (h : Cx X G F nL cc own ret) (hX : xR X = rmD D) (hM : CT (xl X) G F y bytes mL r2 d (.ref (F + k) :: As) ω none Ω) (hst : st0 = As.reverse ++ .ref (F + k) :: st) (hob : k < NC ∧ ∃ fs, cel F G ω k = .inr (ci, fs)) (hci : (fCl[ci]?).map (fun q => q.1) = some C) (mi : MI y bytes mL r2 C np) (hl : Cond.methodLinkNest own index y "FibreLoops" ∈ Tn) (hd : d + 1 ≤ D) (hL : mL ≤ 11) (hn : As.length = np) (hW : (st.map fun v => v.category).sum ≤ 8) (hcz : cells ≤ (xR X).cells) (hsz : slots ≤ (xR X).slots) (dc : decode cc pc = .ok (.invokevirtual index, 3)) (kk : ∀ ω2, ω2 = Ω → Inv ω2 → Vg X Q G F nL NC (cel F G ω2) cells slots (pc + 3) loc (st)) : Vg X Q G F nL NC (cel F G ω) cells slots pc loc (st0) := by
  obtain ⟨hk, fs, he⟩ := hob
  exact g_callVN h hM hst hk he hci mi.1 hl mi.2.1 mi.2.2.1 mi.2.2.2.1 rfl rfl mi.2.2.2.2 hn ⟨by rw [hX]; exact hd, by rw [hX]; show 8 + (mL + 11) + 30 * d ≤ 30 * D; omega⟩ hW ⟨hcz, hsz⟩ dc (fun r n2 cf2 hp => by obtain ⟨rfl, rfl, rfl, hi⟩ := hp; exact kk _ rfl hi)
theorem k_VN_r {k ci : Nat} {y : MethodName} {bytes : ByteArray} {mL np d D : Nat} {r2 : Option FieldType} {C : String} {As st0 : List Value} {o : Option Nat} (h : Cx X G F nL cc own ret) (hX : xR X = rmD D) (hM : CT (xl X) G F y bytes mL r2 d (.ref (F + k) :: As) ω (some (vref F o)) ω) (hst : st0 = As.reverse ++ .ref (F + k) :: st) (hob : k < NC ∧ ∃ fs, cel F G ω k = .inr (ci, fs)) (hci : (fCl[ci]?).map (fun q => q.1) = some C) (mi : MI y bytes mL r2 C np) (hl : Cond.methodLinkNest own index y "FibreLoops" ∈ Tn) (hd : d + 1 ≤ D) (hL : mL ≤ 11) (hn : As.length = np) (hW : (st.map fun v => v.category).sum ≤ 8) (hcz : cells ≤ (xR X).cells) (hsz : slots ≤ (xR X).slots) (dc : decode cc pc = .ok (.invokevirtual index, 3)) (k0 : o = none → Vg X Q G F nL NC (cel F G ω) cells slots (pc + 3) loc (.null :: st)) (k1 : ∀ k9, o = some k9 → Vg X Q G F nL NC (cel F G ω) cells slots (pc + 3) loc (.ref (F + k9) :: st)) : Vg X Q G F nL NC (cel F G ω) cells slots pc loc (st0) := by
  obtain ⟨hk, fs, he⟩ := hob
  exact g_callVN h hM hst hk he hci mi.1 hl mi.2.1 mi.2.2.1 mi.2.2.2.1 rfl rfl mi.2.2.2.2 hn ⟨by rw [hX]; exact hd, by rw [hX]; show 8 + (mL + 11) + 30 * d ≤ 30 * D; omega⟩ hW ⟨hcz, hsz⟩ dc (fun r n2 cf2 hp => by
    obtain ⟨rfl, rfl, rfl, -⟩ := hp
    cases o with
    | none => exact k0 rfl
    | some k9 => exact k1 k9 rfl)
theorem k_VN_w {k ci : Nat} {y : MethodName} {bytes : ByteArray} {mL np d D : Nat} {r2 : Option FieldType} {C : String} {As st0 : List Value} {o : Option Nat} (h : Cx X G F nL cc own ret) (hX : xR X = rmD D) (hM : CT (xl X) G F y bytes mL r2 d (.ref (F + k) :: As) ω (some (vref F o)) Ω) (hst : st0 = As.reverse ++ .ref (F + k) :: st) (hob : k < NC ∧ ∃ fs, cel F G ω k = .inr (ci, fs)) (hci : (fCl[ci]?).map (fun q => q.1) = some C) (mi : MI y bytes mL r2 C np) (hl : Cond.methodLinkNest own index y "FibreLoops" ∈ Tn) (hd : d + 1 ≤ D) (hL : mL ≤ 11) (hn : As.length = np) (hW : (st.map fun v => v.category).sum ≤ 8) (hcz : cells ≤ (xR X).cells) (hsz : slots ≤ (xR X).slots) (dc : decode cc pc = .ok (.invokevirtual index, 3)) (k0 : ∀ ω2, o = none → ω2 = Ω → Inv ω2 → Vg X Q G F nL NC (cel F G ω2) cells slots (pc + 3) loc (.null :: st)) (k1 : ∀ k9 ω2, o = some k9 → ω2 = Ω → Inv ω2 → Vg X Q G F nL NC (cel F G ω2) cells slots (pc + 3) loc (.ref (F + k9) :: st)) : Vg X Q G F nL NC (cel F G ω) cells slots pc loc (st0) := by
  obtain ⟨hk, fs, he⟩ := hob
  exact g_callVN h hM hst hk he hci mi.1 hl mi.2.1 mi.2.2.1 mi.2.2.2.1 rfl rfl mi.2.2.2.2 hn ⟨by rw [hX]; exact hd, by rw [hX]; show 8 + (mL + 11) + 30 * d ≤ 30 * D; omega⟩ hW ⟨hcz, hsz⟩ dc (fun r n2 cf2 hp => by
    obtain ⟨rfl, rfl, rfl, hi⟩ := hp
    cases o with
    | none => exact k0 _ rfl rfl hi
    | some k9 => exact k1 k9 _ rfl rfl hi)
theorem k_S_i {y : MethodName} {bytes : ByteArray} {mL np d D : Nat} {r2 : Option FieldType} {As st0 : List Value} {e : Int32} (h : Cx X G F nL cc own ret) (hX : xR X = rmD D) (hM : CT (xl X) G F y bytes mL r2 d As ω (some (.int e)) ω) (hst : st0 = As.reverse ++ st) (mi : MS y bytes mL r2 own np) (hl : Cond.methodLink own index y ∈ Tg) (hd : d + 1 ≤ D) (hL : mL ≤ 11) (hn : As.length = np) (hW : (st.map fun v => v.category).sum ≤ 8) (hcz : cells ≤ (xR X).cells) (hsz : slots ≤ (xR X).slots) (dc : decode cc pc = .ok (.invokestatic index, 3)) (kk : ∀ v, v = e → Vg X Q G F nL NC (cel F G ω) cells slots (pc + 3) loc (.int v :: st)) : Vg X Q G F nL NC (cel F G ω) cells slots pc loc (st0) := by
  exact g_callS h hM hst mi.1 hl mi.2.1 mi.2.2.1 rfl rfl mi.2.2.2 hn ⟨by rw [hX]; exact hd, by rw [hX]; show 8 + (mL + 11) + 30 * d ≤ 30 * D; omega⟩ hW ⟨hcz, hsz⟩ dc (fun r n2 cf2 hp => by obtain ⟨rfl, rfl, rfl, -⟩ := hp; exact kk _ rfl)
theorem k_S_j {y : MethodName} {bytes : ByteArray} {mL np d D : Nat} {r2 : Option FieldType} {As st0 : List Value} {e : Int32} (h : Cx X G F nL cc own ret) (hX : xR X = rmD D) (hM : CT (xl X) G F y bytes mL r2 d As ω (some (.int e)) Ω) (hst : st0 = As.reverse ++ st) (mi : MS y bytes mL r2 own np) (hl : Cond.methodLink own index y ∈ Tg) (hd : d + 1 ≤ D) (hL : mL ≤ 11) (hn : As.length = np) (hW : (st.map fun v => v.category).sum ≤ 8) (hcz : cells ≤ (xR X).cells) (hsz : slots ≤ (xR X).slots) (dc : decode cc pc = .ok (.invokestatic index, 3)) (kk : ∀ v ω2, v = e → ω2 = Ω → Inv ω2 → Vg X Q G F nL NC (cel F G ω2) cells slots (pc + 3) loc (.int v :: st)) : Vg X Q G F nL NC (cel F G ω) cells slots pc loc (st0) := by
  exact g_callS h hM hst mi.1 hl mi.2.1 mi.2.2.1 rfl rfl mi.2.2.2 hn ⟨by rw [hX]; exact hd, by rw [hX]; show 8 + (mL + 11) + 30 * d ≤ 30 * D; omega⟩ hW ⟨hcz, hsz⟩ dc (fun r n2 cf2 hp => by obtain ⟨rfl, rfl, rfl, hi⟩ := hp; exact kk _ _ rfl rfl hi)
theorem k_S_v {y : MethodName} {bytes : ByteArray} {mL np d D : Nat} {r2 : Option FieldType} {As st0 : List Value} (h : Cx X G F nL cc own ret) (hX : xR X = rmD D) (hM : CT (xl X) G F y bytes mL r2 d As ω none Ω) (hst : st0 = As.reverse ++ st) (mi : MS y bytes mL r2 own np) (hl : Cond.methodLink own index y ∈ Tg) (hd : d + 1 ≤ D) (hL : mL ≤ 11) (hn : As.length = np) (hW : (st.map fun v => v.category).sum ≤ 8) (hcz : cells ≤ (xR X).cells) (hsz : slots ≤ (xR X).slots) (dc : decode cc pc = .ok (.invokestatic index, 3)) (kk : ∀ ω2, ω2 = Ω → Inv ω2 → Vg X Q G F nL NC (cel F G ω2) cells slots (pc + 3) loc (st)) : Vg X Q G F nL NC (cel F G ω) cells slots pc loc (st0) := by
  exact g_callS h hM hst mi.1 hl mi.2.1 mi.2.2.1 rfl rfl mi.2.2.2 hn ⟨by rw [hX]; exact hd, by rw [hX]; show 8 + (mL + 11) + 30 * d ≤ 30 * D; omega⟩ hW ⟨hcz, hsz⟩ dc (fun r n2 cf2 hp => by obtain ⟨rfl, rfl, rfl, hi⟩ := hp; exact kk _ rfl hi)
theorem k_S_r {y : MethodName} {bytes : ByteArray} {mL np d D : Nat} {r2 : Option FieldType} {As st0 : List Value} {o : Option Nat} (h : Cx X G F nL cc own ret) (hX : xR X = rmD D) (hM : CT (xl X) G F y bytes mL r2 d As ω (some (vref F o)) ω) (hst : st0 = As.reverse ++ st) (mi : MS y bytes mL r2 own np) (hl : Cond.methodLink own index y ∈ Tg) (hd : d + 1 ≤ D) (hL : mL ≤ 11) (hn : As.length = np) (hW : (st.map fun v => v.category).sum ≤ 8) (hcz : cells ≤ (xR X).cells) (hsz : slots ≤ (xR X).slots) (dc : decode cc pc = .ok (.invokestatic index, 3)) (k0 : o = none → Vg X Q G F nL NC (cel F G ω) cells slots (pc + 3) loc (.null :: st)) (k1 : ∀ k9, o = some k9 → Vg X Q G F nL NC (cel F G ω) cells slots (pc + 3) loc (.ref (F + k9) :: st)) : Vg X Q G F nL NC (cel F G ω) cells slots pc loc (st0) := by
  exact g_callS h hM hst mi.1 hl mi.2.1 mi.2.2.1 rfl rfl mi.2.2.2 hn ⟨by rw [hX]; exact hd, by rw [hX]; show 8 + (mL + 11) + 30 * d ≤ 30 * D; omega⟩ hW ⟨hcz, hsz⟩ dc (fun r n2 cf2 hp => by
    obtain ⟨rfl, rfl, rfl, -⟩ := hp
    cases o with
    | none => exact k0 rfl
    | some k9 => exact k1 k9 rfl)
theorem k_S_w {y : MethodName} {bytes : ByteArray} {mL np d D : Nat} {r2 : Option FieldType} {As st0 : List Value} {o : Option Nat} (h : Cx X G F nL cc own ret) (hX : xR X = rmD D) (hM : CT (xl X) G F y bytes mL r2 d As ω (some (vref F o)) Ω) (hst : st0 = As.reverse ++ st) (mi : MS y bytes mL r2 own np) (hl : Cond.methodLink own index y ∈ Tg) (hd : d + 1 ≤ D) (hL : mL ≤ 11) (hn : As.length = np) (hW : (st.map fun v => v.category).sum ≤ 8) (hcz : cells ≤ (xR X).cells) (hsz : slots ≤ (xR X).slots) (dc : decode cc pc = .ok (.invokestatic index, 3)) (k0 : ∀ ω2, o = none → ω2 = Ω → Inv ω2 → Vg X Q G F nL NC (cel F G ω2) cells slots (pc + 3) loc (.null :: st)) (k1 : ∀ k9 ω2, o = some k9 → ω2 = Ω → Inv ω2 → Vg X Q G F nL NC (cel F G ω2) cells slots (pc + 3) loc (.ref (F + k9) :: st)) : Vg X Q G F nL NC (cel F G ω) cells slots pc loc (st0) := by
  exact g_callS h hM hst mi.1 hl mi.2.1 mi.2.2.1 rfl rfl mi.2.2.2 hn ⟨by rw [hX]; exact hd, by rw [hX]; show 8 + (mL + 11) + 30 * d ≤ 30 * D; omega⟩ hW ⟨hcz, hsz⟩ dc (fun r n2 cf2 hp => by
    obtain ⟨rfl, rfl, rfl, hi⟩ := hp
    cases o with
    | none => exact k0 _ rfl rfl hi
    | some k9 => exact k1 k9 _ rfl rfl hi)
theorem k_SN_i {y : MethodName} {bytes : ByteArray} {mL np d D : Nat} {r2 : Option FieldType} {C : String} {As st0 : List Value} {e : Int32} (h : Cx X G F nL cc own ret) (hX : xR X = rmD D) (hM : CT (xl X) G F y bytes mL r2 d As ω (some (.int e)) ω) (hst : st0 = As.reverse ++ st) (mi : MS y bytes mL r2 C np) (hl : Cond.methodLinkNest own index y "FibreLoops" ∈ Tn) (hd : d + 1 ≤ D) (hL : mL ≤ 11) (hn : As.length = np) (hW : (st.map fun v => v.category).sum ≤ 8) (hcz : cells ≤ (xR X).cells) (hsz : slots ≤ (xR X).slots) (dc : decode cc pc = .ok (.invokestatic index, 3)) (kk : ∀ v, v = e → Vg X Q G F nL NC (cel F G ω) cells slots (pc + 3) loc (.int v :: st)) : Vg X Q G F nL NC (cel F G ω) cells slots pc loc (st0) := by
  exact g_callSN (C := C) h hM hst mi.1 hl mi.2.1 mi.2.2.1 rfl rfl mi.2.2.2 hn ⟨by rw [hX]; exact hd, by rw [hX]; show 8 + (mL + 11) + 30 * d ≤ 30 * D; omega⟩ hW ⟨hcz, hsz⟩ dc (fun r n2 cf2 hp => by obtain ⟨rfl, rfl, rfl, -⟩ := hp; exact kk _ rfl)
theorem k_SN_j {y : MethodName} {bytes : ByteArray} {mL np d D : Nat} {r2 : Option FieldType} {C : String} {As st0 : List Value} {e : Int32} (h : Cx X G F nL cc own ret) (hX : xR X = rmD D) (hM : CT (xl X) G F y bytes mL r2 d As ω (some (.int e)) Ω) (hst : st0 = As.reverse ++ st) (mi : MS y bytes mL r2 C np) (hl : Cond.methodLinkNest own index y "FibreLoops" ∈ Tn) (hd : d + 1 ≤ D) (hL : mL ≤ 11) (hn : As.length = np) (hW : (st.map fun v => v.category).sum ≤ 8) (hcz : cells ≤ (xR X).cells) (hsz : slots ≤ (xR X).slots) (dc : decode cc pc = .ok (.invokestatic index, 3)) (kk : ∀ v ω2, v = e → ω2 = Ω → Inv ω2 → Vg X Q G F nL NC (cel F G ω2) cells slots (pc + 3) loc (.int v :: st)) : Vg X Q G F nL NC (cel F G ω) cells slots pc loc (st0) := by
  exact g_callSN (C := C) h hM hst mi.1 hl mi.2.1 mi.2.2.1 rfl rfl mi.2.2.2 hn ⟨by rw [hX]; exact hd, by rw [hX]; show 8 + (mL + 11) + 30 * d ≤ 30 * D; omega⟩ hW ⟨hcz, hsz⟩ dc (fun r n2 cf2 hp => by obtain ⟨rfl, rfl, rfl, hi⟩ := hp; exact kk _ _ rfl rfl hi)
theorem k_SN_v {y : MethodName} {bytes : ByteArray} {mL np d D : Nat} {r2 : Option FieldType} {C : String} {As st0 : List Value} (h : Cx X G F nL cc own ret) (hX : xR X = rmD D) (hM : CT (xl X) G F y bytes mL r2 d As ω none Ω) (hst : st0 = As.reverse ++ st) (mi : MS y bytes mL r2 C np) (hl : Cond.methodLinkNest own index y "FibreLoops" ∈ Tn) (hd : d + 1 ≤ D) (hL : mL ≤ 11) (hn : As.length = np) (hW : (st.map fun v => v.category).sum ≤ 8) (hcz : cells ≤ (xR X).cells) (hsz : slots ≤ (xR X).slots) (dc : decode cc pc = .ok (.invokestatic index, 3)) (kk : ∀ ω2, ω2 = Ω → Inv ω2 → Vg X Q G F nL NC (cel F G ω2) cells slots (pc + 3) loc (st)) : Vg X Q G F nL NC (cel F G ω) cells slots pc loc (st0) := by
  exact g_callSN (C := C) h hM hst mi.1 hl mi.2.1 mi.2.2.1 rfl rfl mi.2.2.2 hn ⟨by rw [hX]; exact hd, by rw [hX]; show 8 + (mL + 11) + 30 * d ≤ 30 * D; omega⟩ hW ⟨hcz, hsz⟩ dc (fun r n2 cf2 hp => by obtain ⟨rfl, rfl, rfl, hi⟩ := hp; exact kk _ rfl hi)
theorem k_SN_r {y : MethodName} {bytes : ByteArray} {mL np d D : Nat} {r2 : Option FieldType} {C : String} {As st0 : List Value} {o : Option Nat} (h : Cx X G F nL cc own ret) (hX : xR X = rmD D) (hM : CT (xl X) G F y bytes mL r2 d As ω (some (vref F o)) ω) (hst : st0 = As.reverse ++ st) (mi : MS y bytes mL r2 C np) (hl : Cond.methodLinkNest own index y "FibreLoops" ∈ Tn) (hd : d + 1 ≤ D) (hL : mL ≤ 11) (hn : As.length = np) (hW : (st.map fun v => v.category).sum ≤ 8) (hcz : cells ≤ (xR X).cells) (hsz : slots ≤ (xR X).slots) (dc : decode cc pc = .ok (.invokestatic index, 3)) (k0 : o = none → Vg X Q G F nL NC (cel F G ω) cells slots (pc + 3) loc (.null :: st)) (k1 : ∀ k9, o = some k9 → Vg X Q G F nL NC (cel F G ω) cells slots (pc + 3) loc (.ref (F + k9) :: st)) : Vg X Q G F nL NC (cel F G ω) cells slots pc loc (st0) := by
  exact g_callSN (C := C) h hM hst mi.1 hl mi.2.1 mi.2.2.1 rfl rfl mi.2.2.2 hn ⟨by rw [hX]; exact hd, by rw [hX]; show 8 + (mL + 11) + 30 * d ≤ 30 * D; omega⟩ hW ⟨hcz, hsz⟩ dc (fun r n2 cf2 hp => by
    obtain ⟨rfl, rfl, rfl, -⟩ := hp
    cases o with
    | none => exact k0 rfl
    | some k9 => exact k1 k9 rfl)
theorem k_SN_w {y : MethodName} {bytes : ByteArray} {mL np d D : Nat} {r2 : Option FieldType} {C : String} {As st0 : List Value} {o : Option Nat} (h : Cx X G F nL cc own ret) (hX : xR X = rmD D) (hM : CT (xl X) G F y bytes mL r2 d As ω (some (vref F o)) Ω) (hst : st0 = As.reverse ++ st) (mi : MS y bytes mL r2 C np) (hl : Cond.methodLinkNest own index y "FibreLoops" ∈ Tn) (hd : d + 1 ≤ D) (hL : mL ≤ 11) (hn : As.length = np) (hW : (st.map fun v => v.category).sum ≤ 8) (hcz : cells ≤ (xR X).cells) (hsz : slots ≤ (xR X).slots) (dc : decode cc pc = .ok (.invokestatic index, 3)) (k0 : ∀ ω2, o = none → ω2 = Ω → Inv ω2 → Vg X Q G F nL NC (cel F G ω2) cells slots (pc + 3) loc (.null :: st)) (k1 : ∀ k9 ω2, o = some k9 → ω2 = Ω → Inv ω2 → Vg X Q G F nL NC (cel F G ω2) cells slots (pc + 3) loc (.ref (F + k9) :: st)) : Vg X Q G F nL NC (cel F G ω) cells slots pc loc (st0) := by
  exact g_callSN (C := C) h hM hst mi.1 hl mi.2.1 mi.2.2.1 rfl rfl mi.2.2.2 hn ⟨by rw [hX]; exact hd, by rw [hX]; show 8 + (mL + 11) + 30 * d ≤ 30 * D; omega⟩ hW ⟨hcz, hsz⟩ dc (fun r n2 cf2 hp => by
    obtain ⟨rfl, rfl, rfl, hi⟩ := hp
    cases o with
    | none => exact k0 _ rfl rfl hi
    | some k9 => exact k1 k9 _ rfl rfl hi)
end FCA
theorem mhX0_init : MH yX0_init RX0 0 := by decide +kernel
theorem mhX0_begin : MH yX0_begin RX0 5 := by decide +kernel
theorem miX0_begin : MI yX0_begin cX0_begin 6 none RX0 5 := ⟨tw_340, tw_339, ts_14, tw_6, mhX0_begin⟩
theorem mhX0_copyFrom : MH yX0_copyFrom RX0 1 := by decide +kernel
theorem miX0_copyFrom : MI yX0_copyFrom cX0_copyFrom 2 none RX0 1 := ⟨tw_273, tw_272, ts_3, tw_6, mhX0_copyFrom⟩
theorem mhX0_keptAt : MH yX0_keptAt RX0 1 := by decide +kernel
theorem miX0_keptAt : MI yX0_keptAt cX0_keptAt 2 (some .int) RX0 1 := ⟨tw_540, tw_539, ts_50, tw_6, mhX0_keptAt⟩
theorem mhX0_keepAsLast : MH yX0_keepAsLast RX0 1 := by decide +kernel
theorem miX0_keepAsLast : MI yX0_keepAsLast cX0_keepAsLast 2 none RX0 1 := ⟨tw_381, tw_380, ts_21, tw_6, mhX0_keepAsLast⟩
theorem mhX0_removeFirst : MH yX0_removeFirst RX0 0 := by decide +kernel
theorem miX0_removeFirst : MI yX0_removeFirst cX0_removeFirst 1 none RX0 0 := ⟨tw_463, tw_462, ts_37, tw_6, mhX0_removeFirst⟩
theorem mhX0_actOn : MH yX0_actOn RX0 2 := by decide +kernel
theorem miX0_actOn : MI yX0_actOn cX0_actOn 3 none RX0 2 := ⟨tw_433, tw_432, ts_31, tw_6, mhX0_actOn⟩
theorem mhX0_amplify : MH yX0_amplify RX0 1 := by decide +kernel
theorem miX0_amplify : MI yX0_amplify cX0_amplify 4 none RX0 1 := ⟨tw_437, tw_436, ts_32, tw_6, mhX0_amplify⟩
theorem mhX0_note : MH yX0_note RX0 2 := by decide +kernel
theorem miX0_note : MI yX0_note cX0_note 3 none RX0 2 := ⟨tw_448, tw_447, ts_34, tw_6, mhX0_note⟩
theorem mhX0_putNext : MH yX0_putNext RX0 3 := by decide +kernel
theorem miX0_putNext : MI yX0_putNext cX0_putNext 4 none RX0 3 := ⟨tw_458, tw_457, ts_36, tw_6, mhX0_putNext⟩
theorem mhX0_change : MH yX0_change RX0 1 := by decide +kernel
theorem miX0_change : MI yX0_change cX0_change 2 none RX0 1 := ⟨tw_468, tw_467, ts_38, tw_6, mhX0_change⟩
theorem mhX0_dropValue : MH yX0_dropValue RX0 1 := by decide +kernel
theorem miX0_dropValue : MI yX0_dropValue cX0_dropValue 2 none RX0 1 := ⟨tw_476, tw_475, ts_40, tw_6, mhX0_dropValue⟩
theorem mhX0_rest : MH yX0_rest RX0 1 := by decide +kernel
theorem miX0_rest : MI yX0_rest cX0_rest 2 none RX0 1 := ⟨tw_497, tw_496, ts_45, tw_6, mhX0_rest⟩
theorem mhX1_init : MH yX1_init RX1 0 := by decide +kernel
theorem mhX1_holdBack : MH yX1_holdBack RX1 1 := by decide +kernel
theorem miX1_holdBack : MI yX1_holdBack cX1_holdBack 2 none RX1 1 := ⟨tw_260, tw_259, ts_0, tw_8, mhX1_holdBack⟩
theorem mhX1_keepIfDone : MH yX1_keepIfDone RX1 1 := by decide +kernel
theorem miX1_keepIfDone : MI yX1_keepIfDone cX1_keepIfDone 2 (some .int) RX1 1 := ⟨tw_293, tw_292, ts_6, tw_8, mhX1_keepIfDone⟩
theorem mhX1_dropOldest : MH yX1_dropOldest RX1 0 := by decide +kernel
theorem miX1_dropOldest : MI yX1_dropOldest cX1_dropOldest 3 none RX1 0 := ⟨tw_297, tw_296, ts_7, tw_8, mhX1_dropOldest⟩
theorem mhX1_takeLatest : MH yX1_takeLatest RX1 0 := by decide +kernel
theorem miX1_takeLatest : MI yX1_takeLatest cX1_takeLatest 1 (some (.object "FibreLoops$State")) RX1 0 := ⟨tw_689, tw_688, ts_70, tw_8, mhX1_takeLatest⟩
theorem mhX2_init : MH yX2_init RX2 0 := by decide +kernel
theorem mhX2_begin : MH yX2_begin RX2 4 := by decide +kernel
theorem miX2_begin : MI yX2_begin cX2_begin 5 none RX2 4 := ⟨tw_352, tw_351, ts_16, tw_7, mhX2_begin⟩
theorem mhX2_copyFrom : MH yX2_copyFrom RX2 1 := by decide +kernel
theorem miX2_copyFrom : MI yX2_copyFrom cX2_copyFrom 2 none RX2 1 := ⟨tw_278, tw_277, ts_4, tw_7, mhX2_copyFrom⟩
theorem mhX2_actOn : MH yX2_actOn RX2 2 := by decide +kernel
theorem miX2_actOn : MI yX2_actOn cX2_actOn 5 none RX2 2 := ⟨tw_484, tw_483, ts_42, tw_7, mhX2_actOn⟩
theorem mhX3_init : MH yX3_init RX3 1 := by decide +kernel
theorem mhX3_goToStart : MH yX3_goToStart RX3 0 := by decide +kernel
theorem miX3_goToStart : MI yX3_goToStart cX3_goToStart 1 none RX3 0 := ⟨tw_627, tw_626, ts_57, tw_10, mhX3_goToStart⟩
theorem mhX3_number : MH yX3_number RX3 1 := by decide +kernel
theorem miX3_number : MI yX3_number cX3_number 2 (some .int) RX3 1 := ⟨tw_677, tw_676, ts_68, tw_10, mhX3_number⟩
theorem mhX3_firstFault : MH yX3_firstFault RX3 0 := by decide +kernel
theorem miX3_firstFault : MI yX3_firstFault cX3_firstFault 2 (some .int) RX3 0 := ⟨tw_623, tw_622, ts_56, tw_10, mhX3_firstFault⟩
theorem mhX3_readNext : MH yX3_readNext RX3 0 := by decide +kernel
theorem miX3_readNext : MI yX3_readNext cX3_readNext 1 (some .boolean) RX3 0 := ⟨tw_669, tw_668, ts_66, tw_10, mhX3_readNext⟩
theorem mhX3_readOrder : MH yX3_readOrder RX3 0 := by decide +kernel
theorem miX3_readOrder : MI yX3_readOrder cX3_readOrder 1 (some .boolean) RX3 0 := ⟨tw_631, tw_630, ts_58, tw_10, mhX3_readOrder⟩
theorem mhX3_take : MH yX3_take RX3 1 := by decide +kernel
theorem miX3_take : MI yX3_take cX3_take 2 (some .boolean) RX3 1 := ⟨tw_639, tw_638, ts_60, tw_10, mhX3_take⟩
theorem mhX3_readValues : MH yX3_readValues RX3 0 := by decide +kernel
theorem miX3_readValues : MI yX3_readValues cX3_readValues 2 (some .boolean) RX3 0 := ⟨tw_656, tw_655, ts_64, tw_10, mhX3_readValues⟩
theorem mhX3_digit : MH yX3_digit RX3 0 := by decide +kernel
theorem miX3_digit : MI yX3_digit cX3_digit 2 (some .int) RX3 0 := ⟨tw_647, tw_646, ts_62, tw_10, mhX3_digit⟩
theorem mhX3_readNumber : MH yX3_readNumber RX3 0 := by decide +kernel
theorem miX3_readNumber : MI yX3_readNumber cX3_readNumber 3 (some .boolean) RX3 0 := ⟨tw_643, tw_642, ts_61, tw_10, mhX3_readNumber⟩
theorem mhX3_readMode : MH yX3_readMode RX3 0 := by decide +kernel
theorem miX3_readMode : MI yX3_readMode cX3_readMode 2 (some .boolean) RX3 0 := ⟨tw_660, tw_659, ts_65, tw_10, mhX3_readMode⟩
theorem mhX3_keep : MH yX3_keep RX3 1 := by decide +kernel
theorem miX3_keep : MI yX3_keep cX3_keep 2 (some .boolean) RX3 1 := ⟨tw_652, tw_651, ts_63, tw_10, mhX3_keep⟩
theorem mhX4_init : MH yX4_init RX4 0 := by decide +kernel
theorem mhX4_append : MH yX4_append RX4 1 := by decide +kernel
theorem miX4_append : MI yX4_append cX4_append 2 none RX4 1 := ⟨tw_607, tw_606, ts_54, tw_9, mhX4_append⟩
theorem mhX4_clear : MH yX4_clear RX4 0 := by decide +kernel
theorem miX4_clear : MI yX4_clear cX4_clear 1 none RX4 0 := ⟨tw_615, tw_614, ts_55, tw_9, mhX4_clear⟩
theorem mhX4_signAt : MH yX4_signAt RX4 1 := by decide +kernel
theorem miX4_signAt : MI yX4_signAt cX4_signAt 2 (some .char) RX4 1 := ⟨tw_635, tw_634, ts_59, tw_9, mhX4_signAt⟩
theorem mhX5_init : MH yX5_init RX5 0 := by decide +kernel
theorem mhX5_begin : MH yX5_begin RX5 1 := by decide +kernel
theorem miX5_begin : MI yX5_begin cX5_begin 3 none RX5 1 := ⟨tw_309, tw_308, ts_9, tw_5, mhX5_begin⟩
theorem mhX5_copyFrom : MH yX5_copyFrom RX5 1 := by decide +kernel
theorem miX5_copyFrom : MI yX5_copyFrom cX5_copyFrom 2 none RX5 1 := ⟨tw_268, tw_267, ts_2, tw_5, mhX5_copyFrom⟩
theorem mhX5_has : MH yX5_has RX5 1 := by decide +kernel
theorem miX5_has : MI yX5_has cX5_has 2 (some .boolean) RX5 1 := ⟨tw_329, tw_328, ts_13, tw_5, mhX5_has⟩
theorem mhX5_strengthAt : MH yX5_strengthAt RX5 1 := by decide +kernel
theorem miX5_strengthAt : MI yX5_strengthAt cX5_strengthAt 2 (some .int) RX5 1 := ⟨tw_393, tw_392, ts_23, tw_5, mhX5_strengthAt⟩
theorem mhX5_valueAt : MH yX5_valueAt RX5 1 := by decide +kernel
theorem miX5_valueAt : MI yX5_valueAt cX5_valueAt 2 (some .int) RX5 1 := ⟨tw_453, tw_452, ts_35, tw_5, mhX5_valueAt⟩
theorem mhX5_birthAt : MH yX5_birthAt RX5 1 := by decide +kernel
theorem miX5_birthAt : MI yX5_birthAt cX5_birthAt 2 (some .int) RX5 1 := ⟨tw_508, tw_507, ts_46, tw_5, mhX5_birthAt⟩
theorem mhX5_tally : MH yX5_tally RX5 1 := by decide +kernel
theorem miX5_tally : MI yX5_tally cX5_tally 2 (some .int) RX5 1 := ⟨tw_526, tw_525, ts_49, tw_5, mhX5_tally⟩
theorem mhX5_flashes : MH yX5_flashes RX5 0 := by decide +kernel
theorem miX5_flashes : MI yX5_flashes cX5_flashes 3 (some .int) RX5 0 := ⟨tw_406, tw_405, ts_26, tw_5, mhX5_flashes⟩
theorem mhX5_strengthInAll : MH yX5_strengthInAll RX5 0 := by decide +kernel
theorem miX5_strengthInAll : MI yX5_strengthInAll cX5_strengthInAll 3 (some .int) RX5 0 := ⟨tw_518, tw_517, ts_47, tw_5, mhX5_strengthInAll⟩
theorem mhX5_faintest : MH yX5_faintest RX5 0 := by decide +kernel
theorem miX5_faintest : MI yX5_faintest cX5_faintest 4 (some .int) RX5 0 := ⟨tw_522, tw_521, ts_48, tw_5, mhX5_faintest⟩
theorem mhX5_moveOn : MH yX5_moveOn RX5 1 := by decide +kernel
theorem miX5_moveOn : MI yX5_moveOn cX5_moveOn 3 none RX5 1 := ⟨tw_422, tw_421, ts_29, tw_5, mhX5_moveOn⟩
theorem mhX5_fade : MH yX5_fade RX5 2 := by decide +kernel
theorem miX5_fade : MI yX5_fade cX5_fade 3 none RX5 2 := ⟨tw_429, tw_428, ts_30, tw_5, mhX5_fade⟩
theorem mhX5_strengthen : MH yX5_strengthen RX5 2 := by decide +kernel
theorem miX5_strengthen : MI yX5_strengthen cX5_strengthen 3 none RX5 2 := ⟨tw_443, tw_442, ts_33, tw_5, mhX5_strengthen⟩
theorem mhX5_changeValue : MH yX5_changeValue RX5 2 := by decide +kernel
theorem miX5_changeValue : MI yX5_changeValue cX5_changeValue 3 none RX5 2 := ⟨tw_472, tw_471, ts_39, tw_5, mhX5_changeValue⟩
theorem mhX5_putIn : MH yX5_putIn RX5 4 := by decide +kernel
theorem miX5_putIn : MI yX5_putIn cX5_putIn 5 none RX5 4 := ⟨tw_402, tw_401, ts_25, tw_5, mhX5_putIn⟩
theorem mhX5_drop : MH yX5_drop RX5 1 := by decide +kernel
theorem miX5_drop : MI yX5_drop cX5_drop 2 none RX5 1 := ⟨tw_480, tw_479, ts_41, tw_5, mhX5_drop⟩
theorem mhX5_exchange : MH yX5_exchange RX5 3 := by decide +kernel
theorem miX5_exchange : MI yX5_exchange cX5_exchange 7 none RX5 3 := ⟨tw_489, tw_488, ts_43, tw_5, mhX5_exchange⟩
theorem mhX5_tellCrossing : MH yX5_tellCrossing RX5 1 := by decide +kernel
theorem miX5_tellCrossing : MI yX5_tellCrossing cX5_tellCrossing 2 none RX5 1 := ⟨tw_493, tw_492, ts_44, tw_5, mhX5_tellCrossing⟩
theorem mhX6_init : MH yX6_init RX6 0 := by decide +kernel
theorem mhX6_copyFrom : MH yX6_copyFrom RX6 1 := by decide +kernel
theorem miX6_copyFrom : MI yX6_copyFrom cX6_copyFrom 3 none RX6 1 := ⟨tw_264, tw_263, ts_1, tw_2, mhX6_copyFrom⟩
theorem mhX6_ringOf : MH yX6_ringOf RX6 1 := by decide +kernel
theorem miX6_ringOf : MI yX6_ringOf cX6_ringOf 2 (some (.object "FibreLoops$Ring")) RX6 1 := ⟨tw_325, tw_324, ts_12, tw_2, mhX6_ringOf⟩
theorem mhX6_ringWith : MH yX6_ringWith RX6 2 := by decide +kernel
theorem miX6_ringWith : MI yX6_ringWith cX6_ringWith 4 (some (.object "FibreLoops$Ring")) RX6 2 := ⟨tw_321, tw_320, ts_11, tw_2, mhX6_ringWith⟩
theorem mhX6_deviceOf : MH yX6_deviceOf RX6 1 := by decide +kernel
theorem miX6_deviceOf : MI yX6_deviceOf cX6_deviceOf 2 (some (.object "FibreLoops$Device")) RX6 1 := ⟨tw_376, tw_375, ts_20, tw_2, mhX6_deviceOf⟩
theorem mhX6_joinOf : MH yX6_joinOf RX6 1 := by decide +kernel
theorem miX6_joinOf : MI yX6_joinOf cX6_joinOf 2 (some (.object "FibreLoops$Join")) RX6 1 := ⟨tw_364, tw_363, ts_18, tw_2, mhX6_joinOf⟩
theorem mhX6_setting : MH yX6_setting RX6 1 := by decide +kernel
theorem miX6_setting : MI yX6_setting cX6_setting 2 (some .int) RX6 1 := ⟨tw_398, tw_397, ts_24, tw_2, mhX6_setting⟩
theorem mhX6_changeSetting : MH yX6_changeSetting RX6 2 := by decide +kernel
theorem miX6_changeSetting : MI yX6_changeSetting cX6_changeSetting 4 (some .int) RX6 2 := ⟨tw_282, tw_281, ts_5, tw_2, mhX6_changeSetting⟩
theorem mhX6_addRing : MH yX6_addRing RX6 1 := by decide +kernel
theorem miX6_addRing : MI yX6_addRing cX6_addRing 2 (some .int) RX6 1 := ⟨tw_305, tw_304, ts_8, tw_2, mhX6_addRing⟩
theorem mhX6_addDevice : MH yX6_addDevice RX6 5 := by decide +kernel
theorem miX6_addDevice : MI yX6_addDevice cX6_addDevice 6 (some .int) RX6 5 := ⟨tw_317, tw_316, ts_10, tw_2, mhX6_addDevice⟩
theorem mhX6_addJoin : MH yX6_addJoin RX6 4 := by decide +kernel
theorem miX6_addJoin : MI yX6_addJoin cX6_addJoin 5 (some .int) RX6 4 := ⟨tw_348, tw_347, ts_15, tw_2, mhX6_addJoin⟩
theorem mhX6_turnJoin : MH yX6_turnJoin RX6 2 := by decide +kernel
theorem miX6_turnJoin : MI yX6_turnJoin cX6_turnJoin 5 (some .int) RX6 2 := ⟨tw_360, tw_359, ts_17, tw_2, mhX6_turnJoin⟩
theorem mhX6_feedDevice : MH yX6_feedDevice RX6 2 := by decide +kernel
theorem miX6_feedDevice : MI yX6_feedDevice cX6_feedDevice 4 (some .int) RX6 2 := ⟨tw_372, tw_371, ts_19, tw_2, mhX6_feedDevice⟩
theorem mhX6_lightFlash : MH yX6_lightFlash RX6 3 := by decide +kernel
theorem miX6_lightFlash : MI yX6_lightFlash cX6_lightFlash 5 (some .int) RX6 3 := ⟨tw_389, tw_388, ts_22, tw_2, mhX6_lightFlash⟩
theorem mhX6_passTicks : MH yX6_passTicks RX6 1 := by decide +kernel
theorem miX6_passTicks : MI yX6_passTicks cX6_passTicks 3 (some .int) RX6 1 := ⟨tw_414, tw_413, ts_27, tw_2, mhX6_passTicks⟩
theorem mhX6_ticksToLoss : MH yX6_ticksToLoss RX6 1 := by decide +kernel
theorem miX6_ticksToLoss : MI yX6_ticksToLoss cX6_ticksToLoss 4 (some .int) RX6 1 := ⟨tw_580, tw_579, ts_53, tw_2, mhX6_ticksToLoss⟩
theorem mhX6_passOne : MH yX6_passOne RX6 0 := by decide +kernel
theorem miX6_passOne : MI yX6_passOne cX6_passOne 4 none RX6 0 := ⟨tw_418, tw_417, ts_28, tw_2, mhX6_passOne⟩
theorem mhX6_flashesInAll : MH yX6_flashesInAll RX6 0 := by decide +kernel
theorem miX6_flashesInAll : MI yX6_flashesInAll cX6_flashesInAll 3 (some .int) RX6 0 := ⟨tw_557, tw_556, ts_51, tw_2, mhX6_flashesInAll⟩
theorem mhX6_tallyInAll : MH yX6_tallyInAll RX6 1 := by decide +kernel
theorem miX6_tallyInAll : MI yX6_tallyInAll cX6_tallyInAll 4 (some .int) RX6 1 := ⟨tw_561, tw_560, ts_52, tw_2, mhX6_tallyInAll⟩
theorem mhX7_init : MH yX7_init RX7 0 := by decide +kernel
theorem mhX7_set : MH yX7_set RX7 2 := by decide +kernel
theorem miX7_set : MI yX7_set cX7_set 3 (some .int) RX7 2 := ⟨tw_256, tw_254, tw_255, tw_1, mhX7_set⟩
theorem mhX7_loop : MH yX7_loop RX7 1 := by decide +kernel
theorem miX7_loop : MI yX7_loop cX7_loop 2 (some .int) RX7 1 := ⟨tw_301, tw_299, tw_300, tw_1, mhX7_loop⟩
theorem mhX7_device : MH yX7_device RX7 5 := by decide +kernel
theorem miX7_device : MI yX7_device cX7_device 6 (some .int) RX7 5 := ⟨tw_313, tw_311, tw_312, tw_1, mhX7_device⟩
theorem mhX7_join : MH yX7_join RX7 4 := by decide +kernel
theorem miX7_join : MI yX7_join cX7_join 5 (some .int) RX7 4 := ⟨tw_344, tw_342, tw_343, tw_1, mhX7_join⟩
theorem mhX7_turn : MH yX7_turn RX7 2 := by decide +kernel
theorem miX7_turn : MI yX7_turn cX7_turn 3 (some .int) RX7 2 := ⟨tw_356, tw_354, tw_355, tw_1, mhX7_turn⟩
theorem mhX7_feed : MH yX7_feed RX7 2 := by decide +kernel
theorem miX7_feed : MI yX7_feed cX7_feed 3 (some .int) RX7 2 := ⟨tw_368, tw_366, tw_367, tw_1, mhX7_feed⟩
theorem mhX7_light : MH yX7_light RX7 3 := by decide +kernel
theorem miX7_light : MI yX7_light cX7_light 4 (some .int) RX7 3 := ⟨tw_385, tw_383, tw_384, tw_1, mhX7_light⟩
theorem mhX7_ticks : MH yX7_ticks RX7 1 := by decide +kernel
theorem miX7_ticks : MI yX7_ticks cX7_ticks 2 (some .int) RX7 1 := ⟨tw_410, tw_408, tw_409, tw_1, mhX7_ticks⟩
theorem mhX7_at : MH yX7_at RX7 3 := by decide +kernel
theorem miX7_at : MI yX7_at cX7_at 5 (some .int) RX7 3 := ⟨tw_501, tw_499, tw_500, tw_1, mhX7_at⟩
theorem mhX7_ofLoop : MH yX7_ofLoop RX7 2 := by decide +kernel
theorem miX7_ofLoop : MI yX7_ofLoop cX7_ofLoop 4 (some .int) RX7 2 := ⟨tw_512, tw_510, tw_511, tw_1, mhX7_ofLoop⟩
theorem mhX7_ofDevice : MH yX7_ofDevice RX7 2 := by decide +kernel
theorem miX7_ofDevice : MI yX7_ofDevice cX7_ofDevice 4 (some .int) RX7 2 := ⟨tw_531, tw_529, tw_530, tw_1, mhX7_ofDevice⟩
theorem mhX7_noted : MH yX7_noted RX7 2 := by decide +kernel
theorem miX7_noted : MI yX7_noted cX7_noted 4 (some .int) RX7 2 := ⟨tw_536, tw_534, tw_535, tw_1, mhX7_noted⟩
theorem mhX7_ofJoin : MH yX7_ofJoin RX7 2 := by decide +kernel
theorem miX7_ofJoin : MI yX7_ofJoin cX7_ofJoin 4 (some .int) RX7 2 := ⟨tw_544, tw_542, tw_543, tw_1, mhX7_ofJoin⟩
theorem mhX7_find : MH yX7_find RX7 2 := by decide +kernel
theorem miX7_find : MI yX7_find cX7_find 9 (some .int) RX7 2 := ⟨tw_549, tw_547, tw_548, tw_1, mhX7_find⟩
theorem mhX7_count : MH yX7_count RX7 1 := by decide +kernel
theorem miX7_count : MI yX7_count cX7_count 2 (some .int) RX7 1 := ⟨tw_553, tw_551, tw_552, tw_1, mhX7_count⟩
theorem mhX7_valueIn : MH yX7_valueIn RX7 3 := by decide +kernel
theorem miX7_valueIn : MI yX7_valueIn cX7_valueIn 5 (some .int) RX7 3 := ⟨tw_567, tw_565, tw_566, tw_1, mhX7_valueIn⟩
theorem mhX7_leftIn : MH yX7_leftIn RX7 1 := by decide +kernel
theorem miX7_leftIn : MI yX7_leftIn cX7_leftIn 2 (some .int) RX7 1 := ⟨tw_572, tw_570, tw_571, tw_1, mhX7_leftIn⟩
theorem mhX7_firstLoss : MH yX7_firstLoss RX7 0 := by decide +kernel
theorem miX7_firstLoss : MI yX7_firstLoss cX7_firstLoss 1 (some .int) RX7 0 := ⟨tw_576, tw_574, tw_575, tw_1, mhX7_firstLoss⟩
theorem mhX7_bestPlace : MH yX7_bestPlace RX7 4 := by decide +kernel
theorem miX7_bestPlace : MI yX7_bestPlace cX7_bestPlace 10 (some .int) RX7 4 := ⟨tw_585, tw_583, tw_584, tw_1, mhX7_bestPlace⟩
theorem mhX7_bearable : MH yX7_bearable RX7 0 := by decide +kernel
theorem miX7_bearable : MI yX7_bearable cX7_bearable 2 (some .int) RX7 0 := ⟨tw_590, tw_588, tw_589, tw_1, mhX7_bearable⟩
theorem mhX7_put : MH yX7_put RX7 1 := by decide +kernel
theorem miX7_put : MI yX7_put cX7_put 5 (some .int) RX7 1 := ⟨tw_596, tw_594, tw_595, tw_1, mhX7_put⟩
theorem mhX7_wipe : MH yX7_wipe RX7 0 := by decide +kernel
theorem miX7_wipe : MI yX7_wipe cX7_wipe 2 (some .int) RX7 0 := ⟨tw_611, tw_609, tw_610, tw_1, mhX7_wipe⟩
theorem mhX7_fault : MH yX7_fault RX7 0 := by decide +kernel
theorem miX7_fault : MI yX7_fault cX7_fault 1 (some .int) RX7 0 := ⟨tw_619, tw_617, tw_618, tw_1, mhX7_fault⟩
theorem mhX7_carryOut : MH yX7_carryOut RX7 0 := by decide +kernel
theorem miX7_carryOut : MI yX7_carryOut cX7_carryOut 2 (some .int) RX7 0 := ⟨tw_664, tw_662, tw_663, tw_1, mhX7_carryOut⟩
theorem mhX7_carryOrder : MH yX7_carryOrder RX7 0 := by decide +kernel
theorem miX7_carryOrder : MI yX7_carryOrder cX7_carryOrder 2 (some .boolean) RX7 0 := ⟨tw_673, tw_672, ts_67, tw_1, mhX7_carryOrder⟩
theorem mhX7_feedAll : MH yX7_feedAll RX7 1 := by decide +kernel
theorem miX7_feedAll : MI yX7_feedAll cX7_feedAll 3 (some .boolean) RX7 1 := ⟨tw_681, tw_680, ts_69, tw_1, mhX7_feedAll⟩
theorem mhX7_undo : MH yX7_undo RX7 0 := by decide +kernel
theorem miX7_undo : MI yX7_undo cX7_undo 2 (some .int) RX7 0 := ⟨tw_685, tw_683, tw_684, tw_1, mhX7_undo⟩
theorem mhX7_save : MH yX7_save RX7 1 := by decide +kernel
theorem miX7_save : MI yX7_save cX7_save 3 (some .int) RX7 1 := ⟨tw_693, tw_691, tw_692, tw_1, mhX7_save⟩
theorem mhX7_restore : MH yX7_restore RX7 1 := by decide +kernel
theorem miX7_restore : MI yX7_restore cX7_restore 3 (some .int) RX7 1 := ⟨tw_701, tw_699, tw_700, tw_1, mhX7_restore⟩
theorem mhX7_slotOf : MH yX7_slotOf RX7 1 := by decide +kernel
theorem miX7_slotOf : MI yX7_slotOf cX7_slotOf 2 (some (.object "FibreLoops$State")) RX7 1 := ⟨tw_697, tw_696, ts_71, tw_1, mhX7_slotOf⟩
theorem mhX7_isBetween : MH yX7_isBetween RX7 3 := by decide +kernel
theorem miX7_isBetween : MS yX7_isBetween cX7_isBetween 3 (some .boolean) RX7 3 := ⟨tw_285, tw_284, tw_1, mhX7_isBetween⟩
theorem mhX7_isValue : MH yX7_isValue RX7 1 := by decide +kernel
theorem miX7_isValue : MS yX7_isValue cX7_isValue 1 (some .boolean) RX7 1 := ⟨tw_336, tw_335, tw_1, mhX7_isValue⟩
theorem mhX7_fits : MH yX7_fits RX7 3 := by decide +kernel
theorem miX7_fits : MS yX7_fits cX7_fits 3 (some .boolean) RX7 3 := ⟨tw_332, tw_331, tw_1, mhX7_fits⟩
theorem mhX7_signIn : MH yX7_signIn RX7 2 := by decide +kernel
theorem miX7_signIn : MS yX7_signIn cX7_signIn 3 (some .char) RX7 2 := ⟨tw_602, tw_601, tw_1, mhX7_signIn⟩
theorem mhX7_signsIn : MH yX7_signsIn RX7 1 := by decide +kernel
theorem miX7_signsIn : MS yX7_signsIn cX7_signsIn 3 (some .int) RX7 1 := ⟨tw_599, tw_598, tw_1, mhX7_signsIn⟩
theorem mhX7_copyRow : MH yX7_copyRow RX7 2 := by decide +kernel
theorem miX7_copyRow : MS yX7_copyRow cX7_copyRow 2 none RX7 2 := ⟨tw_36, tw_35, tw_1, mhX7_copyRow⟩
theorem mhX7_turnRow : MH yX7_turnRow RX7 2 := by decide +kernel
theorem miX7_turnRow : MS yX7_turnRow cX7_turnRow 3 none RX7 2 := ⟨tw_425, tw_424, tw_1, mhX7_turnRow⟩
theorem mhX8_init : MH yX8_init RX8 0 := by decide +kernel
theorem mhX8_in : MH yX8_in RX8 3 := by decide +kernel
theorem miX8_in : MS yX8_in cX8_in 3 (some .boolean) RX8 3 := ⟨tw_763, tw_762, tw_11, mhX8_in⟩
theorem mhX8_ofL : MH yX8_ofL RX8 2 := by decide +kernel
theorem miX8_ofL : MI yX8_ofL cX8_ofL 3 (some .int) RX8 2 := ⟨tw_790, tw_789, ts_75, tw_11, mhX8_ofL⟩
theorem mhX8_moreL : MH yX8_moreL RX8 2 := by decide +kernel
theorem miX8_moreL : MI yX8_moreL cX8_moreL 3 none RX8 2 := ⟨tw_859, tw_858, ts_86, tw_11, mhX8_moreL⟩
theorem mhX8_ofD : MH yX8_ofD RX8 2 := by decide +kernel
theorem miX8_ofD : MI yX8_ofD cX8_ofD 3 (some .int) RX8 2 := ⟨tw_840, tw_839, ts_83, tw_11, mhX8_ofD⟩
theorem mhX8_layD : MH yX8_layD RX8 3 := by decide +kernel
theorem miX8_layD : MI yX8_layD cX8_layD 4 none RX8 3 := ⟨tw_804, tw_803, ts_77, tw_11, mhX8_layD⟩
theorem mhX8_ofJ : MH yX8_ofJ RX8 2 := by decide +kernel
theorem miX8_ofJ : MI yX8_ofJ cX8_ofJ 3 (some .int) RX8 2 := ⟨tw_824, tw_823, ts_80, tw_11, mhX8_ofJ⟩
theorem mhX8_cell : MH yX8_cell RX8 2 := by decide +kernel
theorem miX8_cell : MS yX8_cell cX8_cell 2 (some .int) RX8 2 := ⟨tw_851, tw_850, tw_11, mhX8_cell⟩
theorem mhX8_isLoop : MH yX8_isLoop RX8 1 := by decide +kernel
theorem miX8_isLoop : MI yX8_isLoop cX8_isLoop 2 (some .boolean) RX8 1 := ⟨tw_786, tw_785, ts_74, tw_11, mhX8_isLoop⟩
theorem mhX8_isPlace : MH yX8_isPlace RX8 2 := by decide +kernel
theorem miX8_isPlace : MI yX8_isPlace cX8_isPlace 3 (some .boolean) RX8 2 := ⟨tw_782, tw_781, ts_73, tw_11, mhX8_isPlace⟩
theorem mhX8_isDevice : MH yX8_isDevice RX8 1 := by decide +kernel
theorem miX8_isDevice : MI yX8_isDevice cX8_isDevice 2 (some .boolean) RX8 1 := ⟨tw_836, tw_835, ts_82, tw_11, mhX8_isDevice⟩
theorem mhX8_isValue : MH yX8_isValue RX8 1 := by decide +kernel
theorem miX8_isValue : MS yX8_isValue cX8_isValue 1 (some .boolean) RX8 1 := ⟨tw_796, tw_795, tw_11, mhX8_isValue⟩
theorem mhX8_keep : MH yX8_keep RX8 0 := by decide +kernel
theorem miX8_keep : MI yX8_keep cX8_keep 3 none RX8 0 := ⟨tw_770, tw_769, ts_72, tw_11, mhX8_keep⟩
theorem mhX8_keepIf : MH yX8_keepIf RX8 1 := by decide +kernel
theorem miX8_keepIf : MI yX8_keepIf cX8_keepIf 2 none RX8 1 := ⟨tw_820, tw_819, ts_79, tw_11, mhX8_keepIf⟩
theorem mhX8_layAside : MH yX8_layAside RX8 0 := by decide +kernel
theorem miX8_layAside : MI yX8_layAside cX8_layAside 2 none RX8 0 := ⟨tw_979, tw_978, ts_107, tw_11, mhX8_layAside⟩
theorem mhX8_layBack : MH yX8_layBack RX8 0 := by decide +kernel
theorem miX8_layBack : MI yX8_layBack cX8_layBack 2 none RX8 0 := ⟨tw_983, tw_982, ts_108, tw_11, mhX8_layBack⟩
theorem mhX8_clear : MH yX8_clear RX8 1 := by decide +kernel
theorem miX8_clear : MI yX8_clear cX8_clear 2 none RX8 1 := ⟨tw_891, tw_890, ts_93, tw_11, mhX8_clear⟩
theorem mhX8_shine : MH yX8_shine RX8 3 := by decide +kernel
theorem miX8_shine : MI yX8_shine cX8_shine 4 none RX8 3 := ⟨tw_855, tw_854, ts_85, tw_11, mhX8_shine⟩
theorem mhX8_moveTo : MH yX8_moveTo RX8 2 := by decide +kernel
theorem miX8_moveTo : MI yX8_moveTo cX8_moveTo 4 none RX8 2 := ⟨tw_887, tw_886, ts_92, tw_11, mhX8_moveTo⟩
theorem mhX8_turnOn : MH yX8_turnOn RX8 1 := by decide +kernel
theorem miX8_turnOn : MI yX8_turnOn cX8_turnOn 7 none RX8 1 := ⟨tw_883, tw_882, ts_91, tw_11, mhX8_turnOn⟩
theorem mhX8_fade : MH yX8_fade RX8 3 := by decide +kernel
theorem miX8_fade : MI yX8_fade cX8_fade 4 none RX8 3 := ⟨tw_899, tw_898, ts_95, tw_11, mhX8_fade⟩
theorem mhX8_fadeAll : MH yX8_fadeAll RX8 1 := by decide +kernel
theorem miX8_fadeAll : MI yX8_fadeAll cX8_fadeAll 4 none RX8 1 := ⟨tw_895, tw_894, ts_94, tw_11, mhX8_fadeAll⟩
theorem mhX8_did : MH yX8_did RX8 1 := by decide +kernel
theorem miX8_did : MI yX8_did cX8_did 2 none RX8 1 := ⟨tw_911, tw_910, ts_98, tw_11, mhX8_did⟩
theorem mhX8_amplify : MH yX8_amplify RX8 2 := by decide +kernel
theorem miX8_amplify : MI yX8_amplify cX8_amplify 4 none RX8 2 := ⟨tw_907, tw_906, ts_97, tw_11, mhX8_amplify⟩
theorem mhX8_note : MH yX8_note RX8 2 := by decide +kernel
theorem miX8_note : MI yX8_note cX8_note 4 none RX8 2 := ⟨tw_915, tw_914, ts_99, tw_11, mhX8_note⟩
theorem mhX8_putIn : MH yX8_putIn RX8 2 := by decide +kernel
theorem miX8_putIn : MI yX8_putIn cX8_putIn 4 none RX8 2 := ⟨tw_919, tw_918, ts_100, tw_11, mhX8_putIn⟩
theorem mhX8_act : MH yX8_act RX8 1 := by decide +kernel
theorem miX8_act : MI yX8_act cX8_act 4 none RX8 1 := ⟨tw_903, tw_902, ts_96, tw_11, mhX8_act⟩
theorem mhX8_crossed : MH yX8_crossed RX8 3 := by decide +kernel
theorem miX8_crossed : MI yX8_crossed cX8_crossed 4 none RX8 3 := ⟨tw_927, tw_926, ts_102, tw_11, mhX8_crossed⟩
theorem mhX8_cross : MH yX8_cross RX8 1 := by decide +kernel
theorem miX8_cross : MI yX8_cross cX8_cross 9 none RX8 1 := ⟨tw_923, tw_922, ts_101, tw_11, mhX8_cross⟩
theorem mhX8_recover : MH yX8_recover RX8 1 := by decide +kernel
theorem miX8_recover : MI yX8_recover cX8_recover 3 none RX8 1 := ⟨tw_931, tw_930, ts_103, tw_11, mhX8_recover⟩
theorem mhX8_pass : MH yX8_pass RX8 0 := by decide +kernel
theorem miX8_pass : MI yX8_pass cX8_pass 2 none RX8 0 := ⟨tw_879, tw_878, ts_90, tw_11, mhX8_pass⟩
theorem mhX8_passAll : MH yX8_passAll RX8 1 := by decide +kernel
theorem miX8_passAll : MI yX8_passAll cX8_passAll 3 none RX8 1 := ⟨tw_875, tw_874, ts_89, tw_11, mhX8_passAll⟩
theorem mhX8_highest : MH yX8_highest RX8 1 := by decide +kernel
theorem miX8_highest : MS yX8_highest cX8_highest 1 (some .int) RX8 1 := ⟨tw_766, tw_765, tw_11, mhX8_highest⟩
theorem mhX8_set : MH yX8_set RX8 2 := by decide +kernel
theorem miX8_set : MI yX8_set cX8_set 4 (some .int) RX8 2 := ⟨tw_760, tw_758, tw_759, tw_11, mhX8_set⟩
theorem mhX8_loop : MH yX8_loop RX8 1 := by decide +kernel
theorem miX8_loop : MI yX8_loop cX8_loop 2 (some .int) RX8 1 := ⟨tw_774, tw_772, tw_773, tw_11, mhX8_loop⟩
theorem mhX8_areNumbers : MH yX8_areNumbers RX8 3 := by decide +kernel
theorem miX8_areNumbers : MS yX8_areNumbers cX8_areNumbers 3 (some .boolean) RX8 3 := ⟨tw_793, tw_792, tw_11, mhX8_areNumbers⟩
theorem mhX8_make : MH yX8_make RX8 5 := by decide +kernel
theorem miX8_make : MI yX8_make cX8_make 7 none RX8 5 := ⟨tw_800, tw_799, ts_76, tw_11, mhX8_make⟩
theorem mhX8_device : MH yX8_device RX8 5 := by decide +kernel
theorem miX8_device : MI yX8_device cX8_device 6 (some .int) RX8 5 := ⟨tw_778, tw_776, tw_777, tw_11, mhX8_device⟩
theorem mhX8_join : MH yX8_join RX8 4 := by decide +kernel
theorem miX8_join : MI yX8_join cX8_join 6 (some .int) RX8 4 := ⟨tw_808, tw_806, tw_807, tw_11, mhX8_join⟩
theorem mhX8_tryTurn : MH yX8_tryTurn RX8 3 := by decide +kernel
theorem miX8_tryTurn : MI yX8_tryTurn cX8_tryTurn 5 (some .int) RX8 3 := ⟨tw_816, tw_815, ts_78, tw_11, mhX8_tryTurn⟩
theorem mhX8_turn : MH yX8_turn RX8 2 := by decide +kernel
theorem miX8_turn : MI yX8_turn cX8_turn 3 (some .int) RX8 2 := ⟨tw_812, tw_810, tw_811, tw_11, mhX8_turn⟩
theorem mhX8_tryFeed : MH yX8_tryFeed RX8 3 := by decide +kernel
theorem miX8_tryFeed : MI yX8_tryFeed cX8_tryFeed 4 (some .int) RX8 3 := ⟨tw_832, tw_831, ts_81, tw_11, mhX8_tryFeed⟩
theorem mhX8_feed : MH yX8_feed RX8 2 := by decide +kernel
theorem miX8_feed : MI yX8_feed cX8_feed 3 (some .int) RX8 2 := ⟨tw_828, tw_826, tw_827, tw_11, mhX8_feed⟩
theorem mhX8_flashes : MH yX8_flashes RX8 1 := by decide +kernel
theorem miX8_flashes : MI yX8_flashes cX8_flashes 4 (some .int) RX8 1 := ⟨tw_863, tw_862, ts_87, tw_11, mhX8_flashes⟩
theorem mhX8_tryLight : MH yX8_tryLight RX8 4 := by decide +kernel
theorem miX8_tryLight : MI yX8_tryLight cX8_tryLight 5 (some .int) RX8 4 := ⟨tw_848, tw_847, ts_84, tw_11, mhX8_tryLight⟩
theorem mhX8_light : MH yX8_light RX8 3 := by decide +kernel
theorem miX8_light : MI yX8_light cX8_light 4 (some .int) RX8 3 := ⟨tw_844, tw_842, tw_843, tw_11, mhX8_light⟩
theorem mhX8_tryTicks : MH yX8_tryTicks RX8 2 := by decide +kernel
theorem miX8_tryTicks : MI yX8_tryTicks cX8_tryTicks 3 (some .int) RX8 2 := ⟨tw_871, tw_870, ts_88, tw_11, mhX8_tryTicks⟩
theorem mhX8_ticks : MH yX8_ticks RX8 1 := by decide +kernel
theorem miX8_ticks : MI yX8_ticks cX8_ticks 2 (some .int) RX8 1 := ⟨tw_867, tw_865, tw_866, tw_11, mhX8_ticks⟩
theorem mhX8_at : MH yX8_at RX8 3 := by decide +kernel
theorem miX8_at : MI yX8_at cX8_at 5 (some .int) RX8 3 := ⟨tw_935, tw_933, tw_934, tw_11, mhX8_at⟩
theorem mhX8_strengths : MH yX8_strengths RX8 1 := by decide +kernel
theorem miX8_strengths : MI yX8_strengths cX8_strengths 4 (some .int) RX8 1 := ⟨tw_943, tw_942, ts_104, tw_11, mhX8_strengths⟩
theorem mhX8_faintest : MH yX8_faintest RX8 1 := by decide +kernel
theorem miX8_faintest : MI yX8_faintest cX8_faintest 5 (some .int) RX8 1 := ⟨tw_947, tw_946, ts_105, tw_11, mhX8_faintest⟩
theorem mhX8_ofLoop : MH yX8_ofLoop RX8 2 := by decide +kernel
theorem miX8_ofLoop : MI yX8_ofLoop cX8_ofLoop 3 (some .int) RX8 2 := ⟨tw_939, tw_937, tw_938, tw_11, mhX8_ofLoop⟩
theorem mhX8_ofDevice : MH yX8_ofDevice RX8 2 := by decide +kernel
theorem miX8_ofDevice : MI yX8_ofDevice cX8_ofDevice 3 (some .int) RX8 2 := ⟨tw_951, tw_949, tw_950, tw_11, mhX8_ofDevice⟩
theorem mhX8_noted : MH yX8_noted RX8 2 := by decide +kernel
theorem miX8_noted : MI yX8_noted cX8_noted 3 (some .int) RX8 2 := ⟨tw_955, tw_953, tw_954, tw_11, mhX8_noted⟩
theorem mhX8_ofJoin : MH yX8_ofJoin RX8 2 := by decide +kernel
theorem miX8_ofJoin : MI yX8_ofJoin cX8_ofJoin 3 (some .int) RX8 2 := ⟨tw_959, tw_957, tw_958, tw_11, mhX8_ofJoin⟩
theorem mhX8_find : MH yX8_find RX8 2 := by decide +kernel
theorem miX8_find : MI yX8_find cX8_find 7 (some .int) RX8 2 := ⟨tw_963, tw_961, tw_962, tw_11, mhX8_find⟩
theorem mhX8_sum : MH yX8_sum RX8 1 := by decide +kernel
theorem miX8_sum : MI yX8_sum cX8_sum 4 (some .int) RX8 1 := ⟨tw_971, tw_970, ts_106, tw_11, mhX8_sum⟩
theorem mhX8_count : MH yX8_count RX8 1 := by decide +kernel
theorem miX8_count : MI yX8_count cX8_count 2 (some .int) RX8 1 := ⟨tw_967, tw_965, tw_966, tw_11, mhX8_count⟩
theorem mhX8_valueIn : MH yX8_valueIn RX8 3 := by decide +kernel
theorem miX8_valueIn : MI yX8_valueIn cX8_valueIn 5 (some .int) RX8 3 := ⟨tw_975, tw_973, tw_974, tw_11, mhX8_valueIn⟩
theorem mhX8_leftIn : MH yX8_leftIn RX8 1 := by decide +kernel
theorem miX8_leftIn : MI yX8_leftIn cX8_leftIn 3 (some .int) RX8 1 := ⟨tw_987, tw_985, tw_986, tw_11, mhX8_leftIn⟩
theorem mhX8_lossWithin : MH yX8_lossWithin RX8 1 := by decide +kernel
theorem miX8_lossWithin : MI yX8_lossWithin cX8_lossWithin 4 (some .int) RX8 1 := ⟨tw_995, tw_994, ts_109, tw_11, mhX8_lossWithin⟩
theorem mhX8_firstLoss : MH yX8_firstLoss RX8 0 := by decide +kernel
theorem miX8_firstLoss : MI yX8_firstLoss cX8_firstLoss 2 (some .int) RX8 0 := ⟨tw_991, tw_989, tw_990, tw_11, mhX8_firstLoss⟩
theorem mhX8_bestPlace : MH yX8_bestPlace RX8 4 := by decide +kernel
theorem miX8_bestPlace : MI yX8_bestPlace cX8_bestPlace 9 (some .int) RX8 4 := ⟨tw_999, tw_997, tw_998, tw_11, mhX8_bestPlace⟩
theorem mhX8_bearable : MH yX8_bearable RX8 0 := by decide +kernel
theorem miX8_bearable : MI yX8_bearable cX8_bearable 4 (some .int) RX8 0 := ⟨tw_1003, tw_1001, tw_1002, tw_11, mhX8_bearable⟩
theorem mhX8_put : MH yX8_put RX8 1 := by decide +kernel
theorem miX8_put : MI yX8_put cX8_put 7 (some .int) RX8 1 := ⟨tw_1007, tw_1005, tw_1006, tw_11, mhX8_put⟩
theorem mhX8_wipe : MH yX8_wipe RX8 0 := by decide +kernel
theorem miX8_wipe : MI yX8_wipe cX8_wipe 2 (some .int) RX8 0 := ⟨tw_1012, tw_1010, tw_1011, tw_11, mhX8_wipe⟩
theorem mhX8_next : MH yX8_next RX8 0 := by decide +kernel
theorem miX8_next : MI yX8_next cX8_next 1 (some .int) RX8 0 := ⟨tw_1024, tw_1023, ts_111, tw_11, mhX8_next⟩
theorem mhX8_takeSign : MH yX8_takeSign RX8 1 := by decide +kernel
theorem miX8_takeSign : MI yX8_takeSign cX8_takeSign 2 none RX8 1 := ⟨tw_1032, tw_1031, ts_113, tw_11, mhX8_takeSign⟩
theorem mhX8_takeNumber : MH yX8_takeNumber RX8 0 := by decide +kernel
theorem miX8_takeNumber : MI yX8_takeNumber cX8_takeNumber 2 none RX8 0 := ⟨tw_1028, tw_1027, ts_112, tw_11, mhX8_takeNumber⟩
theorem mhX8_takeMode : MH yX8_takeMode RX8 0 := by decide +kernel
theorem miX8_takeMode : MI yX8_takeMode cX8_takeMode 1 none RX8 0 := ⟨tw_1036, tw_1035, ts_114, tw_11, mhX8_takeMode⟩
theorem mhX8_takeOrder : MH yX8_takeOrder RX8 0 := by decide +kernel
theorem miX8_takeOrder : MI yX8_takeOrder cX8_takeOrder 2 none RX8 0 := ⟨tw_1020, tw_1019, ts_110, tw_11, mhX8_takeOrder⟩
theorem mhX8_fault : MH yX8_fault RX8 0 := by decide +kernel
theorem miX8_fault : MI yX8_fault cX8_fault 1 (some .int) RX8 0 := ⟨tw_1016, tw_1014, tw_1015, tw_11, mhX8_fault⟩
theorem mhX8_feedAll : MH yX8_feedAll RX8 1 := by decide +kernel
theorem miX8_feedAll : MI yX8_feedAll cX8_feedAll 4 (some .int) RX8 1 := ⟨tw_1049, tw_1048, ts_116, tw_11, mhX8_feedAll⟩
theorem mhX8_carry : MH yX8_carry RX8 1 := by decide +kernel
theorem miX8_carry : MI yX8_carry cX8_carry 3 (some .int) RX8 1 := ⟨tw_1045, tw_1044, ts_115, tw_11, mhX8_carry⟩
theorem mhX8_carryOut : MH yX8_carryOut RX8 0 := by decide +kernel
theorem miX8_carryOut : MI yX8_carryOut cX8_carryOut 2 (some .int) RX8 0 := ⟨tw_1040, tw_1038, tw_1039, tw_11, mhX8_carryOut⟩
theorem mhX8_undo : MH yX8_undo RX8 0 := by decide +kernel
theorem miX8_undo : MI yX8_undo cX8_undo 3 (some .int) RX8 0 := ⟨tw_1053, tw_1051, tw_1052, tw_11, mhX8_undo⟩
theorem mhX8_save : MH yX8_save RX8 1 := by decide +kernel
theorem miX8_save : MI yX8_save cX8_save 3 (some .int) RX8 1 := ⟨tw_1057, tw_1055, tw_1056, tw_11, mhX8_save⟩
theorem mhX8_restore : MH yX8_restore RX8 1 := by decide +kernel
theorem miX8_restore : MI yX8_restore cX8_restore 3 (some .int) RX8 1 := ⟨tw_1061, tw_1059, tw_1060, tw_11, mhX8_restore⟩
