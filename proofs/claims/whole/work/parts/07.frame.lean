/-! ===== the world in one piece: cell k lies at F + k; n cells there are; a method's contract speaks of the whole world ===== -/
abbrev xT : Type := Program × Launch × Env × Room × State × MethodId × Array Value × List Frame × Method × Code
abbrev xp (X : xT) : Program := X.1
abbrev xl (X : xT) : Launch := X.2.1
abbrev xe (X : xT) : Env := X.2.2.1
abbrev xR (X : xT) : Room := X.2.2.2.1
abbrev xs (X : xT) : State := X.2.2.2.2.1
abbrev xm (X : xT) : MethodId := X.2.2.2.2.2.1
abbrev xa (X : xT) : Array Value := X.2.2.2.2.2.2.1
abbrev xb (X : xT) : List Frame := X.2.2.2.2.2.2.2.1
abbrev xh (X : xT) : Method := X.2.2.2.2.2.2.2.2.1
abbrev xc (X : xT) : Code := X.2.2.2.2.2.2.2.2.2
/-- the tables: the classes' numbers and slots, the array classes, where the static arrays lie -/
abbrev fG : Type := (Nat → ClassId) × (Nat → Nat → Nat) × (Nat → ClassId) × (Nat → Nat)
def fD (G : fG) : va_G := (G.1, G.2.1)
def fCl : List vw_C := [(RX0, TX0, 9), (RX1, TX1, 2), (RX2, TX2, 6), (RX3, TX3, 5), (RX4, TX4, 2), (RX5, TX5, 5), (RX6, TX6, 8), (RX7, TX7, 7), (RX8, TX8, 16)]
def fTy (G : fG) : List (ClassId × FieldType) := [(G.2.2.1 0, .int), (G.2.2.1 1, .boolean), (G.2.2.1 2, .char), (G.2.2.1 3, .object RX5), (G.2.2.1 4, .object RX0), (G.2.2.1 5, .object RX2), (G.2.2.1 6, .object RX6)]
def fA (F : Nat) : Nat → Prop := fun q => F ≤ q
def wl (F n : Nat) (cf : Nat → va_E) : va_W := (List.range n).map (fun k => (F + k, cf k))
theorem wl_len (F n : Nat) (cf : Nat → va_E) : (wl F n cf).length = n := by simp [wl]
theorem wl_get {F n k : Nat} {cf : Nat → va_E} {e : va_E} (h : k < n) (he : cf k = e) : (wl F n cf)[k]? = some (F + k, e) := by
  subst he
  simp [wl, h]
theorem wl_inv {F n k : Nat} {cf : Nat → va_E} {q : Nat × va_E} (h : (wl F n cf)[k]? = some q) : k < n ∧ q = (F + k, cf k) := by
  have hl : k < n := by
    have := (List.getElem?_eq_some_iff.mp h).1
    rw [wl_len] at this
    exact this
  rw [wl_get hl rfl] at h
  exact ⟨hl, (Option.some.inj h).symm⟩
theorem wl_set {F n k : Nat} {cf : Nat → va_E} {e : va_E} : (wl F n cf).set k (F + k, e) = wl F n (va_up cf k e) := by
  apply List.ext_getElem?
  intro j
  rw [List.getElem?_set]
  by_cases hj : j < n
  · rw [wl_get hj rfl, wl_get hj rfl]
    by_cases hk : k = j
    · subst hk
      rw [if_pos rfl, if_pos (by rw [wl_len]; exact hj)]
      simp [va_up]
    · rw [if_neg hk]
      simp [va_up, Ne.symm hk]
  · have e1 : (wl F n cf)[j]? = none := List.getElem?_eq_none (by rw [wl_len]; omega)
    have e2 : (wl F n (va_up cf k e))[j]? = none := List.getElem?_eq_none (by rw [wl_len]; omega)
    rw [e1, e2]
    by_cases hk : k = j
    · rw [if_pos hk, if_neg (by rw [wl_len]; omega)]
    · rw [if_neg hk]
theorem wl_push {F n : Nat} {cf : Nat → va_E} {e : va_E} : wl F n cf ++ [(F + n, e)] = wl F (n + 1) (va_up cf n e) := by
  apply List.ext_getElem?
  intro j
  by_cases hj : j < n
  · rw [List.getElem?_append_left (by rw [wl_len]; exact hj), wl_get hj rfl, wl_get (by omega) rfl]
    have : ¬ j = n := by omega
    simp [va_up, this]
  · rw [List.getElem?_append_right (by rw [wl_len]; omega), wl_len]
    by_cases hz : j = n
    · subst hz
      rw [wl_get (by omega) rfl]
      simp [va_up]
    · rw [List.getElem?_eq_none (by simp; omega), List.getElem?_eq_none (by rw [wl_len]; omega)]
theorem wl_D (F n : Nat) (cf : Nat → va_E) : va_D (fA F) (wl F n cf) := by
  refine ⟨fun i j p q hi hj e => ?_, fun k q h => ?_⟩
  · obtain ⟨-, rfl⟩ := wl_inv hi
    obtain ⟨-, rfl⟩ := wl_inv hj
    exact Nat.add_left_cancel e
  · obtain ⟨-, rfl⟩ := wl_inv h
    exact Nat.le_add_right _ _
/-- the static arrays -/
def sN : Nat → String
  | 0 => "LOWEST_SETTING"
  | 1 => "HIGHEST_SETTING"
  | _ => "FIRST_SETTING"
def sV (j i : Nat) : Int32 := if j = 0 then (if i = 3 then 100 else 0) else if j = 1 then (if i = 0 then 50 else if i = 3 then 1000 else 200) else (if i = 0 then 10 else if i = 1 then 40 else if i = 2 then 20 else 600)
def fSt (G : fG) (F : Nat) (U : State) (H : Heap) : Prop := ∀ j, j < 3 → va_Z RX7 (sN j) "[I" (.ref (G.2.2.2 j)) (fA F) U H ∧ va_T .int (G.2.2.2 j) 4 (fun i => .int (sV j i)) (fA F) U H
def fAo (U : State) : Prop := va_AO RX5 U ∧ va_AO RX0 U ∧ va_AO RX2 U ∧ va_AO RX6 U
def fNw (U : State) : Prop := (∀ w ∈ Tn, va_Nw w U) ∧ fAo U
def fH (G : fG) (F n : Nat) (cf : Nat → va_E) (U : State) : Prop := U.heap.size = F + n ∧ va_P (fD G) fCl (wl F n cf) U.heap
def fB (G : fG) (F n : Nat) (cf : Nat → va_E) (U : State) : Prop := fH G F n cf U ∧ va_K (fD G) fCl (fTy G) U ∧ fSt G F U U.heap ∧ fNw U
def fQ (G : fG) (F : Nat) (post : Option Value → Nat → (Nat → va_E) → Prop) : Array Value → State → Outcome → State → Prop := fun _ st oc t => (∃ (r : Option Value) (n : Nat) (cf : Nat → va_E), oc = .returned r ∧ post r n cf ∧ fH G F n cf t) ∧ va_F (fA F) st t
def Vg (X : xT) (Q : State → Prop) (G : fG) (F nL n : Nat) (cf : Nat → va_E) (cells slots pc : Nat) (loc : List (Nat × Value)) (st : List Value) : Prop :=
  ∀ (H : Heap) (locs : List Loc) (ls : Array Slot), H.size = F + n → va_P (fD G) fCl (wl F n cf) H → va_S (fA F) (xs X).heap H locs → lv_has ls nL loc → W (xp X) (xl X) (xe X) (xR X) (xs X) (xm X) (xa X) (xb X) (xh X) (xc X) H locs cells slots Q (F0 (xm X) pc ls st)
def Cx (X : xT) (G : fG) (F nL : Nat) (cc : ByteArray) (own : String) (ret : Option FieldType) : Prop :=
  (xp X).tables.exec = Jvm.exec ∧ (xc X).code = cc ∧ (xc X).maxLocals = nL ∧ (xs X).vm.findClass own = some (xm X).cls ∧ (∀ w ∈ Tg, w.before (xa X) (xs X) = true) ∧ va_K (fD G) fCl (fTy G) (xs X) ∧ fSt G F (xs X) (xs X).heap ∧ fNw (xs X) ∧ F ≤ (xs X).heap.size ∧ (xh X).sig.returnType = ret ∧ (xh X).locks = false
theorem fSt_moved {G : fG} {F : Nat} {u U : State} {H : Heap} (hvm : u.vm.Alike U.vm) (h : fSt G F u H) : fSt G F U H := fun j hj => ⟨(h j hj).1.moved hvm, (h j hj).2.moved hvm⟩
theorem fSt_kept {G : fG} {F : Nat} {U : State} {H H1 : Heap} (h : fSt G F U H) (hq : ∀ a : Nat, a < H.size → ¬ fA F a → H1[a]? = H[a]?) : fSt G F U H1 := fun j hj => ⟨(h j hj).1.kept hq, (h j hj).2.kept hq⟩
theorem fNw_warm {s U : State} (hW : s.WarmedH U.vm) (h : fNw s) : fNw U := by
  refine ⟨fun w hw => ?_, h.2.1.moved hW.alike, h.2.2.1.moved hW.alike, h.2.2.2.1.moved hW.alike, h.2.2.2.2.moved hW.alike⟩
  have hz := h.1 w hw
  have hb : isNs w = true := (List.mem_filter.mp hw).2
  cases w <;> first | exact va_Nw.warmF hW hz | exact va_Nw.warmM hW hz | (exact absurd hb (by simp [isNs]))
theorem fNw_same {s U : State} (e : s.vm = U.vm) (h : fNw s) : fNw U := by
  have hvm : s.vm.Alike U.vm := e ▸ Vm.Alike.refl s.vm
  refine ⟨fun w hw => ?_, h.2.1.moved hvm, h.2.2.1.moved hvm, h.2.2.2.1.moved hvm, h.2.2.2.2.moved hvm⟩
  have hz := h.1 w hw
  have hb : isNs w = true := (List.mem_filter.mp hw).2
  cases w <;> first | exact va_Nw.same rfl e hz | (exact absurd hb (by simp [isNs]))
theorem fB_blind {G : fG} {F n : Nat} {cf : Nat → va_E} {As : List Value} : FrameBlind (va_Pc As (fB G F n cf)) := by
  intro a U g mk q
  obtain ⟨q0, q1, q2, q3, q4⟩ := q
  exact ⟨q0, q1, va_K.moved (u := U) (U := U.calling g mk a) (Vm.Alike.refl U.vm) q2, fSt_moved (u := U) (U := U.calling g mk a) (Vm.Alike.refl U.vm) q3, fNw_same (s := U) (U := U.calling g mk a) rfl q4⟩
section FRX
variable {X : xT} {Q : State → Prop} {G : fG} {F nL n : Nat} {cf : Nat → va_E} {cells slots pc : Nat} {loc : List (Nat × Value)} {st : List Value} {cc : ByteArray} {own : String} {ret : Option FieldType}
theorem fB_at (h : Cx X G F nL cc own ret) {H : Heap} {locs : List Loc} (a1 : H.size = F + n) (a2 : va_P (fD G) fCl (wl F n cf) H) (a3 : va_S (fA F) (xs X).heap H locs) : ∀ U : State, U.heap = H → (xs X).WarmedH U.vm → fB G F n cf U := by
  intro U hU hW
  subst hU
  obtain ⟨-, -, -, -, -, hK, hSt, hN, -⟩ := h
  exact ⟨⟨a1, a2⟩, va_K.moved hW.alike hK, fSt_moved hW.alike (fSt_kept hSt (fun a h1 h2 => a3.2.1 a h1 h2)), fNw_warm hW hN⟩
/-- a method's contract from its walk -/
theorem g_met {l : Launch} {y : MethodName} {As : List Value} {post : Option Value → Nat → (Nat → va_E) → Prop} {mc ms : Nat} {rm : Room} (hy : plainName y.cls = true) (ho : y.cls = own) (hl : (lg_sl As).length ≤ nL)
    (body : ∀ X : xT, xl X = l → xR X = rm → Cx X G F nL cc own ret → Vg X (MQ (xb X) (fQ G F post) (xa X) (xs X) mc ms (fA F)) G F nL n cf 0 0 0 (lv_args 0 As) []) : Met l y (.code y cc nL ret :: Tg) rm (va_Pc As (fB G F n cf)) (fQ G F post) mc ms (fA F) := by
  refine Met.ofW (cc := cc) (maxL := nL) (ret := ret) hy rfl ?_
  intro p e s m args below meth c s₁ B hml hv
  obtain ⟨rfl, ⟨hsz, hP⟩, hK, hSt, hN⟩ := hv
  have hts := atoms_spec (ws := .code y cc nL ret :: Tg) B.pre
  have key := body (p, l, e, rm, s, m, As.toArray, below, meth, c) rfl rfl ⟨B.exec, B.bytes, hml, by rw [← ho]; exact findClass_of_methodNamed B.named, fun w hw => hts w (List.mem_cons_of_mem _ hw), hK, hSt, hN, by show F ≤ s.heap.size; omega, B.returns, B.notSynchronized⟩
  rw [lg_entry_eq]
  exact key s.heap [] _ hsz hP va_S.rf (lv_entry As hl)
theorem tg_in {y : MethodName} {bytes : ByteArray} {mL : Nat} {r : Option FieldType} (hc : Cond.code y bytes mL r ∈ Tg) : GoodIn Tg (.code y bytes mL r :: Tg) := by
  intro w hw
  rcases List.mem_cons.mp hw with rfl | hw
  · exact ⟨hc, good_of_word (List.all_eq_true.mp tg_good _ hc)⟩
  · exact ⟨hw, good_of_word (List.all_eq_true.mp tg_good _ hw)⟩
theorem g_iconst (h : Cx X G F nL cc own ret) {i : Int} {v : Int32} (d : decode cc pc = .ok (.iconst i, 1)) (hv : Int32.ofInt i = v) (kk : Vg X Q G F nL n cf cells slots (pc + 1) loc (.int v :: st)) : Vg X Q G F nL n cf cells slots pc loc (st) := fun H locs ls a1 a2 a3 a4 => lv_iconst h.1 h.2.1 d hv (kk H locs ls a1 a2 a3 a4)
theorem g_bipush (h : Cx X G F nL cc own ret) {i : Int} {v : Int32} (d : decode cc pc = .ok (.bipush i, 2)) (hv : (Int8.ofInt i).toInt32 = v) (kk : Vg X Q G F nL n cf cells slots (pc + 2) loc (.int v :: st)) : Vg X Q G F nL n cf cells slots pc loc (st) := fun H locs ls a1 a2 a3 a4 => lv_bipush h.1 h.2.1 d hv (kk H locs ls a1 a2 a3 a4)
theorem g_sipush (h : Cx X G F nL cc own ret) {i : Int} {v : Int32} (d : decode cc pc = .ok (.sipush i, 3)) (hv : (Int16.ofInt i).toInt32 = v) (kk : Vg X Q G F nL n cf cells slots (pc + 3) loc (.int v :: st)) : Vg X Q G F nL n cf cells slots pc loc (st) := fun H locs ls a1 a2 a3 a4 => lv_sipush h.1 h.2.1 d hv (kk H locs ls a1 a2 a3 a4)
theorem g_lconst (h : Cx X G F nL cc own ret) {i : Fin 2} {v : Int64} (d : decode cc pc = .ok (.lconst i, 1)) (hv : Int64.ofNat (i : Nat) = v) (kk : Vg X Q G F nL n cf cells slots (pc + 1) loc (.long v :: st)) : Vg X Q G F nL n cf cells slots pc loc (st) := fun H locs ls a1 a2 a3 a4 => lv_lconst h.1 h.2.1 d hv (kk H locs ls a1 a2 a3 a4)
theorem g_null (h : Cx X G F nL cc own ret)  (d : decode cc pc = .ok (.aconst_null, 1))  (kk : Vg X Q G F nL n cf cells slots (pc + 1) loc (.null :: st)) : Vg X Q G F nL n cf cells slots pc loc (st) := fun H locs ls a1 a2 a3 a4 => lv_null h.1 h.2.1 d (kk H locs ls a1 a2 a3 a4)
theorem g_iload_n (h : Cx X G F nL cc own ret) {k : Fin 4} {x : Int32} (i : Nat) (d : decode cc pc = .ok (.iload_n k, 1)) (hl : loc[i]? = some ((k : Nat), .int x)) (kk : Vg X Q G F nL n cf cells slots (pc + 1) loc (.int x :: st)) : Vg X Q G F nL n cf cells slots pc loc (st) := fun H locs ls a1 a2 a3 a4 => lv_iload_n h.1 h.2.1 d rfl (lv_at a4 i hl) (kk H locs ls a1 a2 a3 a4)
theorem g_iload (h : Cx X G F nL cc own ret) {k : Nat} {x : Int32} (i : Nat) (d : decode cc pc = .ok (.iload k, 2)) (hl : loc[i]? = some (k, .int x)) (kk : Vg X Q G F nL n cf cells slots (pc + 2) loc (.int x :: st)) : Vg X Q G F nL n cf cells slots pc loc (st) := fun H locs ls a1 a2 a3 a4 => lv_iload h.1 h.2.1 d (lv_at a4 i hl) (kk H locs ls a1 a2 a3 a4)
theorem g_lload_n (h : Cx X G F nL cc own ret) {k : Fin 4} {x : Int64} (i : Nat) (d : decode cc pc = .ok (.lload_n k, 1)) (hl : loc[i]? = some ((k : Nat), .long x)) (kk : Vg X Q G F nL n cf cells slots (pc + 1) loc (.long x :: st)) : Vg X Q G F nL n cf cells slots pc loc (st) := fun H locs ls a1 a2 a3 a4 => lv_lload_n h.1 h.2.1 d rfl (lv_at a4 i hl) (kk H locs ls a1 a2 a3 a4)
theorem g_lload (h : Cx X G F nL cc own ret) {k : Nat} {x : Int64} (i : Nat) (d : decode cc pc = .ok (.lload k, 2)) (hl : loc[i]? = some (k, .long x)) (kk : Vg X Q G F nL n cf cells slots (pc + 2) loc (.long x :: st)) : Vg X Q G F nL n cf cells slots pc loc (st) := fun H locs ls a1 a2 a3 a4 => lv_lload h.1 h.2.1 d (lv_at a4 i hl) (kk H locs ls a1 a2 a3 a4)
theorem g_aload_n (h : Cx X G F nL cc own ret) {k : Fin 4} {x : Nat} (i : Nat) (d : decode cc pc = .ok (.aload_n k, 1)) (hl : loc[i]? = some ((k : Nat), .ref x)) (kk : Vg X Q G F nL n cf cells slots (pc + 1) loc (.ref x :: st)) : Vg X Q G F nL n cf cells slots pc loc (st) := fun H locs ls a1 a2 a3 a4 => lv_aload_n h.1 h.2.1 d rfl (lv_at a4 i hl) (kk H locs ls a1 a2 a3 a4)
theorem g_aload (h : Cx X G F nL cc own ret) {k : Nat} {x : Nat} (i : Nat) (d : decode cc pc = .ok (.aload k, 2)) (hl : loc[i]? = some (k, .ref x)) (kk : Vg X Q G F nL n cf cells slots (pc + 2) loc (.ref x :: st)) : Vg X Q G F nL n cf cells slots pc loc (st) := fun H locs ls a1 a2 a3 a4 => lv_aload h.1 h.2.1 d (lv_at a4 i hl) (kk H locs ls a1 a2 a3 a4)
theorem g_istore_n (h : Cx X G F nL cc own ret) {k : Fin 4} {x : Int32} {loc2 : List (Nat × Value)} (d : decode cc pc = .ok (.istore_n k, 1)) (hn : (k : Nat) < nL) (hl : ((k : Nat), Value.int x) :: loc.filter (fun q => !(q.1 == (k : Nat)) && !(q.1 + 1 == (k : Nat) && q.2.category == 2)) = loc2) (kk : Vg X Q G F nL n cf cells slots (pc + 1) loc2 (st)) : Vg X Q G F nL n cf cells slots pc loc (.int x :: st) := fun H locs ls a1 a2 a3 a4 => lv_istore_n h.1 h.2.1 d rfl a4 hn hl (fun ls2 b => kk H locs ls2 a1 a2 a3 b)
theorem g_istore (h : Cx X G F nL cc own ret) {k : Nat} {x : Int32} {loc2 : List (Nat × Value)} (d : decode cc pc = .ok (.istore k, 2)) (hn : k < nL) (hl : (k, Value.int x) :: loc.filter (fun q => !(q.1 == k) && !(q.1 + 1 == k && q.2.category == 2)) = loc2) (kk : Vg X Q G F nL n cf cells slots (pc + 2) loc2 (st)) : Vg X Q G F nL n cf cells slots pc loc (.int x :: st) := fun H locs ls a1 a2 a3 a4 => lv_istore h.1 h.2.1 d a4 hn hl (fun ls2 b => kk H locs ls2 a1 a2 a3 b)
theorem g_lstore_n (h : Cx X G F nL cc own ret) {k : Fin 4} {x : Int64} {loc2 : List (Nat × Value)} (d : decode cc pc = .ok (.lstore_n k, 1)) (hn : (k : Nat) + 1 < nL) (hl : ((k : Nat), Value.long x) :: loc.filter (fun q => !(q.1 == (k : Nat)) && (!(q.1 == (k : Nat) + 1) && !(q.1 + 1 == (k : Nat) && q.2.category == 2))) = loc2) (kk : Vg X Q G F nL n cf cells slots (pc + 1) loc2 (st)) : Vg X Q G F nL n cf cells slots pc loc (.long x :: st) := fun H locs ls a1 a2 a3 a4 => lv_lstore_n h.1 h.2.1 d rfl a4 hn hl (fun ls2 b => kk H locs ls2 a1 a2 a3 b)
theorem g_lstore (h : Cx X G F nL cc own ret) {k : Nat} {x : Int64} {loc2 : List (Nat × Value)} (d : decode cc pc = .ok (.lstore k, 2)) (hn : k + 1 < nL) (hl : (k, Value.long x) :: loc.filter (fun q => !(q.1 == k) && (!(q.1 == k + 1) && !(q.1 + 1 == k && q.2.category == 2))) = loc2) (kk : Vg X Q G F nL n cf cells slots (pc + 2) loc2 (st)) : Vg X Q G F nL n cf cells slots pc loc (.long x :: st) := fun H locs ls a1 a2 a3 a4 => lv_lstore h.1 h.2.1 d a4 hn hl (fun ls2 b => kk H locs ls2 a1 a2 a3 b)
theorem g_astore_n (h : Cx X G F nL cc own ret) {k : Fin 4} {x : Nat} {loc2 : List (Nat × Value)} (d : decode cc pc = .ok (.astore_n k, 1)) (hn : (k : Nat) < nL) (hl : ((k : Nat), Value.ref x) :: loc.filter (fun q => !(q.1 == (k : Nat)) && !(q.1 + 1 == (k : Nat) && q.2.category == 2)) = loc2) (kk : Vg X Q G F nL n cf cells slots (pc + 1) loc2 (st)) : Vg X Q G F nL n cf cells slots pc loc (.ref x :: st) := fun H locs ls a1 a2 a3 a4 => lv_astore_n h.1 h.2.1 d rfl a4 hn hl (fun ls2 b => kk H locs ls2 a1 a2 a3 b)
theorem g_astore (h : Cx X G F nL cc own ret) {k : Nat} {x : Nat} {loc2 : List (Nat × Value)} (d : decode cc pc = .ok (.astore k, 2)) (hn : k < nL) (hl : (k, Value.ref x) :: loc.filter (fun q => !(q.1 == k) && !(q.1 + 1 == k && q.2.category == 2)) = loc2) (kk : Vg X Q G F nL n cf cells slots (pc + 2) loc2 (st)) : Vg X Q G F nL n cf cells slots pc loc (.ref x :: st) := fun H locs ls a1 a2 a3 a4 => lv_astore h.1 h.2.1 d a4 hn hl (fun ls2 b => kk H locs ls2 a1 a2 a3 b)
theorem g_iinc (h : Cx X G F nL cc own ret) {k : Nat} {z : Int} {x v : Int32} {loc2 : List (Nat × Value)} (i : Nat) (d : decode cc pc = .ok (.iinc k z, 3)) (hk : loc[i]? = some (k, .int x)) (hv : x + Int32.ofInt z = v) (hn : k < nL) (hl : (k, Value.int v) :: loc.filter (fun q => !(q.1 == k) && !(q.1 + 1 == k && q.2.category == 2)) = loc2) (kk : Vg X Q G F nL n cf cells slots (pc + 3) loc2 (st)) : Vg X Q G F nL n cf cells slots pc loc (st) := fun H locs ls a1 a2 a3 a4 => lv_iinc h.1 h.2.1 d a4 hk hv hn hl (fun ls2 b => kk H locs ls2 a1 a2 a3 b)
theorem g_iadd (h : Cx X G F nL cc own ret) {x y : Int32} (d : decode cc pc = .ok (.iadd, 1))  (kk : Vg X Q G F nL n cf cells slots (pc + 1) loc (.int (x + y) :: st)) : Vg X Q G F nL n cf cells slots pc loc (.int y :: .int x :: st) := fun H locs ls a1 a2 a3 a4 => lv_iadd h.1 h.2.1 d (kk H locs ls a1 a2 a3 a4)
theorem g_isub (h : Cx X G F nL cc own ret) {x y : Int32} (d : decode cc pc = .ok (.isub, 1))  (kk : Vg X Q G F nL n cf cells slots (pc + 1) loc (.int (x - y) :: st)) : Vg X Q G F nL n cf cells slots pc loc (.int y :: .int x :: st) := fun H locs ls a1 a2 a3 a4 => lv_isub h.1 h.2.1 d (kk H locs ls a1 a2 a3 a4)
theorem g_imul (h : Cx X G F nL cc own ret) {x y : Int32} (d : decode cc pc = .ok (.imul, 1))  (kk : Vg X Q G F nL n cf cells slots (pc + 1) loc (.int (x * y) :: st)) : Vg X Q G F nL n cf cells slots pc loc (.int y :: .int x :: st) := fun H locs ls a1 a2 a3 a4 => lv_imul h.1 h.2.1 d (kk H locs ls a1 a2 a3 a4)
theorem g_iand (h : Cx X G F nL cc own ret) {x y : Int32} (d : decode cc pc = .ok (.iand, 1))  (kk : Vg X Q G F nL n cf cells slots (pc + 1) loc (.int (x &&& y) :: st)) : Vg X Q G F nL n cf cells slots pc loc (.int y :: .int x :: st) := fun H locs ls a1 a2 a3 a4 => lv_iand h.1 h.2.1 d (kk H locs ls a1 a2 a3 a4)
theorem g_irem (h : Cx X G F nL cc own ret) {x y : Int32} (d : decode cc pc = .ok (.irem, 1)) (hne : ¬ y = 0) (kk : Vg X Q G F nL n cf cells slots (pc + 1) loc (.int (x - x / y * y) :: st)) : Vg X Q G F nL n cf cells slots pc loc (.int y :: .int x :: st) := fun H locs ls a1 a2 a3 a4 => lv_irem h.1 h.2.1 d hne (kk H locs ls a1 a2 a3 a4)
theorem g_land (h : Cx X G F nL cc own ret) {x y : Int64} (d : decode cc pc = .ok (.land, 1))  (kk : Vg X Q G F nL n cf cells slots (pc + 1) loc (.long (x &&& y) :: st)) : Vg X Q G F nL n cf cells slots pc loc (.long y :: .long x :: st) := fun H locs ls a1 a2 a3 a4 => lv_land h.1 h.2.1 d (kk H locs ls a1 a2 a3 a4)
theorem g_lor (h : Cx X G F nL cc own ret) {x y : Int64} (d : decode cc pc = .ok (.lor, 1))  (kk : Vg X Q G F nL n cf cells slots (pc + 1) loc (.long (x ||| y) :: st)) : Vg X Q G F nL n cf cells slots pc loc (.long y :: .long x :: st) := fun H locs ls a1 a2 a3 a4 => lv_lor h.1 h.2.1 d (kk H locs ls a1 a2 a3 a4)
theorem g_lushr (h : Cx X G F nL cc own ret) {x v : Int64} {y : Int32} (d : decode cc pc = .ok (.lushr, 1)) (hv : (x.toUInt64 >>> (y.toInt64.toUInt64 &&& Int64.toUInt64 63)).toInt64 = v) (kk : Vg X Q G F nL n cf cells slots (pc + 1) loc (.long v :: st)) : Vg X Q G F nL n cf cells slots pc loc (.int y :: .long x :: st) := fun H locs ls a1 a2 a3 a4 => lv_lushr h.1 h.2.1 d hv (kk H locs ls a1 a2 a3 a4)
theorem g_lshl (h : Cx X G F nL cc own ret) {x v : Int64} {y : Int32} (d : decode cc pc = .ok (.lshl, 1)) (hv : x <<< (y.toInt64 &&& 63) = v) (kk : Vg X Q G F nL n cf cells slots (pc + 1) loc (.long v :: st)) : Vg X Q G F nL n cf cells slots pc loc (.int y :: .long x :: st) := fun H locs ls a1 a2 a3 a4 => lv_lshl h.1 h.2.1 d hv (kk H locs ls a1 a2 a3 a4)
theorem g_lshr (h : Cx X G F nL cc own ret) {x v : Int64} {y : Int32} (d : decode cc pc = .ok (.lshr, 1)) (hv : x >>> (y.toInt64 &&& 63) = v) (kk : Vg X Q G F nL n cf cells slots (pc + 1) loc (.long v :: st)) : Vg X Q G F nL n cf cells slots pc loc (.int y :: .long x :: st) := fun H locs ls a1 a2 a3 a4 => lv_lshr h.1 h.2.1 d hv (kk H locs ls a1 a2 a3 a4)
theorem g_i2l (h : Cx X G F nL cc own ret) {x : Int32} {v : Int64} (d : decode cc pc = .ok (.i2l, 1)) (hv : x.toInt64 = v) (kk : Vg X Q G F nL n cf cells slots (pc + 1) loc (.long v :: st)) : Vg X Q G F nL n cf cells slots pc loc (.int x :: st) := fun H locs ls a1 a2 a3 a4 => lv_i2l h.1 h.2.1 d hv (kk H locs ls a1 a2 a3 a4)
theorem g_l2i (h : Cx X G F nL cc own ret) {x : Int64} {v : Int32} (d : decode cc pc = .ok (.l2i, 1)) (hv : x.toInt32 = v) (kk : Vg X Q G F nL n cf cells slots (pc + 1) loc (.int v :: st)) : Vg X Q G F nL n cf cells slots pc loc (.long x :: st) := fun H locs ls a1 a2 a3 a4 => lv_l2i h.1 h.2.1 d hv (kk H locs ls a1 a2 a3 a4)
theorem g_i2c (h : Cx X G F nL cc own ret) {x v : Int32} (d : decode cc pc = .ok (.i2c, 1)) (hv : (x.toUInt32 % 65536).toInt32 = v) (kk : Vg X Q G F nL n cf cells slots (pc + 1) loc (.int v :: st)) : Vg X Q G F nL n cf cells slots pc loc (.int x :: st) := fun H locs ls a1 a2 a3 a4 => lv_i2c h.1 h.2.1 d hv (kk H locs ls a1 a2 a3 a4)
theorem g_lcmp (h : Cx X G F nL cc own ret) {x y : Int64} (d : decode cc pc = .ok (.lcmp, 1))  (kk : Vg X Q G F nL n cf cells slots (pc + 1) loc (.int (lg_cmp x y) :: st)) : Vg X Q G F nL n cf cells slots pc loc (.long y :: .long x :: st) := fun H locs ls a1 a2 a3 a4 => W.lcmp h.1 h.2.1 d (kk H locs ls a1 a2 a3 a4)
theorem g_dup (h : Cx X G F nL cc own ret) {va : Value} (d : decode cc pc = .ok (.dup, 1)) (hc : va.category = 1) (kk : Vg X Q G F nL n cf cells slots (pc + 1) loc (va :: va :: st)) : Vg X Q G F nL n cf cells slots pc loc (va :: st) := fun H locs ls a1 a2 a3 a4 => lv_dup h.1 h.2.1 d hc (kk H locs ls a1 a2 a3 a4)
theorem g_pop (h : Cx X G F nL cc own ret) {va : Value} (d : decode cc pc = .ok (.pop, 1)) (hc : va.category = 1) (kk : Vg X Q G F nL n cf cells slots (pc + 1) loc (st)) : Vg X Q G F nL n cf cells slots pc loc (va :: st) := fun H locs ls a1 a2 a3 a4 => lv_pop h.1 h.2.1 d hc (kk H locs ls a1 a2 a3 a4)
theorem g_dup2 (h : Cx X G F nL cc own ret) {va vb : Value} (d : decode cc pc = .ok (.dup2, 1)) (hc : va.category = 1) (hc2 : vb.category = 1) (kk : Vg X Q G F nL n cf cells slots (pc + 1) loc (va :: vb :: va :: vb :: st)) : Vg X Q G F nL n cf cells slots pc loc (va :: vb :: st) := fun H locs ls a1 a2 a3 a4 => lv_dup2_11 h.1 h.2.1 d hc hc2 (kk H locs ls a1 a2 a3 a4)
theorem g_if_eq (h : Cx X G F nL cc own ret) {x : Int32} {off : Int} {tgt : Nat} (d : decode cc pc = .ok (.ifCond .eq off, 3)) (ht : (pc : Int) + off = (tgt : Int)) (kt : x = 0 → Vg X Q G F nL n cf cells slots tgt loc st) (kf : ¬ x = 0 → Vg X Q G F nL n cf cells slots (pc + 3) loc st) : Vg X Q G F nL n cf cells slots pc loc (.int x :: st) := fun H locs ls a1 a2 a3 a4 => lv_if_eq h.1 h.2.1 d ht (fun c => kt c H locs ls a1 a2 a3 a4) (fun c => kf c H locs ls a1 a2 a3 a4)
theorem g_if_ne (h : Cx X G F nL cc own ret) {x : Int32} {off : Int} {tgt : Nat} (d : decode cc pc = .ok (.ifCond .ne off, 3)) (ht : (pc : Int) + off = (tgt : Int)) (kt : ¬ x = 0 → Vg X Q G F nL n cf cells slots tgt loc st) (kf : x = 0 → Vg X Q G F nL n cf cells slots (pc + 3) loc st) : Vg X Q G F nL n cf cells slots pc loc (.int x :: st) := fun H locs ls a1 a2 a3 a4 => lv_if_ne h.1 h.2.1 d ht (fun c => kt c H locs ls a1 a2 a3 a4) (fun c => kf c H locs ls a1 a2 a3 a4)
theorem g_if_lt (h : Cx X G F nL cc own ret) {x : Int32} {off : Int} {tgt : Nat} (d : decode cc pc = .ok (.ifCond .lt off, 3)) (ht : (pc : Int) + off = (tgt : Int)) (kt : x < 0 → Vg X Q G F nL n cf cells slots tgt loc st) (kf : ¬ x < 0 → Vg X Q G F nL n cf cells slots (pc + 3) loc st) : Vg X Q G F nL n cf cells slots pc loc (.int x :: st) := fun H locs ls a1 a2 a3 a4 => lv_if_lt h.1 h.2.1 d ht (fun c => kt c H locs ls a1 a2 a3 a4) (fun c => kf c H locs ls a1 a2 a3 a4)
theorem g_if_ge (h : Cx X G F nL cc own ret) {x : Int32} {off : Int} {tgt : Nat} (d : decode cc pc = .ok (.ifCond .ge off, 3)) (ht : (pc : Int) + off = (tgt : Int)) (kt : 0 ≤ x → Vg X Q G F nL n cf cells slots tgt loc st) (kf : ¬ 0 ≤ x → Vg X Q G F nL n cf cells slots (pc + 3) loc st) : Vg X Q G F nL n cf cells slots pc loc (.int x :: st) := fun H locs ls a1 a2 a3 a4 => lv_if_ge h.1 h.2.1 d ht (fun c => kt c H locs ls a1 a2 a3 a4) (fun c => kf c H locs ls a1 a2 a3 a4)
theorem g_if_gt (h : Cx X G F nL cc own ret) {x : Int32} {off : Int} {tgt : Nat} (d : decode cc pc = .ok (.ifCond .gt off, 3)) (ht : (pc : Int) + off = (tgt : Int)) (kt : 0 < x → Vg X Q G F nL n cf cells slots tgt loc st) (kf : ¬ 0 < x → Vg X Q G F nL n cf cells slots (pc + 3) loc st) : Vg X Q G F nL n cf cells slots pc loc (.int x :: st) := fun H locs ls a1 a2 a3 a4 => lv_if_gt h.1 h.2.1 d ht (fun c => kt c H locs ls a1 a2 a3 a4) (fun c => kf c H locs ls a1 a2 a3 a4)
theorem g_if_le (h : Cx X G F nL cc own ret) {x : Int32} {off : Int} {tgt : Nat} (d : decode cc pc = .ok (.ifCond .le off, 3)) (ht : (pc : Int) + off = (tgt : Int)) (kt : x ≤ 0 → Vg X Q G F nL n cf cells slots tgt loc st) (kf : ¬ x ≤ 0 → Vg X Q G F nL n cf cells slots (pc + 3) loc st) : Vg X Q G F nL n cf cells slots pc loc (.int x :: st) := fun H locs ls a1 a2 a3 a4 => lv_if_le h.1 h.2.1 d ht (fun c => kt c H locs ls a1 a2 a3 a4) (fun c => kf c H locs ls a1 a2 a3 a4)
theorem g_icmp_eq (h : Cx X G F nL cc own ret) {x y : Int32} {off : Int} {tgt : Nat} (d : decode cc pc = .ok (.if_icmp .eq off, 3)) (ht : (pc : Int) + off = (tgt : Int)) (kt : x = y → Vg X Q G F nL n cf cells slots tgt loc st) (kf : ¬ x = y → Vg X Q G F nL n cf cells slots (pc + 3) loc st) : Vg X Q G F nL n cf cells slots pc loc (.int y :: .int x :: st) := fun H locs ls a1 a2 a3 a4 => lv_icmp_eq h.1 h.2.1 d ht (fun c => kt c H locs ls a1 a2 a3 a4) (fun c => kf c H locs ls a1 a2 a3 a4)
theorem g_icmp_ne (h : Cx X G F nL cc own ret) {x y : Int32} {off : Int} {tgt : Nat} (d : decode cc pc = .ok (.if_icmp .ne off, 3)) (ht : (pc : Int) + off = (tgt : Int)) (kt : ¬ x = y → Vg X Q G F nL n cf cells slots tgt loc st) (kf : x = y → Vg X Q G F nL n cf cells slots (pc + 3) loc st) : Vg X Q G F nL n cf cells slots pc loc (.int y :: .int x :: st) := fun H locs ls a1 a2 a3 a4 => lv_icmp_ne h.1 h.2.1 d ht (fun c => kt c H locs ls a1 a2 a3 a4) (fun c => kf c H locs ls a1 a2 a3 a4)
theorem g_icmp_lt (h : Cx X G F nL cc own ret) {x y : Int32} {off : Int} {tgt : Nat} (d : decode cc pc = .ok (.if_icmp .lt off, 3)) (ht : (pc : Int) + off = (tgt : Int)) (kt : x < y → Vg X Q G F nL n cf cells slots tgt loc st) (kf : ¬ x < y → Vg X Q G F nL n cf cells slots (pc + 3) loc st) : Vg X Q G F nL n cf cells slots pc loc (.int y :: .int x :: st) := fun H locs ls a1 a2 a3 a4 => lv_icmp_lt h.1 h.2.1 d ht (fun c => kt c H locs ls a1 a2 a3 a4) (fun c => kf c H locs ls a1 a2 a3 a4)
theorem g_icmp_ge (h : Cx X G F nL cc own ret) {x y : Int32} {off : Int} {tgt : Nat} (d : decode cc pc = .ok (.if_icmp .ge off, 3)) (ht : (pc : Int) + off = (tgt : Int)) (kt : y ≤ x → Vg X Q G F nL n cf cells slots tgt loc st) (kf : ¬ y ≤ x → Vg X Q G F nL n cf cells slots (pc + 3) loc st) : Vg X Q G F nL n cf cells slots pc loc (.int y :: .int x :: st) := fun H locs ls a1 a2 a3 a4 => lv_icmp_ge h.1 h.2.1 d ht (fun c => kt c H locs ls a1 a2 a3 a4) (fun c => kf c H locs ls a1 a2 a3 a4)
theorem g_icmp_gt (h : Cx X G F nL cc own ret) {x y : Int32} {off : Int} {tgt : Nat} (d : decode cc pc = .ok (.if_icmp .gt off, 3)) (ht : (pc : Int) + off = (tgt : Int)) (kt : y < x → Vg X Q G F nL n cf cells slots tgt loc st) (kf : ¬ y < x → Vg X Q G F nL n cf cells slots (pc + 3) loc st) : Vg X Q G F nL n cf cells slots pc loc (.int y :: .int x :: st) := fun H locs ls a1 a2 a3 a4 => lv_icmp_gt h.1 h.2.1 d ht (fun c => kt c H locs ls a1 a2 a3 a4) (fun c => kf c H locs ls a1 a2 a3 a4)
theorem g_icmp_le (h : Cx X G F nL cc own ret) {x y : Int32} {off : Int} {tgt : Nat} (d : decode cc pc = .ok (.if_icmp .le off, 3)) (ht : (pc : Int) + off = (tgt : Int)) (kt : x ≤ y → Vg X Q G F nL n cf cells slots tgt loc st) (kf : ¬ x ≤ y → Vg X Q G F nL n cf cells slots (pc + 3) loc st) : Vg X Q G F nL n cf cells slots pc loc (.int y :: .int x :: st) := fun H locs ls a1 a2 a3 a4 => lv_icmp_le h.1 h.2.1 d ht (fun c => kt c H locs ls a1 a2 a3 a4) (fun c => kf c H locs ls a1 a2 a3 a4)
theorem g_goto (h : Cx X G F nL cc own ret) {off : Int} {tgt : Nat} (d : decode cc pc = .ok (.goto off, 3)) (ht : (pc : Int) + off = (tgt : Int)) (kk : Vg X Q G F nL n cf cells slots tgt loc st) : Vg X Q G F nL n cf cells slots pc loc st := fun H locs ls a1 a2 a3 a4 => lv_goto h.1 h.2.1 d ht (kk H locs ls a1 a2 a3 a4)
theorem g_ifnull (h : Cx X G F nL cc own ret) {off : Int} {x : Nat} (d : decode cc pc = .ok (.ifnull off, 3)) (kk : Vg X Q G F nL n cf cells slots (pc + 3) loc st) : Vg X Q G F nL n cf cells slots pc loc (.ref x :: st) := fun H locs ls a1 a2 a3 a4 => lv_ifnull h.1 h.2.1 d (kk H locs ls a1 a2 a3 a4)
theorem g_ifnullN (h : Cx X G F nL cc own ret) {off : Int} {tgt : Nat} (d : decode cc pc = .ok (.ifnull off, 3)) (ht : (pc : Int) + off = (tgt : Int)) (kk : Vg X Q G F nL n cf cells slots tgt loc st) : Vg X Q G F nL n cf cells slots pc loc (.null :: st) := fun H locs ls a1 a2 a3 a4 => lv_ifnullN h.1 h.2.1 d ht (kk H locs ls a1 a2 a3 a4)
theorem g_ifnonnull (h : Cx X G F nL cc own ret) {off : Int} {tgt x : Nat} (d : decode cc pc = .ok (.ifnonnull off, 3)) (ht : (pc : Int) + off = (tgt : Int)) (kk : Vg X Q G F nL n cf cells slots tgt loc st) : Vg X Q G F nL n cf cells slots pc loc (.ref x :: st) := fun H locs ls a1 a2 a3 a4 => lv_ifnonnull h.1 h.2.1 d ht (kk H locs ls a1 a2 a3 a4)
theorem g_ifnonnullN (h : Cx X G F nL cc own ret) {off : Int} (d : decode cc pc = .ok (.ifnonnull off, 3)) (kk : Vg X Q G F nL n cf cells slots (pc + 3) loc st) : Vg X Q G F nL n cf cells slots pc loc (.null :: st) := fun H locs ls a1 a2 a3 a4 => lv_ifnonnullN h.1 h.2.1 d (kk H locs ls a1 a2 a3 a4)
theorem g_tableIn (h : Cx X G F nL cc own ret) {dflt lo hi : Int} {offs : Array Int} {len : Nat} {x : Int32} {off : Int} {tgt : Nat} (d : decode cc pc = .ok (.tableswitch dflt lo hi offs, len)) (h1 : ¬ x.toInt < lo) (h2 : ¬ hi < x.toInt) (ho : offs[(x.toInt - lo).toNat]? = some off) (ht : (pc : Int) + off = (tgt : Int)) (kk : Vg X Q G F nL n cf cells slots tgt loc st) : Vg X Q G F nL n cf cells slots pc loc (.int x :: st) := fun H locs ls a1 a2 a3 a4 => lv_tableIn h.1 h.2.1 d h1 h2 ho ht (kk H locs ls a1 a2 a3 a4)
theorem g_tableOut (h : Cx X G F nL cc own ret) {dflt lo hi : Int} {offs : Array Int} {len : Nat} {x : Int32} {tgt : Nat} (d : decode cc pc = .ok (.tableswitch dflt lo hi offs, len)) (h1 : x.toInt < lo ∨ hi < x.toInt) (ht : (pc : Int) + dflt = (tgt : Int)) (kk : Vg X Q G F nL n cf cells slots tgt loc st) : Vg X Q G F nL n cf cells slots pc loc (.int x :: st) := fun H locs ls a1 a2 a3 a4 => lv_tableOut h.1 h.2.1 d h1 ht (kk H locs ls a1 a2 a3 a4)
theorem g_lookup (h : Cx X G F nL cc own ret) {dflt : Int} {ps : Array (Int × Int)} {len : Nat} {x : Int32} {off : Int} {tgt : Nat} (d : decode cc pc = .ok (.lookupswitch dflt ps, len)) (hp : (ps.toList.zip (ps.toList.drop 1)).all (fun (a, next) => a.1 < next.1) = true) (ho : Op.lookupswitch.offset ps.toList dflt x.toInt = off) (ht : (pc : Int) + off = (tgt : Int)) (kk : Vg X Q G F nL n cf cells slots tgt loc st) : Vg X Q G F nL n cf cells slots pc loc (.int x :: st) := fun H locs ls a1 a2 a3 a4 => lv_lookup h.1 h.2.1 d hp ho ht (kk H locs ls a1 a2 a3 a4)
theorem g_ldc2 (h : Cx X G F nL cc own ret) {index : Nat} {v : Int64} (d : decode cc pc = .ok (.ldc2_w index, 3)) (hw : Cond.constantLong own index v ∈ Tg) (kk : Vg X Q G F nL n cf cells slots (pc + 3) loc (.long v :: st)) : Vg X Q G F nL n cf cells slots pc loc st := fun H locs ls a1 a2 a3 a4 => lv_ldc2 h.1 h.2.1 h.2.2.2.1 (h.2.2.2.2.1 _ hw) d (kk H locs ls a1 a2 a3 a4)
theorem g_name {x : Int32} (kk : ∀ y : Int32, y = x → Vg X Q G F nL n cf cells slots pc loc (.int y :: st)) : Vg X Q G F nL n cf cells slots pc loc (.int x :: st) := kk x rfl
theorem g_nameL {x : Int64} (kk : ∀ y : Int64, y = x → Vg X Q G F nL n cf cells slots pc loc (.long y :: st)) : Vg X Q G F nL n cf cells slots pc loc (.long x :: st) := kk x rfl
theorem g_loc {loc2 : List (Nat × Value)} (ks : List Nat) (hl : lv_pick loc ks = loc2) (kk : Vg X Q G F nL n cf cells slots pc loc2 st) : Vg X Q G F nL n cf cells slots pc loc st := fun H locs ls a1 a2 a3 a4 => kk H locs ls a1 a2 a3 (lv_sub a4 ks hl)
theorem g_eq {cf2 : Nat → va_E} {loc2 : List (Nat × Value)} {st2 : List Value} (e1 : cf = cf2) (e2 : loc = loc2) (e3 : st = st2) (kk : Vg X Q G F nL n cf2 cells slots pc loc2 st2) : Vg X Q G F nL n cf cells slots pc loc st := by
  subst e1; subst e2; subst e3; exact kk
theorem g_widen {c2 s2 : Nat} (h1 : cells ≤ c2) (h2 : slots ≤ s2) (kk : Vg X Q G F nL n cf c2 s2 pc loc st) : Vg X Q G F nL n cf cells slots pc loc st := fun H locs ls a1 a2 a3 a4 => W.widen h1 h2 (kk H locs ls a1 a2 a3 a4)
/-- a loop over j = 0 .. N: what holds at its head -/
theorem g_loop {hd : Nat} (N : Nat) (lc : Nat → List (Nat × Value)) (w : Nat → Nat → va_E) (hx : Vg X Q G F nL n (w N) cells slots hd (lc N) []) (hs : ∀ j, j < N → Vg X Q G F nL n (w (j + 1)) cells slots hd (lc (j + 1)) [] → Vg X Q G F nL n (w j) cells slots hd (lc j) []) : Vg X Q G F nL n (w 0) cells slots hd (lc 0) [] := by
  have key : ∀ k, k ≤ N → Vg X Q G F nL n (w (N - k)) cells slots hd (lc (N - k)) [] := by
    intro k
    induction k with
    | zero => intro _; exact hx
    | succ k ih =>
      intro hk
      have e : N - k = N - (k + 1) + 1 := by omega
      have h2 := ih (by omega)
      rw [e] at h2
      exact hs (N - (k + 1)) (by omega) h2
  have h0 := key N (Nat.le_refl N)
  rw [Nat.sub_self] at h0
  exact h0
theorem g_get (h : Cx X G F nL cc own ret) {k : Nat} {fs : List Value} {C : String} {T : u_T} {N ci index : Nat} {ref : String} {v : Value} (hk : k < n) (he : cf k = .inr (ci, fs)) (hc : fCl[ci]? = some (C, T, N)) (hin : ∀ w ∈ u_ws C T N, w ∈ Tg) (j : Nat) (hj : j < N) (hl : Cond.fieldLink own index ref (T j).2.1 (T j).2.2.1 ∈ Tg) (hs : (T j).1 = ref) (hv : fs[j]? = some v) (d : decode cc pc = .ok (.getfield index, 3)) (kk : Vg X Q G F nL n cf cells slots (pc + 3) loc (v :: st)) : Vg X Q G F nL n cf cells slots pc loc (.ref (F + k) :: st) := fun H locs ls a1 a2 a3 a4 =>
  va_get h.1 h.2.1 h.2.2.2.2.1 hin h.2.2.2.1 h.2.2.2.2.2.1 a2 k (wl_get hk he) hc j hj (h.2.2.2.2.1 _ hl) (by rw [hs]; exact fun _ z => z) hv d (kk H locs ls a1 a2 a3 a4)
theorem g_getN (h : Cx X G F nL cc own ret) {k : Nat} {fs : List Value} {C : String} {T : u_T} {N ci index : Nat} {ref host : String} {v : Value} (hk : k < n) (he : cf k = .inr (ci, fs)) (hc : fCl[ci]? = some (C, T, N)) (hin : ∀ w ∈ u_ws C T N, w ∈ Tg) (j : Nat) (hj : j < N) (hl : Cond.fieldLinkNest own index ref (T j).2.1 (T j).2.2.1 host ∈ Tn) (hs : (T j).1 = ref) (hv : fs[j]? = some v) (d : decode cc pc = .ok (.getfield index, 3)) (kk : Vg X Q G F nL n cf cells slots (pc + 3) loc (v :: st)) : Vg X Q G F nL n cf cells slots pc loc (.ref (F + k) :: st) := fun H locs ls a1 a2 a3 a4 =>
  va_getN h.1 h.2.1 h.2.2.2.2.1 hin h.2.2.2.1 h.2.2.2.2.2.1 a2 k (wl_get hk he) hc j hj (va_Nw.use rfl (h.2.2.2.2.2.2.2.1.1 _ hl)) (by rw [hs]; exact fun _ z => z) hv d (kk H locs ls a1 a2 a3 a4)
theorem va_S.h0 {F : Nat} {H0 H : Heap} {locs : List Loc} (hF : F ≤ H0.size) (h : va_S (fA F) H0 H locs) : ∀ q, H0.size ≤ q → fA F q := fun q hq => Nat.le_trans hF hq
theorem P_size {G : fG} {F n : Nat} {cf : Nat → va_E} {H H1 : Heap} {A : Nat → Prop} {locs locs1 : List Loc} (z : H1.size = H.size) (a : H.size = F + n) : H1.size = F + n := z.trans a

theorem g_put (h : Cx X G F nL cc own ret) {k : Nat} {fs : List Value} {C : String} {T : u_T} {N ci index : Nat} {ref : String} {v : Value} {ty : FieldType} (hk : k < n) (he : cf k = .inr (ci, fs)) (hc : fCl[ci]? = some (C, T, N)) (hin : ∀ w ∈ u_ws C T N, w ∈ Tg) (ty0 : Nat → FieldType) (hty : ∀ k, k < N → parseFieldDescriptor (T k).2.2.1 = some (ty0 k)) (hnm : ∀ a, a < N → ∀ b, b < N → a ≠ b → (T a).2.1 ≠ (T b).2.1) (j : Nat) (hj : j < N) (hl : Cond.fieldLink own index ref (T j).2.1 (T j).2.2.1 ∈ Tg) (hs : (T j).1 = ref) (hfin : (T j).2.2.2 = false) (hd : ty0 j = ty) (hn : narrow ty v = v) (hfit : fits ty v = true) (hlen : j < fs.length) (d : decode cc pc = .ok (.putfield index, 3)) (kk : Vg X Q G F nL n (va_up cf k (.inr (ci, fs.set j v))) cells slots (pc + 3) loc st) : Vg X Q G F nL n cf cells slots pc loc (v :: .ref (F + k) :: st) := by
  intro H locs ls a1 a2 a3 a4
  have hts := h.2.2.2.2.1
  have hK := h.2.2.2.2.2.1
  have hP := a2
  have hown := h.2.2.2.1
  have hap := va_apart (own := own) hts hin ty0 hty hnm hK hc
  obtain ⟨r, h1, cell, q1, q2, q3, q4⟩ := hP k _ (wl_get hk he)
  have hr : r = (C, T, N) := Option.some.inj (h1.symm.trans hc)
  subst hr
  obtain ⟨hS, hfc, kC, hkC, hkind⟩ := hK.1 ci _ hc
  obtain ⟨cg, kf, fi, f, hi, hsl⟩ := hS j hj
  have hlay := hts _ (hin _ (u_in_lay hj))
  unfold u_lay at hlay
  rw [if_neg (by rw [hfin]; decide)] at hlay
  have hst := (u_facts hfc hkC (u_lays hts hin hj) hi).1
  have h6 := u_store hfc hkC hkind hlay hi (by rw [hty j hj, hd]) hn hfit
  have hlk := hts _ hl
  rw [← hs] at hlk
  refine W.putK h.1 h.2.1 (f := f) ⟨hown, hlk, ⟨_, _, _, hi⟩, hst⟩ (by rw [q2]; exact h6) q1 q3 (by rw [hsl]; exact k2_hasslot (q4 j hj)) rfl rfl d fun H' e1 e2 e3 => ?_
  rw [hsl] at e1 ⊢
  refine kk H' _ _ (e2.trans a1) ?_ (a3.put e2 e3 (Nat.le_add_right F k)) a4
  rw [← wl_set]
  exact hP.set (wl_D F n cf) (wl_get hk he) ⟨_, hc, t_OB.to (V := updV (vp_V fs) j v) ⟨_, e1, q2, q3, t_set q4 hap hj v⟩ (fun i _ => vp_updV_set hlen v i)⟩ e3
theorem g_putN (h : Cx X G F nL cc own ret) {k : Nat} {fs : List Value} {C : String} {T : u_T} {N ci index : Nat} {ref host : String} {v : Value} {ty : FieldType} (hk : k < n) (he : cf k = .inr (ci, fs)) (hc : fCl[ci]? = some (C, T, N)) (hin : ∀ w ∈ u_ws C T N, w ∈ Tg) (ty0 : Nat → FieldType) (hty : ∀ k, k < N → parseFieldDescriptor (T k).2.2.1 = some (ty0 k)) (hnm : ∀ a, a < N → ∀ b, b < N → a ≠ b → (T a).2.1 ≠ (T b).2.1) (j : Nat) (hj : j < N) (hl : Cond.fieldLinkNest own index ref (T j).2.1 (T j).2.2.1 host ∈ Tn) (hs : (T j).1 = ref) (hfin : (T j).2.2.2 = false) (hd : ty0 j = ty) (hn : narrow ty v = v) (hfit : fits ty v = true) (hlen : j < fs.length) (d : decode cc pc = .ok (.putfield index, 3)) (kk : Vg X Q G F nL n (va_up cf k (.inr (ci, fs.set j v))) cells slots (pc + 3) loc st) : Vg X Q G F nL n cf cells slots pc loc (v :: .ref (F + k) :: st) := by
  intro H locs ls a1 a2 a3 a4
  have hts := h.2.2.2.2.1
  have hK := h.2.2.2.2.2.1
  have hP := a2
  have hown := h.2.2.2.1
  have hap := va_apart (own := own) hts hin ty0 hty hnm hK hc
  obtain ⟨r, h1, cell, q1, q2, q3, q4⟩ := hP k _ (wl_get hk he)
  have hr : r = (C, T, N) := Option.some.inj (h1.symm.trans hc)
  subst hr
  obtain ⟨hS, hfc, kC, hkC, hkind⟩ := hK.1 ci _ hc
  obtain ⟨cg, kf, fi, f, hi, hsl⟩ := hS j hj
  have hlay := hts _ (hin _ (u_in_lay hj))
  unfold u_lay at hlay
  rw [if_neg (by rw [hfin]; decide)] at hlay
  have hst := (u_facts hfc hkC (u_lays hts hin hj) hi).1
  have h6 := u_store hfc hkC hkind hlay hi (by rw [hty j hj, hd]) hn hfit
  have hlk := h.2.2.2.2.2.2.2.1.1 _ hl
  rw [← hs] at hlk
  refine va_WputK h.1 h.2.1 (f := f) hown (va_Nw.use rfl hlk) hi hst (by rw [q2]; exact h6) q1 q3 (by rw [hsl]; exact k2_hasslot (q4 j hj)) rfl rfl d fun H' e1 e2 e3 => ?_
  rw [hsl] at e1 ⊢
  refine kk H' _ _ (e2.trans a1) ?_ (a3.put e2 e3 (Nat.le_add_right F k)) a4
  rw [← wl_set]
  exact hP.set (wl_D F n cf) (wl_get hk he) ⟨_, hc, t_OB.to (V := updV (vp_V fs) j v) ⟨_, e1, q2, q3, t_set q4 hap hj v⟩ (fun i _ => vp_updV_set hlen v i)⟩ e3
theorem g_putF (h : Cx X G F nL cc own ret) {k : Nat} {fs : List Value} {C : String} {T : u_T} {N ci index : Nat} {ref : String} {v : Value} {ty : FieldType} (hk : k < n) (he : cf k = .inr (ci, fs)) (hc : fCl[ci]? = some (C, T, N)) (hin : ∀ w ∈ u_ws C T N, w ∈ Tg) (ty0 : Nat → FieldType) (hty : ∀ k, k < N → parseFieldDescriptor (T k).2.2.1 = some (ty0 k)) (hnm : ∀ a, a < N → ∀ b, b < N → a ≠ b → (T a).2.1 ≠ (T b).2.1) (j : Nat) (hj : j < N) (hl : Cond.fieldLink own index ref (T j).2.1 (T j).2.2.1 ∈ Tg) (hs : (T j).1 = ref) (hown1 : (T j).1 = own) (hfin : (T j).2.2.2 = true) (hin2 : (xh X).name = "<init>") (hd : ty0 j = ty) (hn : narrow ty v = v) (hfit : fits ty v = true) (hlen : j < fs.length) (d : decode cc pc = .ok (.putfield index, 3)) (kk : Vg X Q G F nL n (va_up cf k (.inr (ci, fs.set j v))) cells slots (pc + 3) loc st) : Vg X Q G F nL n cf cells slots pc loc (v :: .ref (F + k) :: st) := by
  intro H locs ls a1 a2 a3 a4
  have hts := h.2.2.2.2.1
  have hK := h.2.2.2.2.2.1
  have hP := a2
  have hown := h.2.2.2.1
  have hap := va_apart (own := own) hts hin ty0 hty hnm hK hc
  obtain ⟨r, h1, cell, q1, q2, q3, q4⟩ := hP k _ (wl_get hk he)
  have hr : r = (C, T, N) := Option.some.inj (h1.symm.trans hc)
  subst hr
  obtain ⟨hS, hfc, kC, hkC, hkind⟩ := hK.1 ci _ hc
  obtain ⟨cg, kf, fi, f, hi, hsl⟩ := hS j hj
  have hlay := hts _ (hin _ (u_in_lay hj))
  unfold u_lay at hlay
  rw [if_pos hfin] at hlay
  have hst := (u_facts hfc hkC (u_lays hts hin hj) hi).1
  have hcf : (xm X).cls = cg := by
    obtain ⟨_, _, c', _, _, _, -, -, hf', -, -, -, hown2, -⟩ := Cond.laysFinal_spec hlay
    have e1 : c' = cg := by have := hi.symm.trans hf'; simp at this; exact this.1.symm
    rw [hown1] at hown2
    rw [← e1]; exact Option.some.inj (hown.symm.trans hown2)
  have h6 := u_fits hfc hkC hkind (Or.inr hlay) hi (by rw [hty j hj, hd]) hn hfit
  have hlk := hts _ hl
  rw [← hs] at hlk
  refine W.putFinK h.1 h.2.1 hown hlk hi hst hcf hin2 (by rw [q2]; exact h6) q1 q3 (by rw [hsl]; exact k2_hasslot (q4 j hj)) rfl rfl d fun H' e1 e2 e3 => ?_
  rw [hsl] at e1 ⊢
  refine kk H' _ _ (e2.trans a1) ?_ (a3.put e2 e3 (Nat.le_add_right F k)) a4
  rw [← wl_set]
  exact hP.set (wl_D F n cf) (wl_get hk he) ⟨_, hc, t_OB.to (V := updV (vp_V fs) j v) ⟨_, e1, q2, q3, t_set q4 hap hj v⟩ (fun i _ => vp_updV_set hlen v i)⟩ e3
theorem g_iald (h : Cx X G F nL cc own ret) {k N : Nat} {f : Nat → Int32} {i : Int32} (hk : k < n) (he : cf k = .inl (G.2.2.1 0, N, .inl f)) (hi : vp_in i N) (d : decode cc pc = .ok (.iaload, 1)) (kk : Vg X Q G F nL n cf cells slots (pc + 1) loc (.int (f i.toNatClampNeg) :: st)) : Vg X Q G F nL n cf cells slots pc loc (.int i :: .ref (F + k) :: st) := fun H locs ls a1 a2 a3 a4 => va_iald h.1 h.2.1 h.2.2.2.2.2.1 a2 k 0 (wl_get hk he) rfl hi d (kk H locs ls a1 a2 a3 a4)
theorem g_zald (h : Cx X G F nL cc own ret) {k N : Nat} {f : Nat → Int32} {i : Int32} (hk : k < n) (he : cf k = .inl (G.2.2.1 1, N, .inl f)) (hi : vp_in i N) (d : decode cc pc = .ok (.baload, 1)) (kk : Vg X Q G F nL n cf cells slots (pc + 1) loc (.int (f i.toNatClampNeg) :: st)) : Vg X Q G F nL n cf cells slots pc loc (.int i :: .ref (F + k) :: st) := fun H locs ls a1 a2 a3 a4 => va_zald h.1 h.2.1 h.2.2.2.2.2.1 a2 k 1 (wl_get hk he) rfl hi d (kk H locs ls a1 a2 a3 a4)
theorem g_cald (h : Cx X G F nL cc own ret) {k N : Nat} {f : Nat → Int32} {i : Int32} (hk : k < n) (he : cf k = .inl (G.2.2.1 2, N, .inl f)) (hi : vp_in i N) (d : decode cc pc = .ok (.caload, 1)) (kk : Vg X Q G F nL n cf cells slots (pc + 1) loc (.int (f i.toNatClampNeg) :: st)) : Vg X Q G F nL n cf cells slots pc loc (.int i :: .ref (F + k) :: st) := fun H locs ls a1 a2 a3 a4 => va_cald h.1 h.2.1 h.2.2.2.2.2.1 a2 k 2 (wl_get hk he) rfl hi d (kk H locs ls a1 a2 a3 a4)
theorem g_iast (h : Cx X G F nL cc own ret) {k N : Nat} {f : Nat → Int32} {i x : Int32} (hk : k < n) (he : cf k = .inl (G.2.2.1 0, N, .inl f)) (hi : vp_in i N) (d : decode cc pc = .ok (.iastore, 1)) (kk : Vg X Q G F nL n (va_up cf k (.inl (G.2.2.1 0, N, .inl (upd f i.toNatClampNeg x)))) cells slots (pc + 1) loc st) : Vg X Q G F nL n cf cells slots pc loc (.int x :: .int i :: .ref (F + k) :: st) := by
  intro H locs ls a1 a2 a3 a4
  refine W.iast h.1 h.2.1 (a2 k _ (wl_get hk he)) ((h.2.2.2.2.2.1.2 0 _ rfl).1 N (fun j => .int (f j))) (fun q => by cases q) (by show ¬ (i < 0 ∨ (arrV _ _ _).slots.size ≤ _); rw [arrV_size]; exact hi) rfl rfl d fun H1 e z oq => ?_
  refine kk H1 _ _ (z.trans a1) ?_ (a3.put z oq (Nat.le_add_right F k)) a4
  rw [← wl_set]
  refine a2.set (wl_D F n cf) (wl_get hk he) ?_ oq
  show H1[F + k]? = some (vp_cell _ _)
  rw [e]
  rw [vp_cell_i, vp_cell_i, arrV_store]
  congr 2
  funext q
  by_cases hq : q = i.toNatClampNeg
  · subst hq
    simp [updV, upd]
  · simp [updV, upd, hq]
theorem g_zast (h : Cx X G F nL cc own ret) {k N : Nat} {f : Nat → Int32} {i x : Int32} (hk : k < n) (he : cf k = .inl (G.2.2.1 1, N, .inl f)) (hi : vp_in i N) (d : decode cc pc = .ok (.bastore, 1)) (kk : Vg X Q G F nL n (va_up cf k (.inl (G.2.2.1 1, N, .inl (upd f i.toNatClampNeg (vp_nar .boolean x))))) cells slots (pc + 1) loc st) : Vg X Q G F nL n cf cells slots pc loc (.int x :: .int i :: .ref (F + k) :: st) := by
  intro H locs ls a1 a2 a3 a4
  refine W.zast h.1 h.2.1 (a2 k _ (wl_get hk he)) ((h.2.2.2.2.2.1.2 1 _ rfl).1 N (fun j => .int (f j))) (fun q => by cases q) (by show ¬ (i < 0 ∨ (arrV _ _ _).slots.size ≤ _); rw [arrV_size]; exact hi) rfl rfl d fun H1 e z oq => ?_
  refine kk H1 _ _ (z.trans a1) ?_ (a3.put z oq (Nat.le_add_right F k)) a4
  rw [← wl_set]
  refine a2.set (wl_D F n cf) (wl_get hk he) ?_ oq
  show H1[F + k]? = some (vp_cell _ _)
  rw [e]
  rw [vp_cell_i, vp_cell_i, arrV_store]
  congr 2
  funext q
  by_cases hq : q = i.toNatClampNeg
  · subst hq
    simp [updV, upd, vp_nar, narrow]
  · simp [updV, upd, hq]
theorem g_cast (h : Cx X G F nL cc own ret) {k N : Nat} {f : Nat → Int32} {i x : Int32} (hk : k < n) (he : cf k = .inl (G.2.2.1 2, N, .inl f)) (hi : vp_in i N) (d : decode cc pc = .ok (.castore, 1)) (kk : Vg X Q G F nL n (va_up cf k (.inl (G.2.2.1 2, N, .inl (upd f i.toNatClampNeg (vp_nar .char x))))) cells slots (pc + 1) loc st) : Vg X Q G F nL n cf cells slots pc loc (.int x :: .int i :: .ref (F + k) :: st) := by
  intro H locs ls a1 a2 a3 a4
  refine W.cast h.1 h.2.1 (a2 k _ (wl_get hk he)) ((h.2.2.2.2.2.1.2 2 _ rfl).1 N (fun j => .int (f j))) (fun q => by cases q) (by show ¬ (i < 0 ∨ (arrV _ _ _).slots.size ≤ _); rw [arrV_size]; exact hi) rfl rfl d fun H1 e z oq => ?_
  refine kk H1 _ _ (z.trans a1) ?_ (a3.put z oq (Nat.le_add_right F k)) a4
  rw [← wl_set]
  refine a2.set (wl_D F n cf) (wl_get hk he) ?_ oq
  show H1[F + k]? = some (vp_cell _ _)
  rw [e]
  rw [vp_cell_i, vp_cell_i, arrV_store]
  congr 2
  funext q
  by_cases hq : q = i.toNatClampNeg
  · subst hq
    simp [updV, upd, vp_nar, narrow]
  · simp [updV, upd, hq]
theorem g_alen (h : Cx X G F nL cc own ret) {k ti : Nat} {cA : ClassId} {x : vp_A} {ty : FieldType} {v : Int32} (hk : k < n) (he : cf k = .inl (cA, x)) (ht : (fTy G)[ti]? = some (cA, ty)) (hv : Int32.ofNat x.1 = v) (d : decode cc pc = .ok (.arraylength, 1)) (kk : Vg X Q G F nL n cf cells slots (pc + 1) loc (.int v :: st)) : Vg X Q G F nL n cf cells slots pc loc (.ref (F + k) :: st) := fun H locs ls a1 a2 a3 a4 => va_alen h.1 h.2.1 h.2.2.2.2.2.1 a2 k ti (wl_get hk he) ht hv d (kk H locs ls a1 a2 a3 a4)
theorem g_aald (h : Cx X G F nL cc own ret) {k N : Nat} {ti : Nat} {C : String} {f : Nat → Option Nat} {i : Int32} {v : Value} (ht : (fTy G)[ti]? = some (G.2.2.1 ti, .object C)) (hk : k < n) (he : cf k = .inl (G.2.2.1 ti, N, .inr (.inr (.inr (.inr f))))) (hi : vp_in i N) (hv : va_rf (f i.toNatClampNeg) = v) (d : decode cc pc = .ok (.aaload, 1)) (kk : Vg X Q G F nL n cf cells slots (pc + 1) loc (v :: st)) : Vg X Q G F nL n cf cells slots pc loc (.int i :: .ref (F + k) :: st) := by
  subst hv
  exact fun H locs ls a1 a2 a3 a4 => va_aldq h.1 h.2.1 h.2.2.2.2.2.1 a2 k ti (wl_get hk he) ht hi d (kk H locs ls a1 a2 a3 a4)
theorem g_aast (h : Cx X G F nL cc own ret) {k N b : Nat} {ti ci : Nat} {r : vw_C} {vs : List Value} {f : Nat → Option Nat} {i : Int32} (ht : (fTy G)[ti]? = some (G.2.2.1 ti, .object r.1)) (hc : fCl[ci]? = some r) (hk : k < n) (he : cf k = .inl (G.2.2.1 ti, N, .inr (.inr (.inr (.inr f))))) (hb : b < n) (hbe : cf b = .inr (ci, vs)) (hi : vp_in i N) (d : decode cc pc = .ok (.aastore, 1)) (kk : Vg X Q G F nL n (va_up cf k (.inl (G.2.2.1 ti, N, .inr (.inr (.inr (.inr (va_up f i.toNatClampNeg (some (F + b))))))))) cells slots (pc + 1) loc st) : Vg X Q G F nL n cf cells slots pc loc (.ref (F + b) :: .int i :: .ref (F + k) :: st) := by
  intro H locs ls a1 a2 a3 a4
  have hK := h.2.2.2.2.2.1
  have hP := a2
  have hlt : i.toNatClampNeg < N := Nat.not_le.mp fun q => hi (Or.inr q)
  have h0 : ¬ i < 0 := fun q => hi (Or.inl q)
  obtain ⟨r', hr', cellV, g1, g2, g3, -⟩ := hP b _ (wl_get hb hbe)
  have hcls := (hK.1 ci r hc).2
  obtain ⟨kA, comp, k1, k2, k3, -⟩ := (hK.2 ti _ ht).2
  have hcomp : comp = (fD G).1 ci := Option.some.inj (k3.symm.trans hcls.1)
  subst hcomp
  obtain ⟨kC, hkC, -⟩ := hcls.2
  refine W.aast h.1 h.2.1 (hP k _ (wl_get hk he)) (fun q h => by cases h) (fun h => by cases h) k1 k2 rfl hkC ⟨h0, by show _ < (arrV _ _ _).slots.size; rw [arrV_size]; exact hlt⟩ g1 (fun q h => by rw [g3] at h; cases h) (by rw [g2]; exact hkC) (by rw [g2]; exact va_assign hcls) rfl rfl d fun H1 e z oq => ?_
  refine kk H1 _ _ (z.trans a1) ?_ (a3.put z oq (Nat.le_add_right F k)) a4
  rw [← wl_set]
  refine hP.set (wl_D F n cf) (wl_get hk he) ?_ oq
  show H1[F + k]? = some (vp_cell _ _)
  rw [e]
  rw [vp_cell_q, vp_cell_q, arrV_store]
  congr 2
  funext q
  by_cases hq : q = i.toNatClampNeg
  · subst hq
    simp [updV, va_up, va_rf]
  · simp [updV, va_up, hq]
theorem g_copyC (h : Cx X G F nL cc own ret) {a0 k1 n0 n1 index : Nat} {f g : Nat → Int32} {sp dp m : Int32} (hsrc : ∀ (H : Heap) (locs : List Loc), H.size = F + n → va_P (fD G) fCl (wl F n cf) H → va_S (fA F) (xs X).heap H locs → ∃ (cs : Cell) (ks : Class) (sc : ClassId), H[a0]? = some cs ∧ (∀ k, cs.vm ≠ .statics k) ∧ cs.vm ≠ .unknown ∧ (xs X).vm.classes[cs.cls]? = some ks ∧ ks.kind = .array sc .int ∧ n0 ≤ cs.slots.size ∧ ∀ j : Nat, j < n0 → cs.slots[j]? = some (.int (f j))) (hk1 : k1 < n) (he1 : cf k1 = .inl (G.2.2.1 0, n1, .inl g)) (h1 : ¬ sp < 0) (h2 : ¬ dp < 0) (h3 : ¬ m < 0) (h4 : sp.toNatClampNeg + m.toNatClampNeg ≤ n0) (h5 : dp.toNatClampNeg + m.toNatClampNeg ≤ n1) (hl : Cond.methodLink own index arraycopyName ∈ Tg) (hnat : Cond.native arraycopyName ∈ Tg) (hsta : Cond.static arraycopyName ∈ Tg) (hini : Cond.initialized "java/lang/System" ∈ Tg) (hfr : 1 ≤ (xR X).frames) (hlo : (st.map fun v => v.category).sum + (nativeFrameWords "java/lang/System" "arraycopy" 5 + 11) ≤ (xR X).locals) (d : decode cc pc = .ok (.invokestatic index, 3)) (kk : Vg X Q G F nL n (va_up cf k1 (.inl (G.2.2.1 0, n1, .inl (va_cpy f g sp.toNatClampNeg dp.toNatClampNeg m.toNatClampNeg)))) cells slots (pc + 3) loc st) : Vg X Q G F nL n cf cells slots pc loc (.int m :: .int dp :: .ref (F + k1) :: .int sp :: .ref a0 :: st) := by
  have nn : ∀ z : Int32, ¬ z < 0 → z.toInt = (z.toNatClampNeg : Int) := by
    intro z hz
    have hz0 : (0 : Int) ≤ z.toInt := by
      have := Int32.not_lt.mp hz
      simpa using Int32.le_iff_toInt_le.mp this
    show z.toInt = ((z.toInt.toNat : Nat) : Int)
    omega
  intro H locs ls a1 a2 a3 a4
  have hts := h.2.2.2.2.1
  have hsz : (xc X).maxLocals = ls.size := h.2.2.1.trans a4.1.symm
  obtain ⟨cs, ks, sc, hc0, v1, v2, hk0, hkk0, hsl, hval⟩ := hsrc H locs a1 a2 a3
  intro T hT S
  have hc1 : H[F + k1]? = some (vp_cell (G.2.2.1 0) (n1, .inl g)) := a2 k1 _ (wl_get hk1 he1)
  obtain ⟨-, kd, hkd, cmd, hkkd⟩ := (h.2.2.2.2.2.1.2 0 _ rfl).1 n1 (fun j => .int (g j))
  have hget : ∀ i, i < m.toNatClampNeg → cs.slots.getD (sp.toNatClampNeg + i) .null = .int (f (sp.toNatClampNeg + i)) := by
    intro i hi
    rw [Array.getD_eq_getD_getElem?, hval _ (by omega)]
    rfl
  obtain ⟨vm', X', step⟩ := S.arraycopy h.1 h.2.2.2.1 (hts _ hl) (hts _ hnat) (hts _ hsta) (hts _ hini) (src := a0) (dst := F + k1) (cs := cs) (cd := vp_cell (G.2.2.1 0) (n1, .inl g)) (srcPos := sp) (destPos := dp) (n := m) (by rw [hT]; exact hc0) (by rw [hT]; exact hc1)
    v1 (fun _ h => by cases h) v2 (fun h => by cases h) hk0 hkd hkk0 hkkd rfl h1 h2 h3
    (by rw [nn sp h1, nn m h3]; omega)
    (by rw [nn dp h2, nn m h3]; show ¬ _ > ((arrV (G.2.2.1 0) n1 (fun j => .int (g j))).slots.size : Int); rw [arrV_size]; omega)
    (fun vm₁ _ i hi => by
      rw [hget i hi]
      exact ⟨rfl, trivial⟩)
    (g := F0 (xm X) pc ls (.int m :: .int dp :: .ref (F + k1) :: .int sp :: .ref a0 :: st)) rfl (by rw [hsz]) (rest := st) rfl (by rw [h.2.1]; exact d) hfr (by show 2 * 0 + _ + _ ≤ _; omega)
  have es : cs.stretch sp.toNatClampNeg m.toNatClampNeg = (arrV (G.2.2.1 0) n0 (fun j => .int (f j))).stretch sp.toNatClampNeg m.toNatClampNeg := by
    unfold Cell.stretch
    apply List.map_congr_left
    intro i hi
    have hi' := List.mem_range.mp hi
    rw [hget i hi', Array.getD_eq_getD_getElem?, arrV_read _ _ (by omega)]
    rfl
  have e1 : copied cs (vp_cell (G.2.2.1 0) (n1, .inl g)) sp dp m = vp_cell (G.2.2.1 0) (n1, .inl (va_cpy f g sp.toNatClampNeg dp.toNatClampNeg m.toNatClampNeg)) := by
    show Cell.storeRun _ _ _ = _
    rw [es]
    exact va_copied (fun z => .int z) (G.2.2.1 0) (G.2.2.1 0) f g h4
  rw [e1] at X' step
  have hl : F + k1 < H.size := (Array.getElem?_eq_some_iff.mp hc1).1
  have hheap : ((T.setVm vm').setCell (F + k1) (vp_cell (G.2.2.1 0) (n1, .inl (va_cpy f g sp.toNatClampNeg dp.toNatClampNeg m.toNatClampNeg)))).heap = H.setIfInBounds (F + k1) (vp_cell (G.2.2.1 0) (n1, .inl (va_cpy f g sp.toNatClampNeg dp.toNatClampNeg m.toNatClampNeg))) := by rw [← hT]; rfl
  have oq : ∀ q : Nat, q ≠ F + k1 → (H.setIfInBounds (F + k1) (vp_cell (G.2.2.1 0) (n1, .inl (va_cpy f g sp.toNatClampNeg dp.toNatClampNeg m.toNatClampNeg))))[q]? = H[q]? := fun q hq => by simp [Array.getElem?_setIfInBounds, Ne.symm hq]
  have hAk : fA F (F + k1) := Nat.le_add_right F k1
  obtain ⟨t, b1, b2⟩ := kk _ _ ls (by rw [Array.size_setIfInBounds]; exact a1) (by rw [← wl_set]; exact a2.set (wl_D F n cf) (wl_get hk1 he1) (show (H.setIfInBounds (F + k1) _)[F + k1]? = some _ by simp [Array.getElem?_setIfInBounds, hl]) oq) ⟨by rw [Array.size_setIfInBounds]; exact a3.1, fun q g1 g2 => by
      rw [oq q (fun e => g2 (by rw [e]; exact hAk))]
      exact a3.2.1 q g1 g2, fun q hq => by
      rcases List.mem_append.mp hq with h | h
      · exact a3.2.2 q h
      · obtain ⟨z, -, hz⟩ := List.mem_map.mp h
        rw [← hz]
        exact hAk⟩ a4 _ hheap X'
  exact ⟨t, step t b1, b2⟩
theorem g_copy (h : Cx X G F nL cc own ret) {k0 k1 n0 n1 index : Nat} {f g : Nat → Int32} {sp dp m : Int32} (hk0 : k0 < n) (he0 : cf k0 = .inl (G.2.2.1 0, n0, .inl f)) (hk1 : k1 < n) (he1 : cf k1 = .inl (G.2.2.1 0, n1, .inl g)) (h1 : ¬ sp < 0) (h2 : ¬ dp < 0) (h3 : ¬ m < 0) (h4 : sp.toNatClampNeg + m.toNatClampNeg ≤ n0) (h5 : dp.toNatClampNeg + m.toNatClampNeg ≤ n1) (hl : Cond.methodLink own index arraycopyName ∈ Tg) (hnat : Cond.native arraycopyName ∈ Tg) (hsta : Cond.static arraycopyName ∈ Tg) (hini : Cond.initialized "java/lang/System" ∈ Tg) (hfr : 1 ≤ (xR X).frames) (hlo : (st.map fun v => v.category).sum + (nativeFrameWords "java/lang/System" "arraycopy" 5 + 11) ≤ (xR X).locals) (d : decode cc pc = .ok (.invokestatic index, 3)) (kk : Vg X Q G F nL n (va_up cf k1 (.inl (G.2.2.1 0, n1, .inl (va_cpy f g sp.toNatClampNeg dp.toNatClampNeg m.toNatClampNeg)))) cells slots (pc + 3) loc st) : Vg X Q G F nL n cf cells slots pc loc (.int m :: .int dp :: .ref (F + k1) :: .int sp :: .ref (F + k0) :: st) := by
  refine g_copyC (n0 := n0) (f := f) h (fun H locs a1 a2 a3 => ?_) hk1 he1 h1 h2 h3 h4 h5 hl hnat hsta hini hfr hlo d kk
  have hc0 : H[F + k0]? = some (vp_cell (G.2.2.1 0) (n0, .inl f)) := a2 k0 _ (wl_get hk0 he0)
  obtain ⟨w, kd, hkd, cmd, hkkd⟩ := (h.2.2.2.2.2.1.2 0 _ rfl).1 n0 (fun j => .int (f j))
  refine ⟨_, kd, cmd, hc0, (fun _ h => by cases h), (fun h => by cases h), hkd, hkkd, ?_, fun j hj => ?_⟩
  · show n0 ≤ (arrV (G.2.2.1 0) n0 (fun j => .int (f j))).slots.size
    rw [arrV_size]
    exact Nat.le_refl _
  · show (arrV (G.2.2.1 0) n0 (fun j => .int (f j))).slots[j]? = _
    rw [arrV_read _ _ hj]
/-- out of a static array -/
theorem g_copyS (h : Cx X G F nL cc own ret) {j k1 n1 index : Nat} {g : Nat → Int32} {sp dp m : Int32} (hj : j < 3) (hk1 : k1 < n) (he1 : cf k1 = .inl (G.2.2.1 0, n1, .inl g)) (h1 : ¬ sp < 0) (h2 : ¬ dp < 0) (h3 : ¬ m < 0) (h4 : sp.toNatClampNeg + m.toNatClampNeg ≤ 4) (h5 : dp.toNatClampNeg + m.toNatClampNeg ≤ n1) (hl : Cond.methodLink own index arraycopyName ∈ Tg) (hnat : Cond.native arraycopyName ∈ Tg) (hsta : Cond.static arraycopyName ∈ Tg) (hini : Cond.initialized "java/lang/System" ∈ Tg) (hfr : 1 ≤ (xR X).frames) (hlo : (st.map fun v => v.category).sum + (nativeFrameWords "java/lang/System" "arraycopy" 5 + 11) ≤ (xR X).locals) (d : decode cc pc = .ok (.invokestatic index, 3)) (kk : Vg X Q G F nL n (va_up cf k1 (.inl (G.2.2.1 0, n1, .inl (va_cpy (sV j) g sp.toNatClampNeg dp.toNatClampNeg m.toNatClampNeg)))) cells slots (pc + 3) loc st) : Vg X Q G F nL n cf cells slots pc loc (.int m :: .int dp :: .ref (F + k1) :: .int sp :: .ref (G.2.2.2 j) :: st) := by
  refine g_copyC (n0 := 4) (f := sV j) h (fun H locs a1 a2 a3 => ?_) hk1 he1 h1 h2 h3 h4 h5 hl hnat hsta hini hfr hlo d kk
  obtain ⟨cell, t1, t2, t3, t4, -, t6, t7⟩ := (h.2.2.2.2.2.2.1 j hj).2
  obtain ⟨v1, kd, hkd, cmd, hkkd⟩ := t2
  exact ⟨cell, kd, cmd, by rw [a3.2.1 _ (Array.getElem?_eq_some_iff.mp t1).1 t7]; exact t1, v1, t3, hkd, hkkd, t4, t6⟩
theorem g_mmin (h : Cx X G F nL cc own ret) {index : Nat} {x y : Int32} (hl : Cond.methodLink own index Lib.Math.min.name ∈ Tg) (hsta : Cond.static Lib.Math.min.name ∈ Tg) (hini : Cond.initialized "java/lang/Math" ∈ Tg) (hcode : Cond.code Lib.Math.min.name Lib.Math.min.code 2 (some .int) ∈ Tg) (hfr : 1 ≤ (xR X).frames) (hlo : (st.map fun v => v.category).sum + 13 ≤ (xR X).locals) (hc : cells ≤ (xR X).cells) (hs : slots ≤ (xR X).slots) (d : decode cc pc = .ok (.invokestatic index, 3)) (kk : Vg X Q G F nL n cf cells slots (pc + 3) loc (.int (if y < x then y else x) :: st)) : Vg X Q G F nL n cf cells slots pc loc (.int y :: .int x :: st) := fun H locs ls a1 a2 a3 a4 =>
  va_mmin h.1 h.2.1 (h.2.2.1.trans a4.1.symm) h.2.2.2.1 (h.2.2.2.2.1 _ hl) (h.2.2.2.2.1 _ hsta) (h.2.2.2.2.1 _ hini) (h.2.2.2.2.1 _ hcode) hfr hlo hc hs d (kk H locs ls a1 a2 a3 a4)
theorem g_objInit (h : Cx X G F nL cc own ret) {index a : Nat} (hl : Cond.methodLink own index Lib.objectInit ∈ Tg) (hi : Cond.instanceMethod Lib.objectInit ∈ Tg) (hcode : Cond.code Lib.objectInit ⟨#[0xb1]⟩ 1 none ∈ Tg) (hfr : 1 ≤ (xR X).frames) (hlo : (st.map fun v => v.category).sum + 12 ≤ (xR X).locals) (d : decode cc pc = .ok (.invokespecial index, 3)) (kk : Vg X Q G F nL n cf cells slots (pc + 3) loc st) : Vg X Q G F nL n cf cells slots pc loc (.ref a :: st) := fun H locs ls a1 a2 a3 a4 =>
  W.objInit h.1 h.2.1 h.2.2.2.1 (h.2.2.2.2.1 _ hl) (h.2.2.2.2.1 _ hi) (h.2.2.2.2.1 _ hcode) rfl (by rw [h.2.2.1]; exact a4.1) rfl d hfr (by show 2 * 0 + _ + _ ≤ _; omega) (kk H locs ls a1 a2 a3 a4)
/-- the static arrays -/
theorem g_gets (h : Cx X G F nL cc own ret) {index j : Nat} {nm : String} (hj : j < 3) (hs : sN j = nm) (hl : Cond.fieldLink own index RX7 nm "[I" ∈ Tg) (d : decode cc pc = .ok (.getstatic index, 3)) (kk : Vg X Q G F nL n cf cells slots (pc + 3) loc (.ref (G.2.2.2 j) :: st)) : Vg X Q G F nL n cf cells slots pc loc st := fun H locs ls a1 a2 a3 a4 =>
  va_gets h.1 h.2.1 (h.2.2.2.2.2.2.1 j hj).1 a3 h.2.2.2.1 (by rw [hs]; exact h.2.2.2.2.1 _ hl) (fun _ z => z) d (kk H locs ls a1 a2 a3 a4)
theorem g_getsN (h : Cx X G F nL cc own ret) {index j : Nat} {nm host : String} (hj : j < 3) (hs : sN j = nm) (hl : Cond.fieldLinkNest own index RX7 nm "[I" host ∈ Tn) (d : decode cc pc = .ok (.getstatic index, 3)) (kk : Vg X Q G F nL n cf cells slots (pc + 3) loc (.ref (G.2.2.2 j) :: st)) : Vg X Q G F nL n cf cells slots pc loc st := by
  intro H locs ls a1 a2 a3 a4
  obtain ⟨cg, kf, fi, f, a, cell, h1, h2, h3, h4, h5, h6, h7, h8⟩ := (h.2.2.2.2.2.2.1 j hj).1
  rw [hs] at h1
  exact va_WgetsN h.1 h.2.1 h.2.2.2.1 (va_Nw.use rfl (h.2.2.2.2.2.2.2.1.1 _ hl)) h1 h2 h3 h4 (by rw [a3.2.1 a (Array.getElem?_eq_some_iff.mp h5).1 h8]; exact h5) (fun e => by rw [e] at h6; cases h6) h7 rfl d (kk H locs ls a1 a2 a3 a4)
theorem g_sald (h : Cx X G F nL cc own ret) {j : Nat} {i : Int32} (hj : j < 3) (hi : vp_in i 4) (d : decode cc pc = .ok (.iaload, 1)) (kk : Vg X Q G F nL n cf cells slots (pc + 1) loc (.int (sV j i.toNatClampNeg) :: st)) : Vg X Q G F nL n cf cells slots pc loc (.int i :: .ref (G.2.2.2 j) :: st) := by
  intro H locs ls a1 a2 a3 a4
  obtain ⟨cell, h1, h2, h3, h4, h5, h6, h7⟩ := (h.2.2.2.2.2.2.1 j hj).2
  have hlt : i.toNatClampNeg < 4 := Nat.not_le.mp fun q => hi (Or.inr q)
  have hin' : ¬ (i < 0 ∨ cell.slots.size ≤ i.toNatClampNeg) := by
    intro q
    rcases q with q | q
    · exact hi (Or.inl q)
    · omega
  exact W.iald (v := .int (sV j i.toNatClampNeg)) h.1 h.2.1 (by rw [a3.2.1 _ (Array.getElem?_eq_some_iff.mp h1).1 h7]; exact h1) h2 h3 hin' (h6 _ hlt) rfl rfl d (kk H locs ls a1 a2 a3 a4)
theorem g_slen (h : Cx X G F nL cc own ret) {j : Nat} (hj : j < 3) (d : decode cc pc = .ok (.arraylength, 1)) (kk : Vg X Q G F nL n cf cells slots (pc + 1) loc (.int 4 :: st)) : Vg X Q G F nL n cf cells slots pc loc (.ref (G.2.2.2 j) :: st) := fun H locs ls a1 a2 a3 a4 =>
  va_tlen h.1 h.2.1 (h.2.2.2.2.2.2.1 j hj).2 a3 (v := 4) rfl d (kk H locs ls a1 a2 a3 a4)
/-- ends -/
theorem g_iret (h : Cx X G F nL cc own (some .int)) {post : Option Value → Nat → (Nat → va_E) → Prop} {v : Int32} (d : decode cc pc = .ok (.ireturn, 1)) (hp : post (some (.int v)) n cf) : Vg X (MQ (xb X) (fQ G F post) (xa X) (xs X) cells slots (fA F)) G F nL n cf cells slots pc loc [.int v] := fun H locs ls a1 a2 a3 a4 =>
  W.iret h.1 h.2.1 h.2.2.2.2.2.2.2.2.2.1 (fun t ht hW => ⟨⟨_, n, cf, rfl, hp, by rw [ht]; exact a1, by rw [ht]; exact a2⟩, a3.F ht⟩) a3.2.2 d h.2.2.2.2.2.2.2.2.2.2
theorem g_zret {ty : FieldType} (h : Cx X G F nL cc own (some ty)) {post : Option Value → Nat → (Nat → va_E) → Prop} {v : Int32} (hn : narrow ty (.int v) = .int v) (d : decode cc pc = .ok (.ireturn, 1)) (hp : post (some (.int v)) n cf) : Vg X (MQ (xb X) (fQ G F post) (xa X) (xs X) cells slots (fA F)) G F nL n cf cells slots pc loc [.int v] := fun H locs ls a1 a2 a3 a4 =>
  W.zret h.1 h.2.1 h.2.2.2.2.2.2.2.2.2.1 hn (fun t ht hW => ⟨⟨_, n, cf, rfl, hp, by rw [ht]; exact a1, by rw [ht]; exact a2⟩, a3.F ht⟩) a3.2.2 d h.2.2.2.2.2.2.2.2.2.2
theorem g_vret (h : Cx X G F nL cc own none) {post : Option Value → Nat → (Nat → va_E) → Prop} (d : decode cc pc = .ok (.return_, 1)) (hp : post none n cf) : Vg X (MQ (xb X) (fQ G F post) (xa X) (xs X) cells slots (fA F)) G F nL n cf cells slots pc loc [] := fun H locs ls a1 a2 a3 a4 =>
  W.vret h.1 h.2.1 h.2.2.2.2.2.2.2.2.2.1 (fun t ht hW => ⟨⟨_, n, cf, rfl, hp, by rw [ht]; exact a1, by rw [ht]; exact a2⟩, a3.F ht⟩) a3.2.2 d h.2.2.2.2.2.2.2.2.2.2
theorem g_aret {C : String} (h : Cx X G F nL cc own (some (.object C))) {post : Option Value → Nat → (Nat → va_E) → Prop} {v : Value} (hv : v = .null ∨ ∃ a, v = .ref a) (d : decode cc pc = .ok (.areturn, 1)) (hp : post (some v) n cf) : Vg X (MQ (xb X) (fQ G F post) (xa X) (xs X) cells slots (fA F)) G F nL n cf cells slots pc loc [v] := fun H locs ls a1 a2 a3 a4 =>
  W.aret h.1 h.2.1 h.2.2.2.2.2.2.2.2.2.1 (Or.inl ⟨_, rfl⟩) hv (fun t ht hW => ⟨⟨_, n, cf, rfl, hp, by rw [ht]; exact a1, by rw [ht]; exact a2⟩, a3.F ht⟩) a3.2.2 d h.2.2.2.2.2.2.2.2.2.2
/-- calls -/
theorem g_run {H : Heap} {locs : List Loc} {ls : Array Slot} {st0 : List Value} {post : Option Value → Nat → (Nat → va_E) → Prop} {mc ms : Nat} {a : Array Value} (hF : F ≤ (xs X).heap.size) (hr : va_Run (xp X) (xl X) (xe X) (xR X) (xs X) (xm X) (xa X) (xb X) (xh X) (xc X) H locs cells slots mc ms (F0 (xm X) pc ls st0) st (fQ G F post a) (fA F)) (a3 : va_S (fA F) (xs X).heap H locs) (a4 : lv_has ls nL loc) (kk : ∀ r n2 cf2, post r n2 cf2 → Vg X Q G F nL n2 cf2 (cells + mc) (slots + ms) (pc + 3) loc (r.toList ++ st)) : W (xp X) (xl X) (xe X) (xR X) (xs X) (xm X) (xa X) (xb X) (xh X) (xc X) H locs cells slots Q (F0 (xm X) pc ls st0) := by
  intro T hT S
  obtain ⟨v, st₀, t, T', L, h0, X', hL, e1, e2, ⟨⟨r, n2, cf2, hv, hp, hb⟩, hz, hk⟩, go⟩ := hr T hT S
  cases hv
  rw [h0] at hz hk
  obtain ⟨t2, b1, b2⟩ := kk v n2 cf2 hp T'.heap (locs ++ L) ls (by rw [e1]; exact hb.1) (by rw [e1]; exact hb.2)
    ⟨Nat.le_trans a3.1 (by rw [e1]; exact hz), fun q h1 h2 => by rw [e1, hk q (Nat.lt_of_lt_of_le h1 a3.1) h2]; exact a3.2.1 q h1 h2, fun q hq => by
      rcases List.mem_append.mp hq with h | h
      · exact a3.2.2 q h
      · exact hL q h⟩ a4 T' rfl X'
  exact ⟨t2, go t2 b1, b2⟩
theorem tg_V {C : String} {index : Nat} {y : MethodName} {bytes : ByteArray} {mL : Nat} {r : Option FieldType} (hc : Cond.code y bytes mL r ∈ Tg) (h1 : Cond.methodLink own index y ∈ Tg) (h2 : Cond.instanceMethod y ∈ Tg) (h3 : Cond.selects C y y ∈ Tg) (h4 : Cond.initialized C ∈ Tg) : GoodIn Tg (wsV own index C y (.code y bytes mL r :: Tg)) := by
  have g : ∀ w ∈ Tg, w ∈ Tg ∧ ((w.onTables && w.keeps) = true ∨ ∃ ty, w = .arrayClass ty) := fun w hw => ⟨hw, good_of_word (List.all_eq_true.mp tg_good _ hw)⟩
  intro w hw
  unfold wsV at hw
  rcases List.mem_append.mp hw with hw | hw
  · simp only [List.mem_cons, List.not_mem_nil, or_false] at hw
    rcases hw with rfl | rfl | rfl | rfl
    · exact g _ h1
    · exact g _ h2
    · exact g _ h3
    · exact g _ h4
  · exact tg_in hc w hw
theorem g_callV (h : Cx X G F nL cc own ret) {y : MethodName} {bytes : ByteArray} {mL np mc ms index k ci : Nat} {r2 : Option FieldType} {rm : Room} {post : Option Value → Nat → (Nat → va_E) → Prop} {C : String} {As : List Value} {fs : List Value} {st0 : List Value} (hM : Met (xl X) y (.code y bytes mL r2 :: Tg) rm (va_Pc (.ref (F + k) :: As) (fB G F n cf)) (fQ G F post) mc ms (fA F))
    (hst : st0 = As.reverse ++ .ref (F + k) :: st) (hk : k < n) (he : cf k = .inr (ci, fs)) (hci : (fCl[ci]?).map (fun q => q.1) = some C) (hc : Cond.code y bytes mL r2 ∈ Tg) (hl : Cond.methodLink own index y ∈ Tg) (hi : Cond.instanceMethod y ∈ Tg) (hse : Cond.selects C y y ∈ Tg) (hin : Cond.initialized C ∈ Tg) (hrc : rm.cells = mc) (hrs : rm.slots = ms) (hd : y.cls = C ∧ y.cls ≠ "java/lang/invoke/MethodHandle" ∧ y.cls ≠ "java/lang/invoke/VarHandle" ∧ (parseMethodDescriptor y.desc).map (fun d => d.parameters.length) = some np) (hn : As.length = np) (hR : rm.frames + 1 ≤ (xR X).frames ∧ 8 + (mL + 11) + rm.locals ≤ (xR X).locals) (hW : (st.map fun v => v.category).sum ≤ 8) (hf : cells + mc ≤ (xR X).cells ∧ slots + ms ≤ (xR X).slots) (d : decode cc pc = .ok (.invokevirtual index, 3))
    (kk : ∀ r n2 cf2, post r n2 cf2 → Vg X Q G F nL n2 cf2 (cells + mc) (slots + ms) (pc + 3) loc (r.toList ++ st)) : Vg X Q G F nL n cf cells slots pc loc st0 := by
  subst hst
  intro H locs ls a1 a2 a3 a4
  obtain ⟨q, hq, hq2⟩ : ∃ q, fCl[ci]? = some q ∧ q.1 = C := by
    cases hz : fCl[ci]? with
    | none => rw [hz] at hci; cases hci
    | some q => rw [hz] at hci; exact ⟨q, rfl, Option.some.inj hci⟩
  have hrecv := va_recv (s := xs X) h.2.2.2.2.2.1 a2 hq (wl_get hk he)
  rw [hq2] at hrecv
  exact g_run h.2.2.2.2.2.2.2.2.1 (va_runV (As := As) (rest := st) ⟨h.1, h.2.1, h.2.2.1, h.2.2.2.1, h.2.2.2.2.1⟩ hM (cwV np h.2.2.2.2.1 (tg_V hc hl hi hse hin) rfl hrc hrs hd hR) ⟨fB_blind, hrecv, fun U hU hW2 => ⟨rfl, fB_at h a1 a2 a3 U hU hW2⟩⟩ rfl hn a4.1 rfl (lv_room hW) d hf) a3 a4 kk
theorem g_callVN (h : Cx X G F nL cc own ret) {y : MethodName} {bytes : ByteArray} {mL np mc ms index k ci : Nat} {r2 : Option FieldType} {rm : Room} {post : Option Value → Nat → (Nat → va_E) → Prop} {C host : String} {As : List Value} {fs : List Value} {st0 : List Value} (hM : Met (xl X) y (.code y bytes mL r2 :: Tg) rm (va_Pc (.ref (F + k) :: As) (fB G F n cf)) (fQ G F post) mc ms (fA F))
    (hst : st0 = As.reverse ++ .ref (F + k) :: st) (hk : k < n) (he : cf k = .inr (ci, fs)) (hci : (fCl[ci]?).map (fun q => q.1) = some C) (hc : Cond.code y bytes mL r2 ∈ Tg) (hl : Cond.methodLinkNest own index y host ∈ Tn) (hi : Cond.instanceMethod y ∈ Tg) (hse : Cond.selects C y y ∈ Tg) (hin : Cond.initialized C ∈ Tg) (hrc : rm.cells = mc) (hrs : rm.slots = ms) (hd : y.cls = C ∧ y.cls ≠ "java/lang/invoke/MethodHandle" ∧ y.cls ≠ "java/lang/invoke/VarHandle" ∧ (parseMethodDescriptor y.desc).map (fun d => d.parameters.length) = some np) (hn : As.length = np) (hR : rm.frames + 1 ≤ (xR X).frames ∧ 8 + (mL + 11) + rm.locals ≤ (xR X).locals) (hW : (st.map fun v => v.category).sum ≤ 8) (hf : cells + mc ≤ (xR X).cells ∧ slots + ms ≤ (xR X).slots) (d : decode cc pc = .ok (.invokevirtual index, 3))
    (kk : ∀ r n2 cf2, post r n2 cf2 → Vg X Q G F nL n2 cf2 (cells + mc) (slots + ms) (pc + 3) loc (r.toList ++ st)) : Vg X Q G F nL n cf cells slots pc loc st0 := by
  subst hst
  intro H locs ls a1 a2 a3 a4
  obtain ⟨q, hq, hq2⟩ : ∃ q, fCl[ci]? = some q ∧ q.1 = C := by
    cases hz : fCl[ci]? with
    | none => rw [hz] at hci; cases hci
    | some q => rw [hz] at hci; exact ⟨q, rfl, Option.some.inj hci⟩
  have hrecv := va_recv (s := xs X) h.2.2.2.2.2.1 a2 hq (wl_get hk he)
  rw [hq2] at hrecv
  have hts := h.2.2.2.2.1
  exact g_run h.2.2.2.2.2.2.2.2.1 (va_runVN (As := As) (rest := st) (C := C) ⟨h.1, h.2.1, h.2.2.1, h.2.2.2.1, hts⟩ hM ⟨va_cnB np hts (tg_in hc) rfl hrc hrs (h.2.2.2.2.2.2.2.1.1 _ hl) (by rw [hd.1]; exact hts _ hin) hd.2 hR, hts _ hi, hts _ hse⟩ ⟨fB_blind, hrecv, fun U hU hW2 => ⟨rfl, fB_at h a1 a2 a3 U hU hW2⟩⟩ rfl hn a4.1 rfl (lv_room hW) d hf) a3 a4 kk
theorem tg_S {index : Nat} {y : MethodName} {bytes : ByteArray} {mL : Nat} {r : Option FieldType} (hc : Cond.code y bytes mL r ∈ Tg) (h1 : Cond.methodLink own index y ∈ Tg) (h2 : Cond.static y ∈ Tg) (h4 : Cond.initialized own ∈ Tg) : GoodIn Tg (wsS own index y (.code y bytes mL r :: Tg)) := by
  have g : ∀ w ∈ Tg, w ∈ Tg ∧ ((w.onTables && w.keeps) = true ∨ ∃ ty, w = .arrayClass ty) := fun w hw => ⟨hw, good_of_word (List.all_eq_true.mp tg_good _ hw)⟩
  intro w hw
  unfold wsS at hw
  rcases List.mem_append.mp hw with hw | hw
  · simp only [List.mem_cons, List.not_mem_nil, or_false] at hw
    rcases hw with rfl | rfl | rfl
    · exact g _ h1
    · exact g _ h2
    · exact g _ h4
  · exact tg_in hc w hw
theorem g_callS (h : Cx X G F nL cc own ret) {y : MethodName} {bytes : ByteArray} {mL np mc ms index : Nat} {r2 : Option FieldType} {rm : Room} {post : Option Value → Nat → (Nat → va_E) → Prop} {As : List Value} {st0 : List Value} (hM : Met (xl X) y (.code y bytes mL r2 :: Tg) rm (va_Pc As (fB G F n cf)) (fQ G F post) mc ms (fA F))
    (hst : st0 = As.reverse ++ st) (hc : Cond.code y bytes mL r2 ∈ Tg) (hl : Cond.methodLink own index y ∈ Tg) (hsta : Cond.static y ∈ Tg) (hin : Cond.initialized own ∈ Tg) (hrc : rm.cells = mc) (hrs : rm.slots = ms) (hd : y.cls = own ∧ y.cls ≠ "java/lang/invoke/MethodHandle" ∧ y.cls ≠ "java/lang/invoke/VarHandle" ∧ (parseMethodDescriptor y.desc).map (fun d => d.parameters.length) = some np) (hn : As.length = np) (hR : rm.frames + 1 ≤ (xR X).frames ∧ 8 + (mL + 11) + rm.locals ≤ (xR X).locals) (hW : (st.map fun v => v.category).sum ≤ 8) (hf : cells + mc ≤ (xR X).cells ∧ slots + ms ≤ (xR X).slots) (d : decode cc pc = .ok (.invokestatic index, 3))
    (kk : ∀ r n2 cf2, post r n2 cf2 → Vg X Q G F nL n2 cf2 (cells + mc) (slots + ms) (pc + 3) loc (r.toList ++ st)) : Vg X Q G F nL n cf cells slots pc loc st0 := by
  subst hst
  intro H locs ls a1 a2 a3 a4
  exact g_run h.2.2.2.2.2.2.2.2.1 (va_runS (As := As) (rest := st) ⟨h.1, h.2.1, h.2.2.1, h.2.2.2.1, h.2.2.2.2.1⟩ hM (cwS np h.2.2.2.2.1 (tg_S hc hl hsta hin) rfl hrc hrs hd hR) ⟨fB_blind, fun U hU hW2 => ⟨rfl, fB_at h a1 a2 a3 U hU hW2⟩⟩ rfl hn a4.1 rfl (lv_room hW) d hf) a3 a4 kk
theorem g_callSN (h : Cx X G F nL cc own ret) {y : MethodName} {bytes : ByteArray} {mL np mc ms index : Nat} {r2 : Option FieldType} {rm : Room} {post : Option Value → Nat → (Nat → va_E) → Prop} {C host : String} {As : List Value} {st0 : List Value} (hM : Met (xl X) y (.code y bytes mL r2 :: Tg) rm (va_Pc As (fB G F n cf)) (fQ G F post) mc ms (fA F))
    (hst : st0 = As.reverse ++ st) (hc : Cond.code y bytes mL r2 ∈ Tg) (hl : Cond.methodLinkNest own index y host ∈ Tn) (hsta : Cond.static y ∈ Tg) (hin : Cond.initialized C ∈ Tg) (hrc : rm.cells = mc) (hrs : rm.slots = ms) (hd : y.cls = C ∧ y.cls ≠ "java/lang/invoke/MethodHandle" ∧ y.cls ≠ "java/lang/invoke/VarHandle" ∧ (parseMethodDescriptor y.desc).map (fun d => d.parameters.length) = some np) (hn : As.length = np) (hR : rm.frames + 1 ≤ (xR X).frames ∧ 8 + (mL + 11) + rm.locals ≤ (xR X).locals) (hW : (st.map fun v => v.category).sum ≤ 8) (hf : cells + mc ≤ (xR X).cells ∧ slots + ms ≤ (xR X).slots) (d : decode cc pc = .ok (.invokestatic index, 3))
    (kk : ∀ r n2 cf2, post r n2 cf2 → Vg X Q G F nL n2 cf2 (cells + mc) (slots + ms) (pc + 3) loc (r.toList ++ st)) : Vg X Q G F nL n cf cells slots pc loc st0 := by
  subst hst
  intro H locs ls a1 a2 a3 a4
  have hts := h.2.2.2.2.1
  exact g_run h.2.2.2.2.2.2.2.2.1 (va_runSN (As := As) (rest := st) ⟨h.1, h.2.1, h.2.2.1, h.2.2.2.1, hts⟩ hM ⟨va_cnB np hts (tg_in hc) rfl hrc hrs (h.2.2.2.2.2.2.2.1.1 _ hl) (by rw [hd.1]; exact hts _ hin) hd.2 hR, hts _ hsta, trivial⟩ ⟨fB_blind, fun U hU hW2 => ⟨rfl, fB_at h a1 a2 a3 U hU hW2⟩⟩ rfl hn a4.1 rfl (lv_room hW) d hf) a3 a4 kk
theorem g_callI (h : Cx X G F nL cc own ret) {y : MethodName} {bytes : ByteArray} {mL np mc ms index k : Nat} {rm : Room} {post : Option Value → Nat → (Nat → va_E) → Prop} {C : String} {As : List Value} {st0 : List Value} (hM : Met (xl X) y (.code y bytes mL none :: Tg) rm (va_Pc (.ref (F + k) :: As) (fB G F n cf)) (fQ G F post) mc ms (fA F))
    (hst : st0 = As.reverse ++ .ref (F + k) :: st) (hc : Cond.code y bytes mL none ∈ Tg) (hl : Cond.methodLink own index y ∈ Tg) (hi : Cond.instanceMethod y ∈ Tg) (hin : Cond.initialized C ∈ Tg) (hy : y.name = "<init>") (hrc : rm.cells = mc) (hrs : rm.slots = ms) (hd : y.cls = C ∧ y.cls ≠ "java/lang/invoke/MethodHandle" ∧ y.cls ≠ "java/lang/invoke/VarHandle" ∧ (parseMethodDescriptor y.desc).map (fun d => d.parameters.length) = some np) (hn : As.length = np) (hR : rm.frames + 1 ≤ (xR X).frames ∧ 8 + (mL + 11) + rm.locals ≤ (xR X).locals) (hW : (st.map fun v => v.category).sum ≤ 8) (hf : cells + mc ≤ (xR X).cells ∧ slots + ms ≤ (xR X).slots) (d : decode cc pc = .ok (.invokespecial index, 3))
    (kk : ∀ r n2 cf2, post r n2 cf2 → Vg X Q G F nL n2 cf2 (cells + mc) (slots + ms) (pc + 3) loc (r.toList ++ st)) : Vg X Q G F nL n cf cells slots pc loc st0 := by
  subst hst
  intro H locs ls a1 a2 a3 a4
  have hts := h.2.2.2.2.1
  exact g_run h.2.2.2.2.2.2.2.2.1 (va_runI (As := As) (rest := st) ⟨h.1, h.2.1, h.2.2.1, h.2.2.2.1, hts⟩ hM (cwI np hts (tg_in hc) rfl hrc hrs (by rw [hd.1]; exact hts _ hin) (hts _ hl) (hts _ hi) hy hd.2 hR) ⟨fB_blind, fun U hU hW2 => ⟨rfl, fB_at h a1 a2 a3 U hU hW2⟩⟩ rfl hn a4.1 rfl (lv_room hW) d hf) a3 a4 kk
theorem g_callIN (h : Cx X G F nL cc own ret) {y : MethodName} {bytes : ByteArray} {mL np mc ms index k : Nat} {rm : Room} {post : Option Value → Nat → (Nat → va_E) → Prop} {C host : String} {As : List Value} {st0 : List Value} (hM : Met (xl X) y (.code y bytes mL none :: Tg) rm (va_Pc (.ref (F + k) :: As) (fB G F n cf)) (fQ G F post) mc ms (fA F))
    (hst : st0 = As.reverse ++ .ref (F + k) :: st) (hc : Cond.code y bytes mL none ∈ Tg) (hl : Cond.methodLinkNest own index y host ∈ Tn) (hi : Cond.instanceMethod y ∈ Tg) (hin : Cond.initialized C ∈ Tg) (hy : y.name = "<init>") (hrc : rm.cells = mc) (hrs : rm.slots = ms) (hd : y.cls = C ∧ y.cls ≠ "java/lang/invoke/MethodHandle" ∧ y.cls ≠ "java/lang/invoke/VarHandle" ∧ (parseMethodDescriptor y.desc).map (fun d => d.parameters.length) = some np) (hn : As.length = np) (hR : rm.frames + 1 ≤ (xR X).frames ∧ 8 + (mL + 11) + rm.locals ≤ (xR X).locals) (hW : (st.map fun v => v.category).sum ≤ 8) (hf : cells + mc ≤ (xR X).cells ∧ slots + ms ≤ (xR X).slots) (d : decode cc pc = .ok (.invokespecial index, 3))
    (kk : ∀ r n2 cf2, post r n2 cf2 → Vg X Q G F nL n2 cf2 (cells + mc) (slots + ms) (pc + 3) loc (r.toList ++ st)) : Vg X Q G F nL n cf cells slots pc loc st0 := by
  subst hst
  intro H locs ls a1 a2 a3 a4
  have hts := h.2.2.2.2.1
  exact g_run h.2.2.2.2.2.2.2.2.1 (va_runIN (As := As) (rest := st) ⟨h.1, h.2.1, h.2.2.1, h.2.2.2.1, hts⟩ hM ⟨va_cnB np hts (tg_in hc) rfl hrc hrs (h.2.2.2.2.2.2.2.1.1 _ hl) (by rw [hd.1]; exact hts _ hin) hd.2 hR, hy, hts _ hi⟩ ⟨fB_blind, fun U hU hW2 => ⟨rfl, fB_at h a1 a2 a3 U hU hW2⟩⟩ rfl hn a4.1 rfl (lv_room hW) d hf) a3 a4 kk

end FRX
