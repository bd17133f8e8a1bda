/-! ===== constructors ===== -/
def rmC (d mc ms : Nat) : Room := { frames := d, cells := mc, slots := ms, locals := 30 * d }
def iAt (i : Nat) : Int32 := if i = 0 then 10 else if i = 1 then 40 else if i = 2 then 20 else if i = 3 then 600 else if 290 ≤ i ∧ i < 770 ∧ (i - 290) % 3 = 0 then -6 else 0
/-- the numbers of a new object and a new reference -/
def iW : fOm := fun k i => if kd k = 2 then (if i < 4 then sV 2 i else 0) else if kd k = 14 then nI (119 + 58 * i) else if kd k = 22 then (if k = 648 then iAt i else 0) else 0
theorem iW_0 {k q : Nat} (h : kd k = q) (h2 : q ≠ 2 := by decide) (h14 : q ≠ 14 := by decide) (h22 : q ≠ 22 := by decide) : iW k = fun _ => 0 := by
  funext i
  unfold iW
  rw [h, if_neg h2, if_neg h14, if_neg h22]
def fP0 (F : Nat) (G : fG) (k m : Nat) (cf : Nat → va_E) : Option Value → Nat → (Nat → va_E) → Prop := fun r n2 cf2 => r = none ∧ n2 = k + m ∧ ∀ q, q < k + m → cf2 q = if q < k then cf q else cel F G iW q
/-- a constructor's contract: it stands at the last cell and makes m - 1 more -/
def CI (l : Launch) (G : fG) (F : Nat) (y : MethodName) (cc : ByteArray) (nL d k m ms : Nat) (As : List Value) (cf : Nat → va_E) : Prop := Met l y (.code y cc nL none :: Tg) (rmC d (m - 1) ms) (va_Pc (.ref (F + k) :: As) (fB G F (k + 1) cf)) (fQ G F (fP0 F G k m cf)) (m - 1) ms (fA F)
abbrev rfa (f : Nat → Option Nat) (G : fG) (ti N : Nat) : va_E := .inl (G.2.2.1 ti, N, .inr (.inr (.inr (.inr f))))
section FCT
variable {X : xT} {Q : State → Prop} {G : fG} {F nL n : Nat} {cf : Nat → va_E} {cells slots pc : Nat} {loc : List (Nat × Value)} {st : List Value} {cc : ByteArray} {own : String} {ret : Option FieldType} {index : Nat}
theorem g_meti {l : Launch} {y : MethodName} {As : List Value} {post : Option Value → Nat → (Nat → va_E) → Prop} {mc ms : Nat} {rm : Room} (hy : plainName y.cls = true) (ho : y.cls = own) (hi : y.name = "<init>") (hl : (lg_sl As).length ≤ nL)
    (body : ∀ X : xT, xl X = l → xR X = rm → Cx X G F nL cc own ret → (xh X).name = "<init>" → Vg X (MQ (xb X) (fQ G F post) (xa X) (xs X) mc ms (fA F)) G F nL n cf 0 0 0 (lv_args 0 As) []) : Met l y (.code y cc nL ret :: Tg) rm (va_Pc As (fB G F n cf)) (fQ G F post) mc ms (fA F) := by
  refine Met.ofW (cc := cc) (maxL := nL) (ret := ret) hy rfl ?_
  intro p e s m args below meth c s₁ B hml hv
  obtain ⟨rfl, ⟨hsz, hP⟩, hK, hSt, hN⟩ := hv
  have hts := atoms_spec (ws := .code y cc nL ret :: Tg) B.pre
  have key := body (p, l, e, rm, s, m, As.toArray, below, meth, c) rfl rfl ⟨B.exec, B.bytes, hml, by rw [← ho]; exact findClass_of_methodNamed B.named, fun w hw => hts w (List.mem_cons_of_mem _ hw), hK, hSt, hN, by show F ≤ s.heap.size; omega, B.returns, B.notSynchronized⟩ ((name_of_methodNamed B.named B.method).1.trans hi)
  rw [lg_entry_eq]
  exact key s.heap [] _ hsz hP va_S.rf (lv_entry As hl)
theorem g_set {k : Nat} {e : va_E} (kk : ∀ cf2 : Nat → va_E, cf2 k = e → (∀ q, q ≠ k → cf2 q = cf q) → Vg X Q G F nL n cf2 cells slots pc loc st) : Vg X Q G F nL n (va_up cf k e) cells slots pc loc st := kk _ (va_up_self cf k e) (fun _ h => va_up_ne cf e h)
theorem g_rf {k N : Nat} {c : ClassId} {f f2 : Nat → Option Nat} (he : cf k = .inl (c, N, .inr (.inr (.inr (.inr f))))) (hf : ∀ j, j < N → f j = f2 j) (kk : Vg X Q G F nL n (va_up cf k (.inl (c, N, .inr (.inr (.inr (.inr f2)))))) cells slots pc loc st) : Vg X Q G F nL n cf cells slots pc loc st := by
  intro H locs ls a1 a2 a3 a4
  refine kk H locs ls a1 ?_ a3 a4
  rw [← wl_set]
  intro j q hq
  rw [List.getElem?_set] at hq
  by_cases e : k = j
  · subst e
    rw [if_pos rfl] at hq
    by_cases hl : k < (wl F n cf).length
    · rw [if_pos hl] at hq
      cases hq
      rw [wl_len] at hl
      have h0 := a2 k _ (wl_get hl he)
      show H[F + k]? = some (vp_cell _ _)
      rw [vp_cell_q]
      have h1 : H[F + k]? = some (arrV c N (fun j => va_rf (f j))) := h0
      rw [h1]
      congr 1
      unfold arrV
      congr 1
      apply Array.ext
      · simp
      · intro i h1 h2
        simp at h1
        simp [hf i h1]
    · rw [if_neg hl] at hq
      cases hq
  · rw [if_neg e] at hq
    exact a2 j q hq
theorem g_fill (h : Cx X G F 2 cc own ret) {dR mcR msR : Nat} (hX : xR X = rmC dR mcR msR) {N k0 a0 c0 s wI wN ti ci ciE jF p0 pb pe dE mL iF iN iI : Nat} {C : String} {T : u_T} {NE : Nat} {fsE : List Value} {yE : MethodName} {cE : ByteArray} {host ref : String} {CO : String} {TO : u_T} {NO : Nat} (tyE : Nat → FieldType) {fs : List Value}
    (hN : N < 100) (hs : 1 ≤ s) (hk0 : k0 < c0) (ha0 : a0 < c0) (hne : k0 ≠ a0)
    (he0 : cf k0 = .inr (ci, fs)) (hc0 : fCl[ci]? = some (CO, TO, NO)) (hin0 : ∀ w ∈ u_ws CO TO NO, w ∈ Tg) (hjF : jF < NO) (hlF : Cond.fieldLink own iF ref (TO jF).2.1 (TO jF).2.2.1 ∈ Tg) (hsF : (TO jF).1 = ref) (hvF : fs[jF]? = some (.ref (F + a0)))
    (hea : cf a0 = rfa (fun _ => none) G ti N) (hti : (fTy G)[ti]? = some (G.2.2.1 ti, .object C)) (hc : fCl[ciE]? = some (C, T, NE)) (hin : ∀ w ∈ u_ws C T NE, w ∈ Tg) (htyE : ∀ k, k < NE → parseFieldDescriptor (T k).2.2.1 = some (tyE k)) (hcl : Cond.classLink own iN C ∈ Tg) (hinst : Cond.instantiable C NE ∈ Tg) (hini : Cond.initialized C ∈ Tg) (hfs : ∀ j, j < NE → defaultValue (tyE j) = vp_V fsE j)
    (hM : ∀ (i : Nat) (cf : Nat → va_E), i < N → cf (c0 + s * i) = .inr (ciE, fsE) → CI (xl X) G F yE cE mL dE (c0 + s * i) s wI [] cf) (hcode : Cond.code yE cE mL none ∈ Tg) (hlI : Cond.methodLinkNest own iI yE host ∈ Tn) (hiI : Cond.instanceMethod yE ∈ Tg) (hyn : yE.name = "<init>") (hmh : MH yE C 0) (hdE : dE + 1 ≤ dR) (hmL : mL ≤ 11)
    (hcel : ∀ i, i < N → ∃ vs, cel F G iW (c0 + s * i) = .inr (ciE, vs)) (hw : wN = NE + wI)
    (hcells : cells + s * N ≤ mcR) (hslots : slots + wN * N ≤ msR)
    (d0 : decode cc pb = .ok (.aload_n 0, 1)) (d1 : decode cc (pb + 1) = .ok (.getfield iF, 3)) (d2 : decode cc (pb + 1 + 3) = .ok (.iload_n 1, 1)) (d3 : decode cc (pb + 1 + 3 + 1) = .ok (.new iN, 3)) (d4 : decode cc (pb + 1 + 3 + 1 + 3) = .ok (.dup, 1)) (d5 : decode cc (pb + 1 + 3 + 1 + 3 + 1) = .ok (.invokespecial iI, 3)) (d6 : decode cc (pb + 1 + 3 + 1 + 3 + 1 + 3) = .ok (.aastore, 1)) (d7 : decode cc (pb + 1 + 3 + 1 + 3 + 1 + 3 + 1) = .ok (.iinc 1 1, 3)) {off : Int} (d8 : decode cc (pb + 1 + 3 + 1 + 3 + 1 + 3 + 1 + 3) = .ok (.goto off, 3)) (hoff : ((pb + 1 + 3 + 1 + 3 + 1 + 3 + 1 + 3 : Nat) : Int) + off = (p0 : Int))
    (hcmp : ∀ (i n : Nat) (cf : Nat → va_E) (cells slots : Nat), i ≤ N → (i = N → Vg X Q G F 2 n cf cells slots pe [(1, .int (nI i)), (0, .ref (F + k0))] []) → (i < N → Vg X Q G F 2 n cf cells slots pb [(1, .int (nI i)), (0, .ref (F + k0))] []) → Vg X Q G F 2 n cf cells slots p0 [(1, .int (nI i)), (0, .ref (F + k0))] [])
    (kx : ∀ cf2 : Nat → va_E, cf2 a0 = rfa (fun j => if j < N then some (F + (c0 + s * j)) else none) G ti N → (∀ q, q < c0 + s * N → q ≠ a0 → cf2 q = if q < c0 then cf q else cel F G iW q) → Vg X Q G F 2 (c0 + s * N) cf2 (cells + s * N) (slots + wN * N) pe [(1, .int (nI N)), (0, .ref (F + k0))] []) : Vg X Q G F 2 c0 cf cells slots p0 [(1, .int (nI 0)), (0, .ref (F + k0))] [] := by
  have key : ∀ m i : Nat, ∀ cf1 : Nat → va_E, m + i = N → cf1 a0 = rfa (fun j => if j < i then some (F + (c0 + s * j)) else none) G ti N → (∀ q, q < c0 + s * i → q ≠ a0 → cf1 q = if q < c0 then cf q else cel F G iW q) → Vg X Q G F 2 (c0 + s * i) cf1 (cells + s * i) (slots + wN * i) p0 [(1, .int (nI i)), (0, .ref (F + k0))] [] := by
    intro m
    induction m with
    | zero =>
      intro i cf1 hi e1 o1
      have hi : i = N := by omega
      subst hi
      exact hcmp i _ _ _ _ (Nat.le_refl i) (fun _ => kx cf1 e1 o1) (fun a => absurd a (Nat.lt_irrefl i))
    | succ m ih =>
      intro i cf1 hi e1 o1
      have hiN : i < N := by omega
      have m1 : s * i + s ≤ s * N := by have := Nat.mul_le_mul_left s (show i + 1 ≤ N by omega); rw [Nat.mul_succ] at this; exact this
      have m2 : wN * i + wN ≤ wN * N := by have := Nat.mul_le_mul_left wN (show i + 1 ≤ N by omega); rw [Nat.mul_succ] at this; exact this
      have nx1 : s * (i + 1) = s * i + s := Nat.mul_succ s i
      have nx2 : wN * (i + 1) = wN * i + wN := Nat.mul_succ wN i
      refine hcmp i _ _ _ _ (by omega) (fun a => absurd a (by omega)) (fun _ => ?_)
      have ok0 : cf1 k0 = .inr (ci, fs) := by rw [o1 k0 (by omega) hne, if_pos hk0]; exact he0
      refine g_aload_n h 1 d0 rfl ?_
      refine g_get h (by omega) ok0 hc0 hin0 jF hjF hlF hsF hvF d1 ?_
      refine g_iload_n h 0 d2 rfl ?_
      refine g_new h hc hin tyE htyE hcl hinst hini hfs (by rw [hX]; show _ + 1 ≤ mcR; omega) (by rw [hX]; show _ + NE ≤ msR; omega) d3 (g_set fun cf3 e3 o3 => ?_)
      refine g_dup h d4 rfl ?_
      refine g_callIN (np := 0) (As := []) (st := [.ref (F + (c0 + s * i)), .int (nI i), .ref (F + a0)]) h (hM i cf3 hiN e3) rfl hcode hlI hiI hini hyn rfl rfl hmh rfl ⟨by rw [hX]; exact hdE, by rw [hX]; show 8 + (mL + 11) + 30 * dE ≤ 30 * dR; omega⟩ (Nat.le_of_ble_eq_true rfl) ⟨by rw [hX]; show _ + 1 + (s - 1) ≤ mcR; omega, by rw [hX]; show _ + NE + wI ≤ msR; omega⟩ d5 (fun r n2 cf4 hp => ?_)
      obtain ⟨rfl, rfl, o4⟩ := hp
      have ea : cf4 a0 = rfa (fun j => if j < i then some (F + (c0 + s * j)) else none) G ti N := by
        rw [o4 a0 (by omega), if_pos (by omega), o3 a0 (by omega)]
        exact e1
      obtain ⟨vs, hvs⟩ := hcel i hiN
      have en : cf4 (c0 + s * i) = .inr (ciE, vs) := by
        rw [o4 _ (by omega), if_neg (by omega)]
        exact hvs
      refine g_aast h hti hc (by omega) ea (by omega) en (vp_n hiN (by omega)) d6 (g_set fun cf5 e5 o5 => ?_)
      refine g_iinc (v := nI (i + 1)) h 0 d7 rfl (nI_1 i) (by decide) rfl ?_
      refine g_goto (tgt := p0) h d8 hoff ?_
      have fin := ih (i + 1) cf5 (by omega) ?_ ?_
      · rw [nx1, nx2] at fin
        refine g_widen (c2 := cells + (s * i + s)) (s2 := slots + (wN * i + wN)) (by omega) (by omega) ?_
        rw [Nat.add_assoc]
        exact fin
      · have ef : va_up (fun j => if j < i then some (F + (c0 + s * j)) else none) (nI i).toNatClampNeg (some (F + (c0 + s * i))) = fun j => if j < i + 1 then some (F + (c0 + s * j)) else none := by
          funext j
          rw [nI_clamp (by omega)]
          unfold va_up
          by_cases z : j = i
          · subst z
            rw [if_pos rfl, if_pos (by omega)]
          · rw [if_neg z]
            show (if j < i then some (F + (c0 + s * j)) else none) = _
            by_cases z2 : j < i
            · rw [if_pos z2, if_pos (by omega)]
            · rw [if_neg z2, if_neg (by omega)]
        rw [e5, ef]
      · intro q hq hqa
        rw [nx1] at hq
        rw [o5 q hqa, o4 q (by omega)]
        by_cases z : q < c0 + s * i
        · rw [if_pos z, o3 q (by omega)]
          exact o1 q z hqa
        · rw [if_neg z, if_neg (by omega)]
  have k0' := key N 0 cf (Nat.add_zero N) hea (fun q hq _ => by rw [if_pos (by rw [Nat.mul_zero] at hq; exact hq)])
  rw [Nat.mul_zero, Nat.mul_zero] at k0'
  exact k0'
end FCT
