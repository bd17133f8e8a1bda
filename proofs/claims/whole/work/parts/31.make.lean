/-! ===== making objects and arrays ===== -/
section FNEW
variable {X : xT} {Q : State → Prop} {G : fG} {F nL n : Nat} {cf : Nat → va_E} {cells slots pc : Nat} {loc : List (Nat × Value)} {st : List Value} {cc : ByteArray} {own : String} {ret : Option FieldType} {index : Nat}
theorem wl_eq {cf2 : Nat → va_E} (h : ∀ q, q < n → cf q = cf2 q) : wl F n cf = wl F n cf2 := by
  unfold wl
  refine List.map_congr_left fun k hk => ?_
  rw [h k (List.mem_range.mp hk)]
theorem g_cf {cf2 : Nat → va_E} (h : ∀ q, q < n → cf q = cf2 q) (kk : Vg X Q G F nL n cf2 cells slots pc loc st) : Vg X Q G F nL n cf cells slots pc loc st := fun H locs ls a1 a2 a3 a4 => kk H locs ls a1 (by rw [← wl_eq h]; exact a2) a3 a4
theorem fB_cf {cf2 : Nat → va_E} {U : State} (h : ∀ q, q < n → cf q = cf2 q) (b : fB G F n cf U) : fB G F n cf2 U := ⟨⟨b.1.1, by rw [← wl_eq h]; exact b.1.2⟩, b.2⟩
theorem g_new (h : Cx X G F nL cc own ret) {ci : Nat} {C : String} {T : u_T} {N : Nat} {fs : List Value} (hc : fCl[ci]? = some (C, T, N)) (hin : ∀ w ∈ u_ws C T N, w ∈ Tg) (ty0 : Nat → FieldType) (hty : ∀ k, k < N → parseFieldDescriptor (T k).2.2.1 = some (ty0 k)) (hcl : Cond.classLink own index C ∈ Tg) (hinst : Cond.instantiable C N ∈ Tg) (hini : Cond.initialized C ∈ Tg) (hfs : ∀ j, j < N → defaultValue (ty0 j) = vp_V fs j) (hcells : cells + 1 ≤ (xR X).cells) (hslots : slots + N ≤ (xR X).slots) (d : decode cc pc = .ok (.new index, 3))
    (kk : Vg X Q G F nL (n + 1) (va_up cf n (.inr (ci, fs))) (cells + 1) (slots + N) (pc + 3) loc (.ref (F + n) :: st)) : Vg X Q G F nL n cf cells slots pc loc st := by
  intro H locs ls a1 a2 a3 a4
  have hts := h.2.2.2.2.1
  have hKn := h.2.2.2.2.2.1.1 ci _ hc
  refine W.newcK h.1 h.2.1 h.2.2.2.1 (hts _ hcl) (hts _ hinst) (hts _ hini) rfl d hcells hslots hKn.2.1 rfl fun H1 kC hkC e1 z1 o1 => ?_
  have hk : ∀ (k : Nat) (x : Nat × va_E), (wl F n cf)[k]? = some x → H1[x.1]? = H[x.1]? := fun k x hx => o1 x.1 ((a2 k x hx).lt)
  have key := kk H1 locs ls (by omega) ?_ ⟨Nat.le_trans a3.1 (by omega), fun x h1 h2 => (o1 x (Nat.lt_of_lt_of_le h1 a3.1)).trans (a3.2.1 x h1 h2), a3.2.2⟩ a4
  · rw [a1]
    exact key
  · rw [← wl_push]
    refine (a2.kept hk).app (fun k x hx => ?_)
    have hz : k < 1 := (List.getElem?_eq_some_iff.mp hx).1
    rw [show k = 0 by omega] at hx
    cases hx
    rw [← a1]
    exact ⟨_, hc, (u_born ty0 hts hin hKn hkC e1 hty).to hfs⟩
theorem g_newa (h : Cx X G F nL cc own ret) {atype : ArrayType} {ti : Nat} {ty : FieldType} {v : Int32} {N : Nat} (hty : newarray.typeOf atype = ty) (hti : (fTy G)[ti]? = some (G.2.2.1 ti, ty)) (hprim : ∀ C, ty ≠ .object C) (hdef : defaultValue ty = .int 0) (harr : Cond.arrayClass ty ∈ Tg) (hn : ¬ v < 0) (hN : v.toNatClampNeg = N) (hbytes : N * componentBytes ty ≤ 536870912) (hcells : cells + 1 ≤ (xR X).cells) (hslots : slots + N ≤ (xR X).slots) (d : decode cc pc = .ok (.newarray atype, 2))
    (kk : Vg X Q G F nL (n + 1) (va_up cf n (.inl (G.2.2.1 ti, N, .inl (fun _ => 0)))) (cells + 1) (slots + N) (pc + 2) loc (.ref (F + n) :: st)) : Vg X Q G F nL n cf cells slots pc loc (.int v :: st) := by
  subst hty
  intro H locs ls a1 a2 a3 a4
  have hts := h.2.2.2.2.1
  refine va_newaK h.1 h.2.1 (hts _ harr) rfl d rfl hn hN hbytes hcells hslots rfl fun H1 cA e1 z1 o1 hAr hNm => ?_
  have hcA : cA = G.2.2.1 ti := by
    have := (h.2.2.2.2.2.1.2 ti _ hti).2
    have h2 : (xs X).vm.findClass ("[" ++ (newarray.typeOf atype).toString) = some (G.2.2.1 ti) := by
      cases atype <;> exact this
    exact Option.some.inj (hNm.symm.trans h2)
  subst hcA
  have hk : ∀ (k : Nat) (x : Nat × va_E), (wl F n cf)[k]? = some x → H1[x.1]? = H[x.1]? := fun k x hx => o1 x.1 ((a2 k x hx).lt)
  have key := kk H1 locs ls (by omega) ?_ ⟨Nat.le_trans a3.1 (by omega), fun x h1 h2 => (o1 x (Nat.lt_of_lt_of_le h1 a3.1)).trans (a3.2.1 x h1 h2), a3.2.2⟩ a4
  · rw [a1]
    exact key
  · rw [← wl_push]
    refine (a2.kept hk).app (fun k x hx => ?_)
    have hz : k < 1 := (List.getElem?_eq_some_iff.mp hx).1
    rw [show k = 0 by omega] at hx
    cases hx
    rw [← a1]
    show H1[H.size]? = some (vp_cell _ _)
    rw [vp_cell_i, e1, hdef]
theorem g_newq (h : Cx X G F nL cc own ret) {ti : Nat} {C : String} {v : Int32} {N : Nat} (hti : (fTy G)[ti]? = some (G.2.2.1 ti, .object C)) (hAO : va_AO C (xs X)) (hcl : Cond.classLink own index C ∈ Tg) (hn : ¬ v < 0) (hN : v.toNatClampNeg = N) (hbytes : N * 4 ≤ 536870912) (hcells : cells + 1 ≤ (xR X).cells) (hslots : slots + N ≤ (xR X).slots) (d : decode cc pc = .ok (.anewarray index, 3))
    (kk : Vg X Q G F nL (n + 1) (va_up cf n (.inl (G.2.2.1 ti, N, .inr (.inr (.inr (.inr (fun _ => none))))))) (cells + 1) (slots + N) (pc + 3) loc (.ref (F + n) :: st)) : Vg X Q G F nL n cf cells slots pc loc (.int v :: st) := by
  subst hN
  intro H locs ls a1 a2 a3 a4
  have hts := h.2.2.2.2.1
  refine W.anew h.1 h.2.1 h.2.2.2.1 (hts _ hcl) (va_AO.use hAO) rfl d rfl hn hbytes hcells hslots fun cA kA comp f1 f2 f3 f4 => ?_
  have hcA : cA = G.2.2.1 ti := by
    obtain ⟨kA2, comp2, -, -, -, h2⟩ := (h.2.2.2.2.2.1.2 ti _ hti).2
    exact Option.some.inj (f1.symm.trans h2)
  subst hcA
  generalize hH1 : H.push ({ cls := G.2.2.1 ti, slots := Array.replicate v.toNatClampNeg .null, vm := .none } : Cell) = H1
  have z1 : H1.size = H.size + 1 := by rw [← hH1, Array.size_push]
  have e1 : H1[H.size]? = some (arrV (G.2.2.1 ti) v.toNatClampNeg (fun _ => .null)) := by rw [← hH1, Array.getElem?_push_size, ← arrV_new]
  have o1 : ∀ q : Nat, q < H.size → H1[q]? = H[q]? := fun q hq => by rw [← hH1, Array.getElem?_push, if_neg (Nat.ne_of_lt hq)]
  have hk : ∀ (k : Nat) (x : Nat × va_E), (wl F n cf)[k]? = some x → H1[x.1]? = H[x.1]? := fun k x hx => o1 x.1 ((a2 k x hx).lt)
  have key := kk H1 locs ls (by omega) ?_ ⟨Nat.le_trans a3.1 (by omega), fun x h1 h2 => (o1 x (Nat.lt_of_lt_of_le h1 a3.1)).trans (a3.2.1 x h1 h2), a3.2.2⟩ a4
  · rw [a1]
    exact key
  · rw [← wl_push]
    refine (a2.kept hk).app (fun k x hx => ?_)
    have hz : k < 1 := (List.getElem?_eq_some_iff.mp hx).1
    rw [show k = 0 by omega] at hx
    cases hx
    rw [← a1]
    show H1[H.size]? = some (vp_cell _ _)
    rw [vp_cell_q]
    exact e1
end FNEW
