/-! ===== the law's entry: what the tables and the start give ===== -/
theorem law_st {args : Array Value} {s : State} {nm : String} {f : Nat → Int32} (harr : (Cond.arrayOf (.static "FibreLoops" nm "[I") .int).before args s = true) (hlen : (Cond.eq (.length (.static "FibreLoops" nm "[I")) (.int 4)).before args s = true)
    (h0 : (Cond.eq (.elem (.static "FibreLoops" nm "[I") (.int 0)) (.int (f 0))).before args s = true) (h1 : (Cond.eq (.elem (.static "FibreLoops" nm "[I") (.int 1)) (.int (f 1))).before args s = true) (h2 : (Cond.eq (.elem (.static "FibreLoops" nm "[I") (.int 2)) (.int (f 2))).before args s = true) (h3 : (Cond.eq (.elem (.static "FibreLoops" nm "[I") (.int 3)) (.int (f 3))).before args s = true)
    (hl : (Cond.laysStatic "FibreLoops" nm "[I").before args s = true) (hini : (Cond.initialized "FibreLoops").before args s = true) : ∃ t : Nat, va_Z "FibreLoops" nm "[I" (.ref t) (fA s.heap.size) s s.heap ∧ va_T .int t 4 (fun i => .int (f i)) (fA s.heap.size) s s.heap := by
  have hA : ∀ a : Nat, a < s.heap.size → ¬ fA s.heap.size a := fun a h1 h2 => absurd h2 (Nat.not_le.mpr h1)
  have hel : ∀ j : Nat, j < 4 → (Term.elem (.static "FibreLoops" nm "[I") (.int (Int32.ofNat j))).eval args s none [] s = some (.int (f j)) := by
    intro j hj
    match j, hj with
    | 0, _ => exact va_eqt h0
    | 1, _ => exact va_eqt h1
    | 2, _ => exact va_eqt h2
    | 3, _ => exact va_eqt h3
    | n + 4, hj => exact absurd hj (by omega)
  obtain ⟨t, ht, hT⟩ := va_Tof (N := 4) (f := fun i => .int (f i)) (A := fA s.heap.size) (by decide) harr (va_eqt hlen) hel hA
  exact ⟨t, va_Zref hl hini ht hA, hT⟩
theorem law_kn {ws : List Cond} {s : State} {args : Array Value} {C : String} {T : u_T} {N : Nat} (hts : ∀ w ∈ ws, w.before args s = true) (hin : ∀ w ∈ u_ws C T N, w ∈ ws) (hi : Cond.instantiable C N ∈ ws) : ∃ x : ClassId × (Nat → Nat), u_Kn s C T N x.1 x.2 := by
  obtain ⟨a, b, h⟩ := u_known hts hin (hts _ hi)
  exact ⟨(a, b), h⟩
theorem law_ap {s : State} {args : Array Value} {ty : FieldType} (hp : ∀ C, ty ≠ .object C) (h : (Cond.arrayClass ty).before args s = true) : ∃ cA : ClassId, ArrOfT s cA ty ∧ va_RA s cA ty := by
  obtain ⟨c, k, comp, h1, h2, h3⟩ := Cond.arrayClass_spec h
  refine ⟨c, fun n z => ⟨fun k h => (by cases h), k, h2, comp, h3⟩, ?_⟩
  cases ty with
  | object C => exact absurd rfl (hp C)
  | _ => exact h1
theorem law_ao {s : State} {args : Array Value} {C : String} (h : (Cond.arrayOver (.object C)).before args s = true) : ∃ cA : ClassId, ArrOfT s cA (.object C) ∧ va_RA s cA (.object C) := by
  obtain ⟨comp, c, k, h1, h2, h3, h4, h5⟩ := Cond.arrayOver_spec h
  exact ⟨c, fun n z => ⟨fun k h => (by cases h), k, h3, comp, h4⟩, k, comp, h3, h4, h1, h5⟩
theorem law_world {s : State} {args : Array Value} (hw : ∀ w ∈ lw_tbl, w.before args s = true) (hn : (Jvm.Cond.and given_1 narrow_1).before args s = true) : ∃ G : fG, va_K (fD G) fCl (fTy G) s ∧ fSt G s.heap.size s s.heap ∧ fNw s := by
  have hts : ∀ w ∈ Tg, w.before args s = true := fun w h => hw w (List.mem_filter.mp h).1
  have hs := flat_of_before _ hn
  obtain ⟨x0, k0⟩ := law_kn hts iw_0 tw_66
  obtain ⟨x1, k1⟩ := law_kn hts iw_1 tw_174
  obtain ⟨x2, k2⟩ := law_kn hts iw_2 tw_110
  obtain ⟨x3, k3⟩ := law_kn hts iw_3 tw_208
  obtain ⟨x4, k4⟩ := law_kn hts iw_4 tw_191
  obtain ⟨x5, k5⟩ := law_kn hts iw_5 tw_43
  obtain ⟨x6, k6⟩ := law_kn hts iw_6 tw_21
  obtain ⟨x7, k7⟩ := law_kn hts iw_7 tw_13
  obtain ⟨x8, k8⟩ := law_kn hts iw_8 tw_703
  obtain ⟨a0, b0⟩ := law_ap (ty := .int) (fun C e => by cases e) (hts _ tw_65)
  obtain ⟨a1, b1⟩ := law_ap (ty := .boolean) (fun C e => by cases e) (hts _ tw_205)
  obtain ⟨a2, b2⟩ := law_ap (ty := .char) (fun C e => by cases e) (hts _ tw_206)
  obtain ⟨a3, b3⟩ := law_ao (hw _ tw_27)
  obtain ⟨a4, b4⟩ := law_ao (hw _ tw_29)
  obtain ⟨a5, b5⟩ := law_ao (hw _ tw_31)
  obtain ⟨a6, b6⟩ := law_ao (hw _ tw_180)
  obtain ⟨t0, z0, y0⟩ := law_st (s := s) (nm := "LOWEST_SETTING") (f := sV 0) (hs _ (by decide +kernel)) (hs _ (by decide +kernel)) (hs _ (by decide +kernel)) (hs _ (by decide +kernel)) (hs _ (by decide +kernel)) (hs _ (by decide +kernel)) (hw _ tw_287) (hts _ tw_1)
  obtain ⟨t1, z1, y1⟩ := law_st (s := s) (nm := "HIGHEST_SETTING") (f := sV 1) (hs _ (by decide +kernel)) (hs _ (by decide +kernel)) (hs _ (by decide +kernel)) (hs _ (by decide +kernel)) (hs _ (by decide +kernel)) (hs _ (by decide +kernel)) (hw _ tw_289) (hts _ tw_1)
  obtain ⟨t2, z2, y2⟩ := law_st (s := s) (nm := "FIRST_SETTING") (f := sV 2) (hs _ (by decide +kernel)) (hs _ (by decide +kernel)) (hs _ (by decide +kernel)) (hs _ (by decide +kernel)) (hs _ (by decide +kernel)) (hs _ (by decide +kernel)) (hw _ tw_33) (hts _ tw_1)
  let cs : List (ClassId × (Nat → Nat)) := [x0, x1, x2, x3, x4, x5, x6, x7, x8]
  let as : List ClassId := [a0, a1, a2, a3, a4, a5, a6]
  let ss : List Nat := [t0, t1, t2]
  refine ⟨(fun c => ((cs[c]?).getD x0).1, fun c => ((cs[c]?).getD x0).2, fun k => (as[k]?).getD a0, fun j => (ss[j]?).getD 0), ⟨fun c q hq => ?_, fun k q hq => ?_⟩, fun j hj => ?_, fun w hm => ?_, ?_⟩
  · match c, hq with
    | 0, hq => cases hq; exact k0
    | 1, hq => cases hq; exact k1
    | 2, hq => cases hq; exact k2
    | 3, hq => cases hq; exact k3
    | 4, hq => cases hq; exact k4
    | 5, hq => cases hq; exact k5
    | 6, hq => cases hq; exact k6
    | 7, hq => cases hq; exact k7
    | 8, hq => cases hq; exact k8
    | n + 9, hq => exact absurd (List.getElem?_eq_some_iff.mp hq).1 (by show ¬ (n + 9 < 9); omega)
  · match k, hq with
    | 0, hq => cases hq; exact b0
    | 1, hq => cases hq; exact b1
    | 2, hq => cases hq; exact b2
    | 3, hq => cases hq; exact b3
    | 4, hq => cases hq; exact b4
    | 5, hq => cases hq; exact b5
    | 6, hq => cases hq; exact b6
    | n + 7, hq => exact absurd (List.getElem?_eq_some_iff.mp hq).1 (by show ¬ (n + 7 < 7); omega)
  · match j, hj with
    | 0, _ => exact ⟨z0, y0⟩
    | 1, _ => exact ⟨z1, y1⟩
    | 2, _ => exact ⟨z2, y2⟩
    | n + 3, hj => exact absurd hj (by omega)
  · have hb : isNs w = true := (List.mem_filter.mp hm).2
    refine va_Nw.of ?_ (hw w (List.mem_filter.mp hm).1)
    cases w <;> first | rfl | (exact absurd hb (by simp [isNs]))
  · exact ⟨va_AO.of (hw _ tw_27), va_AO.of (hw _ tw_29), va_AO.of (hw _ tw_31), va_AO.of (hw _ tw_180)⟩
