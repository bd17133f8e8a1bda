/-! ===== a whole state ===== -/
section FNU
variable {X : xT} {Q : State → Prop} {G : fG} {F nL n : Nat} {cf : Nat → va_E} {cells slots pc : Nat} {loc : List (Nat × Value)} {st : List Value} {cc : ByteArray} {own : String} {ret : Option FieldType}
theorem g_aload_nN (h : Cx X G F nL cc own ret) {k : Fin 4} (i : Nat) (d : decode cc pc = .ok (.aload_n k, 1)) (hl : loc[i]? = some ((k : Nat), .null)) (kk : Vg X Q G F nL n cf cells slots (pc + 1) loc (.null :: st)) : Vg X Q G F nL n cf cells slots pc loc st := fun H locs ls a1 a2 a3 a4 => lv_aload_nN h.1 h.2.1 d rfl (lv_at a4 i hl) (kk H locs ls a1 a2 a3 a4)
theorem g_aloadN (h : Cx X G F nL cc own ret) {k : Nat} (i : Nat) (d : decode cc pc = .ok (.aload k, 2)) (hl : loc[i]? = some (k, .null)) (kk : Vg X Q G F nL n cf cells slots (pc + 2) loc (.null :: st)) : Vg X Q G F nL n cf cells slots pc loc st := fun H locs ls a1 a2 a3 a4 => lv_aloadN h.1 h.2.1 d (lv_at a4 i hl) (kk H locs ls a1 a2 a3 a4)
theorem g_astore_nN (h : Cx X G F nL cc own ret) {k : Fin 4} {loc2 : List (Nat × Value)} (d : decode cc pc = .ok (.astore_n k, 1)) (hn : (k : Nat) < nL) (hl : ((k : Nat), Value.null) :: loc.filter (fun q => !(q.1 == (k : Nat)) && !(q.1 + 1 == (k : Nat) && q.2.category == 2)) = loc2) (kk : Vg X Q G F nL n cf cells slots (pc + 1) loc2 st) : Vg X Q G F nL n cf cells slots pc loc (.null :: st) := fun H locs ls a1 a2 a3 a4 => lv_astore_nN h.1 h.2.1 d rfl a4 hn hl (fun ls2 b => kk H locs ls2 a1 a2 a3 b)
theorem g_astoreN (h : Cx X G F nL cc own ret) {k : Nat} {loc2 : List (Nat × Value)} (d : decode cc pc = .ok (.astore k, 2)) (hn : k < nL) (hl : (k, Value.null) :: loc.filter (fun q => !(q.1 == k) && !(q.1 + 1 == k && q.2.category == 2)) = loc2) (kk : Vg X Q G F nL n cf cells slots (pc + 2) loc2 st) : Vg X Q G F nL n cf cells slots pc loc (.null :: st) := fun H locs ls a1 a2 a3 a4 => lv_astoreN h.1 h.2.1 d a4 hn hl (fun ls2 b => kk H locs ls2 a1 a2 a3 b)
end FNU
/-- what stays -/
def Mod (S : Nat → Prop) (ω ω2 : fOm) : Prop := ∀ q, ¬ S q → ω2 q = ω q
theorem Mod.rf {S : Nat → Prop} {ω : fOm} : Mod S ω ω := fun _ _ => rfl
theorem Mod.tr {S : Nat → Prop} {a b c : fOm} (h1 : Mod S a b) (h2 : Mod S b c) : Mod S a c := fun q hq => (h2 q hq).trans (h1 q hq)
theorem Mod.mo {S S2 : Nat → Prop} {a b : fOm} (h : Mod S a b) (hs : ∀ q, S q → S2 q) : Mod S2 a b := fun q hq => h q (fun z => hq (hs q z))
theorem Mod.wu {S : Nat → Prop} {a b : fOm} {k j : Nat} {v : Int32} (h : Mod S a b) (hk : S k) : Mod S a (wu b k j v) := fun q hq => (wu_ne (fun e => hq (by rw [e]; exact hk))).trans (h q hq)
theorem Mod.wr {S : Nat → Prop} {a b : fOm} {k : Nat} {f : Nat → Int32} (h : Mod S a b) (hk : S k) : Mod S a (wr b k f) := fun q hq => (wr_ne (fun e => hq (by rw [e]; exact hk))).trans (h q hq)
def f_ringOf (ω : fOm) (b : Nat) (l : Int32) : Option Nat := if l < 0 then none else if ω b 5 ≤ l then none else some (b + 5 + 5 * l.toNatClampNeg)
def f_ringWith (ω : fOm) (b : Nat) (l p : Int32) : Option Nat := match f_ringOf ω b l with
  | none => none
  | some k => if f_has ω k p = 0 then none else some k
def f_devOf (ω : fOm) (b : Nat) (l : Int32) : Option Nat := if l < 0 then none else if ω b 6 ≤ l then none else some (b + 30 + 2 * l.toNatClampNeg)
def f_joinOf (ω : fOm) (b : Nat) (l : Int32) : Option Nat := if l < 0 then none else if ω b 7 ≤ l then none else some (b + 54 + l.toNatClampNeg)
def f_chSetR (ω : fOm) (b : Nat) (s v : Int32) : Int32 := if f_btw s 0 3 = 0 then (-2) else if f_btw v (sV 0 s.toNatClampNeg) (sV 1 s.toNatClampNeg) = 0 then (-2) else ω (b + 1) s.toNatClampNeg
def f_chSetW (ω : fOm) (b : Nat) (s v : Int32) : fOm := if f_btw s 0 3 = 0 then ω else if f_btw v (sV 0 s.toNatClampNeg) (sV 1 s.toNatClampNeg) = 0 then ω else wu ω (b + 1) s.toNatClampNeg v
def f_addRingW (ω : fOm) (b : Nat) (pl : Int32) : fOm := if f_btw pl 4 32 = 0 then ω else if ω b 5 < 5 then
    wu (f_begin ω (b + 5 + 5 * (ω b 5).toNatClampNeg) pl) b 5 (f_begin ω (b + 5 + 5 * (ω b 5).toNatClampNeg) pl b 5 + 1) else ω
def f_addRingR (ω : fOm) (b : Nat) (pl : Int32) : Int32 := if f_btw pl 4 32 = 0 then (-2) else if ω b 5 < 5 then f_addRingW ω b pl b 5 - 1 else (-4)
def f_addDevW (ω : fOm) (b : Nat) (l p ki on tw : Int32) : fOm := match f_ringWith ω b l p with
  | none => ω
  | some _ => if f_fits ki on tw = 0 then ω else if ω b 6 < 12 then
      wu (f_dbegin ω (b + 30 + 2 * (ω b 6).toNatClampNeg) l p ki on tw) b 6 (f_dbegin ω (b + 30 + 2 * (ω b 6).toNatClampNeg) l p ki on tw b 6 + 1) else ω
def f_addDevR (ω : fOm) (b : Nat) (l p ki on tw : Int32) : Int32 := match f_ringWith ω b l p with
  | none => (-1)
  | some _ => if f_fits ki on tw = 0 then (-2) else if ω b 6 < 12 then f_addDevW ω b l p ki on tw b 6 - 1 else (-4)
def f_addJoinW (ω : fOm) (b : Nat) (l p l2 p2 : Int32) : fOm := match f_ringWith ω b l p with
  | none => ω
  | some _ => match f_ringWith ω b l2 p2 with
    | none => ω
    | some _ => if l = l2 then ω else if ω b 7 < 4 then
        wu (f_jbegin ω (b + 54 + (ω b 7).toNatClampNeg) l p l2 p2) b 7 (f_jbegin ω (b + 54 + (ω b 7).toNatClampNeg) l p l2 p2 b 7 + 1) else ω
def f_addJoinR (ω : fOm) (b : Nat) (l p l2 p2 : Int32) : Int32 := match f_ringWith ω b l p with
  | none => (-1)
  | some _ => match f_ringWith ω b l2 p2 with
    | none => (-1)
    | some _ => if l = l2 then (-2) else if ω b 7 < 4 then f_addJoinW ω b l p l2 p2 b 7 - 1 else (-4)
def f_turnJR (ω : fOm) (b : Nat) (j m : Int32) : Int32 := match f_joinOf ω b j with
  | none => (-1)
  | some k => if f_btw m 0 2 = 0 then (-2) else ω k 4
def f_turnJW (ω : fOm) (b : Nat) (j m : Int32) : fOm := match f_joinOf ω b j with
  | none => ω
  | some k => if f_btw m 0 2 = 0 then ω else wu ω k 4 m
def f_feedW (ω : fOm) (b : Nat) (d v : Int32) : fOm := match f_devOf ω b d with
  | none => ω
  | some k => if ω k 0 = 2 then (if f_isV v = 0 then ω else if ω k 8 < 12 then f_keepLast ω k v else ω) else ω
def f_feedR (ω : fOm) (b : Nat) (d v : Int32) : Int32 := match f_devOf ω b d with
  | none => (-1)
  | some k => if ω k 0 = 2 then (if f_isV v = 0 then (-2) else if ω k 8 < 12 then f_keepLast ω k v k 8 else (-4)) else (-1)
def f_lightW (ω : fOm) (b : Nat) (l p v : Int32) : fOm := match f_ringWith ω b l p with
  | none => ω
  | some k => if f_isV v = 0 then ω else if f_strengthAt ω k p ≤ 0 then f_putIn ω k p v (f_setting ω b 3) (ω b 4) else ω
def f_lightR (ω : fOm) (b : Nat) (l p v : Int32) : Int32 := match f_ringWith ω b l p with
  | none => (-1)
  | some k => if f_isV v = 0 then (-2) else if f_strengthAt ω k p ≤ 0 then f_flashes (f_putIn ω k p v (f_setting ω b 3) (ω b 4)) k else (-5)
def f_cpR (b b2 : Nat) (ω : fOm) : Nat → fOm
  | 0 => ω
  | j + 1 => f_rcopy (f_cpR b b2 ω j) (b + 5 + 5 * j) (b2 + 5 + 5 * j)
def f_cpD (b b2 : Nat) (ω : fOm) : Nat → fOm
  | 0 => ω
  | j + 1 => f_dcopy (f_cpD b b2 ω j) (b + 30 + 2 * j) (b2 + 30 + 2 * j)
def f_cpJ (b b2 : Nat) (ω : fOm) : Nat → fOm
  | 0 => ω
  | j + 1 => f_jcopy (f_cpJ b b2 ω j) (b + 54 + j) (b2 + 54 + j)
def f_cp0 (ω : fOm) (b b2 : Nat) : fOm :=
  let w0 := f_cp ω (b2 + 1) (b + 1) 2
  let w1 := wu w0 b 4 (w0 b2 4)
  let w2 := wu w1 b 5 (w1 b2 5)
  let w3 := wu w2 b 6 (w2 b2 6)
  wu w3 b 7 (w3 b2 7)
def f_scopy (ω : fOm) (b b2 : Nat) : fOm :=
  let w4 := f_cp0 ω b b2
  let w5 := f_cpR b b2 w4 (w4 b 5).toNatClampNeg
  let w6 := f_cpD b b2 w5 (w5 b 6).toNatClampNeg
  f_cpJ b b2 w6 (w6 b 7).toNatClampNeg
def f_p1 (b : Nat) (ω : fOm) : Nat → fOm
  | 0 => ω
  | j + 1 => f_moveOn (f_p1 b ω j) (b + 5 + 5 * j) (f_setting (f_p1 b ω j) b 0)
def f_p2 (b : Nat) (ω : fOm) : Nat → fOm
  | 0 => ω
  | j + 1 => match f_ringOf (f_p2 b ω j) b (f_p2 b ω j (b + 30 + 2 * j) 1) with
    | none => f_p2 b ω j
    | some r => f_actOn (f_p2 b ω j) (b + 30 + 2 * j) r b
def f_p3 (b : Nat) (ω : fOm) : Nat → fOm
  | 0 => ω
  | j + 1 => match f_ringOf (f_p3 b ω j) b (f_p3 b ω j (b + 54 + j) 0) with
    | none => f_p3 b ω j
    | some r => match f_ringOf (f_p3 b ω j) b (f_p3 b ω j (b + 54 + j) 2) with
      | none => f_p3 b ω j
      | some r2 => f_joinAct (f_p3 b ω j) (b + 54 + j) r r2
def f_p4 (b : Nat) (ω : fOm) : Nat → fOm
  | 0 => ω
  | j + 1 => f_rest (f_p4 b ω j) (b + 30 + 2 * j) (f_setting (f_p4 b ω j) b 2)
def f_passOne (ω : fOm) (b : Nat) : fOm :=
  let w1 := f_p1 b ω (ω b 5).toNatClampNeg
  let w2 := f_p2 b w1 (w1 b 6).toNatClampNeg
  let w3 := f_p3 b w2 (w2 b 7).toNatClampNeg
  let w4 := f_p4 b w3 (w3 b 6).toNatClampNeg
  wu w4 b 4 (w4 b 4 + 1)
def f_passN (b : Nat) (ω : fOm) : Nat → fOm
  | 0 => ω
  | j + 1 => f_passOne (f_passN b ω j) b
def f_passTR (ω : fOm) (b : Nat) (t : Int32) : Int32 := if f_btw t 1 200 = 0 then (-2) else f_passN b ω t.toNatClampNeg b 4
def f_passTW (ω : fOm) (b : Nat) (t : Int32) : fOm := if f_btw t 1 200 = 0 then ω else f_passN b ω t.toNatClampNeg
def f_flA (ω : fOm) (b : Nat) : Nat → Int32
  | 0 => 0
  | j + 1 => f_flA ω b j + f_flashes ω (b + 5 + 5 * j)
def f_flAll (ω : fOm) (b : Nat) : Int32 := f_flA ω b (ω b 5).toNatClampNeg
def f_taA (ω : fOm) (b : Nat) (t : Int32) : Nat → Int32
  | 0 => 0
  | j + 1 => f_taA ω b t j + f_tally ω (b + 5 + 5 * j) t
def f_taAll (ω : fOm) (b : Nat) (t : Int32) : Int32 := f_taA ω b t (ω b 5).toNatClampNeg
def f_tlF (b : Nat) (lb : Int32) (ω : fOm) : Nat → Nat → Option Nat
  | 0, _ => none
  | n + 1, j => if f_taAll (f_passN b ω (j + 1)) b 1 ≤ lb then f_tlF b lb ω n (j + 1) else some (j + 1)
theorem tlF_s {b : Nat} {lb : Int32} {ω : fOm} {n j : Nat} : f_tlF b lb ω (n + 1) j = if f_taAll (f_passOne (f_passN b ω j) b) b 1 ≤ lb then f_tlF b lb ω n (j + 1) else some (j + 1) := rfl
def f_tlR (ω : fOm) (b : Nat) (lim : Int32) : Int32 := match f_tlF b (f_taAll ω b 1) ω lim.toNatClampNeg 0 with
  | none => (-6)
  | some i => nI i
def f_tlW (ω : fOm) (b : Nat) (lim : Int32) : fOm := match f_tlF b (f_taAll ω b 1) ω lim.toNatClampNeg 0 with
  | none => f_passN b ω lim.toNatClampNeg
  | some i => f_passN b ω i
theorem turn_M {ω : fOm} {k qq : Nat} {u : Int32} : Mod (fun q => q = k) ω (f_turn ω k qq u) := by
  intro q hq
  have hq : ¬ (q = k) := hq
  unfold f_turn
  repeat' (first | rfl | split | rw [wu_ne (by omega)] | rw [wr_ne (by omega)] | dsimp only)
theorem fade_M {ω : fOm} {k : Nat} {p b_ : Int32} : Mod (fun q => k < q ∧ q < k + 5) ω (f_fade ω k p b_) := by
  intro q hq
  have hq : ¬ (k < q ∧ q < k + 5) := hq
  unfold f_fade
  repeat' (first | rfl | split | rw [wu_ne (by omega)] | rw [wr_ne (by omega)] | dsimp only)
theorem strengthen_M {ω : fOm} {k : Nat} {p b_ : Int32} : Mod (fun q => k < q ∧ q < k + 5) ω (f_strengthen ω k p b_) := by
  intro q hq
  have hq : ¬ (k < q ∧ q < k + 5) := hq
  unfold f_strengthen
  repeat' (first | rfl | split | rw [wu_ne (by omega)] | rw [wr_ne (by omega)] | dsimp only)
theorem changeValue_M {ω : fOm} {k : Nat} {p b_ : Int32} : Mod (fun q => k < q ∧ q < k + 5) ω (f_changeValue ω k p b_) := by
  intro q hq
  have hq : ¬ (k < q ∧ q < k + 5) := hq
  unfold f_changeValue
  repeat' (first | rfl | split | rw [wu_ne (by omega)] | rw [wr_ne (by omega)] | dsimp only)
theorem putIn_M {ω : fOm} {k : Nat} {p v s t : Int32} : Mod (fun q => k < q ∧ q < k + 5) ω (f_putIn ω k p v s t) := by
  intro q hq
  have hq : ¬ (k < q ∧ q < k + 5) := hq
  unfold f_putIn
  repeat' (first | rfl | split | rw [wu_ne (by omega)] | rw [wr_ne (by omega)] | dsimp only)
theorem drop_M {ω : fOm} {k : Nat} {p : Int32} : Mod (fun q => k < q ∧ q < k + 5) ω (f_drop ω k p) := by
  intro q hq
  have hq : ¬ (k < q ∧ q < k + 5) := hq
  unfold f_drop
  repeat' (first | rfl | split | rw [wu_ne (by omega)] | rw [wr_ne (by omega)] | dsimp only)
theorem tell_M {ω : fOm} {k k2 : Nat} : Mod (fun q => (k < q ∧ q < k + 5) ∨ (k2 < q ∧ q < k2 + 5)) ω (f_tell ω k k2) := by
  intro q hq
  have hq : ¬ ((k < q ∧ q < k + 5) ∨ (k2 < q ∧ q < k2 + 5)) := hq
  unfold f_tell
  repeat' (first | rfl | split | rw [wu_ne (by omega)] | rw [wr_ne (by omega)] | dsimp only)
theorem exch_M {ω : fOm} {k k2 : Nat} {p p2 : Int32} : Mod (fun q => (k < q ∧ q < k + 5) ∨ (k2 < q ∧ q < k2 + 5)) ω (f_exch ω k p k2 p2) := by
  intro q hq
  have hq : ¬ ((k < q ∧ q < k + 5) ∨ (k2 < q ∧ q < k2 + 5)) := hq
  unfold f_exch
  repeat' (first | rfl | split | rw [wu_ne (by omega)] | rw [wr_ne (by omega)] | dsimp only)
theorem remF_M {ω : fOm} {k : Nat} : Mod (fun q => q = k ∨ q = k + 1) ω (f_remF ω k) := by
  intro q hq
  have hq : ¬ (q = k ∨ q = k + 1) := hq
  unfold f_remF
  repeat' (first | rfl | split | rw [wu_ne (by omega)] | rw [wr_ne (by omega)] | dsimp only)
theorem rest_M {ω : fOm} {k : Nat} {r : Int32} : Mod (fun q => q = k) ω (f_rest ω k r) := by
  intro q hq
  have hq : ¬ (q = k) := hq
  unfold f_rest
  repeat' (first | rfl | split | rw [wu_ne (by omega)] | rw [wr_ne (by omega)] | dsimp only)
theorem dbegin_M {ω : fOm} {k : Nat} {a b c d e : Int32} : Mod (fun q => q = k) ω (f_dbegin ω k a b c d e) := by
  intro q hq
  have hq : ¬ (q = k) := hq
  unfold f_dbegin
  repeat' (first | rfl | split | rw [wu_ne (by omega)] | rw [wr_ne (by omega)] | dsimp only)
theorem jbegin_M {ω : fOm} {k : Nat} {a b c d : Int32} : Mod (fun q => q = k) ω (f_jbegin ω k a b c d) := by
  intro q hq
  have hq : ¬ (q = k) := hq
  unfold f_jbegin
  repeat' (first | rfl | split | rw [wu_ne (by omega)] | rw [wr_ne (by omega)] | dsimp only)
theorem cp_M {ω : fOm} {k0 k1 qq : Nat} : Mod (fun q => q = k1) ω (f_cp ω k0 k1 qq) := by
  intro q hq
  have hq : ¬ (q = k1) := hq
  unfold f_cp
  repeat' (first | rfl | split | rw [wu_ne (by omega)] | rw [wr_ne (by omega)] | dsimp only)
theorem keepLast_M {ω : fOm} {k : Nat} {v : Int32} : Mod (fun q => q = k ∨ q = k + 1) ω (f_keepLast ω k v) := by
  intro q hq
  have hq : ¬ (q = k ∨ q = k + 1) := hq
  unfold f_keepLast
  repeat' (first | rfl | split | rw [wu_ne (by omega)] | rw [wr_ne (by omega)] | dsimp only)
theorem z32_M {ω : fOm} {k n : Nat} : Mod (fun q => q = k) ω (f_z32 ω k n) := by
  induction n with
  | zero => exact Mod.rf
  | succ n ih => exact ih.wu rfl
theorem begin_M {ω : fOm} {k : Nat} {pl : Int32} : Mod (fun q => k ≤ q ∧ q < k + 5) ω (f_begin ω k pl) := by
  unfold f_begin
  exact Mod.tr (Mod.tr (Mod.wu Mod.rf ⟨Nat.le_refl k, by omega⟩) (Mod.mo z32_M (fun q h => by have h : q = k + 2 := h; show k ≤ q ∧ _; omega))) (Mod.mo z32_M (fun q h => by have h : q = k + 4 := h; show k ≤ q ∧ _; omega))
theorem rcopy_M {ω : fOm} {k k2 : Nat} : Mod (fun q => k ≤ q ∧ q < k + 5) ω (f_rcopy ω k k2) := by
  unfold f_rcopy
  refine Mod.tr (Mod.tr (Mod.tr (Mod.tr (Mod.wu Mod.rf ⟨Nat.le_refl k, by omega⟩) (Mod.mo cp_M ?_)) (Mod.mo cp_M ?_)) (Mod.mo cp_M ?_)) (Mod.mo cp_M ?_)
  · intro q h; have h : q = k + 1 := h; show _ ∧ _; omega
  · intro q h; have h : q = k + 2 := h; show _ ∧ _; omega
  · intro q h; have h : q = k + 3 := h; show _ ∧ _; omega
  · intro q h; have h : q = k + 4 := h; show _ ∧ _; omega
theorem dcopy_M {ω : fOm} {k k2 : Nat} : Mod (fun q => q = k ∨ q = k + 1) ω (f_dcopy ω k k2) := by
  unfold f_dcopy
  dsimp only
  exact Mod.tr (Mod.wu (Mod.wu (Mod.wu (Mod.wu (Mod.wu (Mod.wu (Mod.wu (Mod.wu Mod.rf (Or.inl rfl)) (Or.inl rfl)) (Or.inl rfl)) (Or.inl rfl)) (Or.inl rfl)) (Or.inl rfl)) (Or.inl rfl)) (Or.inl rfl)) (Mod.mo cp_M (fun q h => Or.inr h))
theorem jcopy_M {ω : fOm} {k k2 : Nat} : Mod (fun q => q = k) ω (f_jcopy ω k k2) := by
  unfold f_jcopy
  dsimp only
  exact Mod.wu (Mod.wu (Mod.wu (Mod.wu (Mod.wu (Mod.wu Mod.rf rfl) rfl) rfl) rfl) rfl) rfl
theorem mv0_M {ω : fOm} {k : Nat} : Mod (fun q => k < q ∧ q < k + 5) ω (f_mv0 ω k) := by
  unfold f_mv0
  refine Mod.tr (Mod.tr (Mod.mo turn_M ?_) (Mod.mo turn_M ?_)) (Mod.mo turn_M ?_)
  · intro q h; have h : q = k + 1 := h; show _ ∧ _; omega
  · intro q h; have h : q = k + 2 := h; show _ ∧ _; omega
  · intro q h; have h : q = k + 3 := h; show _ ∧ _; omega
theorem mvL_M {ω : fOm} {k n : Nat} {loss : Int32} : Mod (fun q => k < q ∧ q < k + 5) ω (f_mvL k loss ω n) := by
  induction n with
  | zero => exact Mod.rf
  | succ n ih =>
    unfold f_mvL
    split
    · exact ih
    · exact ih.tr fade_M
theorem moveOn_M {ω : fOm} {k : Nat} {loss : Int32} : Mod (fun q => k < q ∧ q < k + 5) ω (f_moveOn ω k loss) := mv0_M.tr mvL_M
abbrev dS (k r : Nat) : Nat → Prop := fun q => (q = k ∨ q = k + 1) ∨ (r < q ∧ q < r + 5)
theorem amp_M {ω : fOm} {k r : Nat} : Mod (dS k r) ω (f_amp ω k r) := by
  unfold f_amp
  split
  · exact Mod.rf
  · dsimp only
    split
    · exact Mod.rf
    · exact Mod.wu (Mod.wu (Mod.mo strengthen_M (fun q h => Or.inr h)) (Or.inl (Or.inl rfl))) (Or.inl (Or.inl rfl))
theorem note_M {ω : fOm} {k r : Nat} {rd : Int32} : Mod (dS k r) ω (f_note ω k r rd) := by
  unfold f_note
  split
  · exact Mod.rf
  · exact Mod.wu (Mod.tr (Mod.wu (Mod.tr (Mod.wu Mod.rf (Or.inl (Or.inl rfl))) (Mod.mo turn_M (fun q h => Or.inl (Or.inr h)))) (Or.inl (Or.inr rfl))) (Mod.mo fade_M (fun q h => Or.inr h))) (Or.inl (Or.inl rfl))
theorem putNext_M {ω : fOm} {k r : Nat} {fr t : Int32} : Mod (dS k r) ω (f_putNext ω k r fr t) := by
  unfold f_putNext
  split
  · exact Mod.rf
  · split
    · exact Mod.rf
    · exact Mod.wu (Mod.tr (Mod.mo putIn_M (fun q h => Or.inr h)) (Mod.mo remF_M (fun q h => Or.inl h))) (Or.inl (Or.inl rfl))
theorem change_M {ω : fOm} {k r : Nat} : Mod (dS k r) ω (f_change ω k r) := by
  unfold f_change
  split
  · exact Mod.rf
  · exact Mod.wu (Mod.mo changeValue_M (fun q h => Or.inr h)) (Or.inl (Or.inl rfl))
theorem dropV_M {ω : fOm} {k r : Nat} : Mod (dS k r) ω (f_dropV ω k r) := by
  unfold f_dropV
  split
  · exact Mod.rf
  · exact Mod.wu (Mod.mo drop_M (fun q h => Or.inr h)) (Or.inl (Or.inl rfl))
theorem actOn_M {ω : fOm} {k r b : Nat} : Mod (dS k r) ω (f_actOn ω k r b) := by
  unfold f_actOn
  repeat' split
  · exact amp_M
  · exact note_M
  · exact putNext_M
  · exact change_M
  · exact dropV_M
  · exact Mod.rf
abbrev jS (k r r2 : Nat) : Nat → Prop := fun q => q = k ∨ ((r < q ∧ q < r + 5) ∨ (r2 < q ∧ q < r2 + 5))
theorem jgo_M {ω : fOm} {k r r2 : Nat} {nl fl : Int32} : Mod (jS k r r2) ω (f_jgo ω k r r2 nl fl) := by
  unfold f_jgo
  have h1 : Mod (jS k r r2) ω (f_exch ω r (ω k 1) r2 (ω k 3)) := exch_M.mo (fun q h => Or.inr h)
  have h2 : Mod (jS k r r2) ω (if nl = 0 then f_exch ω r (ω k 1) r2 (ω k 3) else wu (f_tell (f_exch ω r (ω k 1) r2 (ω k 3)) r r2) k 5 (f_tell (f_exch ω r (ω k 1) r2 (ω k 3)) r r2 k 5 + 1)) := by
    split
    · exact h1
    · exact Mod.wu (Mod.tr h1 (Mod.mo tell_M (fun q h => Or.inr h))) (Or.inl rfl)
  dsimp only
  split
  · exact h2
  · exact Mod.wu (Mod.tr h2 (Mod.mo tell_M (fun q h => Or.inr (Or.symm h)))) (Or.inl rfl)
theorem joinAct_M {ω : fOm} {k r r2 : Nat} : Mod (jS k r r2) ω (f_joinAct ω k r r2) := by
  unfold f_joinAct
  repeat' split
  · exact Mod.rf
  · exact jgo_M
  · exact Mod.rf
  · exact jgo_M
theorem ringOf_rg {ω : fOm} {b k : Nat} {l : Int32} (h5 : ω b 5 ≤ 5) (e : f_ringOf ω b l = some k) : ∃ i, i < 5 ∧ l = nI i ∧ k = b + 5 + 5 * i ∧ i < (ω b 5).toNatClampNeg := by
  unfold f_ringOf at e
  split at e
  · cases e
  · rename_i h1
    split at e
    · cases e
    · rename_i h2
      obtain ⟨i, hi, rfl⟩ := nI_of h1
      rw [nI_clamp hi] at e
      have h0 : 0 ≤ ω b 5 := Int32.le_of_lt (Int32.lt_of_le_of_lt (nI_pos' hi) (Int32.not_le.mp h2))
      have h3 := Int32.lt_iff_toInt_lt.mp (Int32.not_le.mp h2)
      have h4 := Int32.le_iff_toInt_le.mp h5
      rw [nI_toInt hi] at h3
      have t5 : (5 : Int32).toInt = 5 := rfl
      rw [t5] at h4
      have h6 := tn_toInt h0
      exact ⟨i, by omega, rfl, (Option.some.inj e).symm, by omega⟩
theorem devOf_rg {ω : fOm} {b k : Nat} {l : Int32} (h5 : ω b 6 ≤ 12) (e : f_devOf ω b l = some k) : ∃ i, i < 12 ∧ l = nI i ∧ k = b + 30 + 2 * i ∧ i < (ω b 6).toNatClampNeg := by
  unfold f_devOf at e
  split at e
  · cases e
  · rename_i h1
    split at e
    · cases e
    · rename_i h2
      obtain ⟨i, hi, rfl⟩ := nI_of h1
      rw [nI_clamp hi] at e
      have h0 : 0 ≤ ω b 6 := Int32.le_of_lt (Int32.lt_of_le_of_lt (nI_pos' hi) (Int32.not_le.mp h2))
      have h3 := Int32.lt_iff_toInt_lt.mp (Int32.not_le.mp h2)
      have h4 := Int32.le_iff_toInt_le.mp h5
      rw [nI_toInt hi] at h3
      have t5 : (12 : Int32).toInt = 12 := rfl
      rw [t5] at h4
      have h6 := tn_toInt h0
      exact ⟨i, by omega, rfl, (Option.some.inj e).symm, by omega⟩
theorem joinOf_rg {ω : fOm} {b k : Nat} {l : Int32} (h5 : ω b 7 ≤ 4) (e : f_joinOf ω b l = some k) : ∃ i, i < 4 ∧ l = nI i ∧ k = b + 54 + i ∧ i < (ω b 7).toNatClampNeg := by
  unfold f_joinOf at e
  split at e
  · cases e
  · rename_i h1
    split at e
    · cases e
    · rename_i h2
      obtain ⟨i, hi, rfl⟩ := nI_of h1
      rw [nI_clamp hi] at e
      have h0 : 0 ≤ ω b 7 := Int32.le_of_lt (Int32.lt_of_le_of_lt (nI_pos' hi) (Int32.not_le.mp h2))
      have h3 := Int32.lt_iff_toInt_lt.mp (Int32.not_le.mp h2)
      have h4 := Int32.le_iff_toInt_le.mp h5
      rw [nI_toInt hi] at h3
      have t5 : (4 : Int32).toInt = 4 := rfl
      rw [t5] at h4
      have h6 := tn_toInt h0
      exact ⟨i, by omega, rfl, (Option.some.inj e).symm, by omega⟩
theorem ringOf_kd {ω : fOm} {b k : Nat} {l : Int32} (hI : Inv ω) (hb : kd b = 1) (e : f_ringOf ω b l = some k) : kd k = 6 := by
  obtain ⟨i, hi, -, rfl, -⟩ := ringOf_rg (Inv_1_5 hI hb).2 e
  exact ks_r hb hi
theorem devOf_kd {ω : fOm} {b k : Nat} {l : Int32} (hI : Inv ω) (hb : kd b = 1) (e : f_devOf ω b l = some k) : kd k = 9 := by
  obtain ⟨i, hi, -, rfl, -⟩ := devOf_rg (Inv_1_6 hI hb).2 e
  exact ks_d hb hi
theorem joinOf_kd {ω : fOm} {b k : Nat} {l : Int32} (hI : Inv ω) (hb : kd b = 1) (e : f_joinOf ω b l = some k) : kd k = 11 := by
  obtain ⟨i, hi, -, rfl, -⟩ := joinOf_rg (Inv_1_7 hI hb).2 e
  exact ks_j hb hi
theorem ringWith_of {ω : fOm} {b k : Nat} {l p : Int32} (e : f_ringWith ω b l p = some k) : f_ringOf ω b l = some k ∧ ¬ f_has ω k p = 0 := by
  unfold f_ringWith at e
  split at e
  · cases e
  · rename_i k2 h2
    split at e
    · cases e
    · rename_i h3
      cases e
      exact ⟨h2, h3⟩
theorem ringWith_kd {ω : fOm} {b k : Nat} {l p : Int32} (hI : Inv ω) (hb : kd b = 1) (e : f_ringWith ω b l p = some k) : kd k = 6 := ringOf_kd hI hb (ringWith_of e).1
abbrev bS (b : Nat) : Nat → Prop := fun q => b + 5 ≤ q ∧ q < b + 58
theorem p1_M {ω : fOm} {b n : Nat} (hn : n ≤ 5) : Mod (bS b) ω (f_p1 b ω n) := by
  induction n with
  | zero => exact Mod.rf
  | succ n ih => exact (ih (by omega)).tr (moveOn_M.mo (fun q h => by have h : b + 5 + 5 * n < q ∧ q < b + 5 + 5 * n + 5 := h; show b + 5 ≤ q ∧ q < b + 58; omega))
theorem p1_b {ω : fOm} {b n : Nat} (hn : n ≤ 5) : f_p1 b ω n b = ω b := p1_M hn b (by show ¬ (b + 5 ≤ b ∧ _); omega)
theorem p2_M {ω : fOm} {b n : Nat} (hn : n ≤ 12) (h5 : ω b 5 ≤ 5) : Mod (bS b) ω (f_p2 b ω n) := by
  induction n with
  | zero => exact Mod.rf
  | succ n ih =>
    have ih := ih (by omega)
    have e5 : f_p2 b ω n b = ω b := ih b (by show ¬ (b + 5 ≤ b ∧ _); omega)
    unfold f_p2
    split
    · exact ih
    · rename_i r hr
      obtain ⟨i, hi, -, rfl, -⟩ := ringOf_rg (by rw [e5]; exact h5) hr
      exact ih.tr (actOn_M.mo (fun q h => by have h : (q = b + 30 + 2 * n ∨ q = b + 30 + 2 * n + 1) ∨ (b + 5 + 5 * i < q ∧ q < b + 5 + 5 * i + 5) := h; show b + 5 ≤ q ∧ q < b + 58; omega))
theorem p2_b {ω : fOm} {b n : Nat} (hn : n ≤ 12) (h5 : ω b 5 ≤ 5) : f_p2 b ω n b = ω b := p2_M hn h5 b (by show ¬ (b + 5 ≤ b ∧ _); omega)
theorem p3_M {ω : fOm} {b n : Nat} (hn : n ≤ 4) (h5 : ω b 5 ≤ 5) : Mod (bS b) ω (f_p3 b ω n) := by
  induction n with
  | zero => exact Mod.rf
  | succ n ih =>
    have ih := ih (by omega)
    have e5 : f_p3 b ω n b = ω b := ih b (by show ¬ (b + 5 ≤ b ∧ _); omega)
    unfold f_p3
    split
    · exact ih
    · rename_i r hr
      split
      · exact ih
      · rename_i r2 hr2
        obtain ⟨i, hi, -, rfl, -⟩ := ringOf_rg (by rw [e5]; exact h5) hr
        obtain ⟨i2, hi2, -, rfl, -⟩ := ringOf_rg (by rw [e5]; exact h5) hr2
        exact ih.tr (joinAct_M.mo (fun q h => by have h : q = b + 54 + n ∨ ((b + 5 + 5 * i < q ∧ q < b + 5 + 5 * i + 5) ∨ (b + 5 + 5 * i2 < q ∧ q < b + 5 + 5 * i2 + 5)) := h; show b + 5 ≤ q ∧ q < b + 58; omega))
theorem p3_b {ω : fOm} {b n : Nat} (hn : n ≤ 4) (h5 : ω b 5 ≤ 5) : f_p3 b ω n b = ω b := p3_M hn h5 b (by show ¬ (b + 5 ≤ b ∧ _); omega)
theorem p4_M {ω : fOm} {b n : Nat} (hn : n ≤ 12) : Mod (bS b) ω (f_p4 b ω n) := by
  induction n with
  | zero => exact Mod.rf
  | succ n ih => exact (ih (by omega)).tr (rest_M.mo (fun q h => by have h : q = b + 30 + 2 * n := h; show b + 5 ≤ q ∧ q < b + 58; omega))
theorem p4_b {ω : fOm} {b n : Nat} (hn : n ≤ 12) : f_p4 b ω n b = ω b := p4_M hn b (by show ¬ (b + 5 ≤ b ∧ _); omega)
theorem cpR_M {ω : fOm} {b b2 n : Nat} (hn : n ≤ 5) : Mod (bS b) ω (f_cpR b b2 ω n) := by
  induction n with
  | zero => exact Mod.rf
  | succ n ih => exact (ih (by omega)).tr (rcopy_M.mo (fun q h => by have h : b + 5 + 5 * n ≤ q ∧ q < b + 5 + 5 * n + 5 := h; show b + 5 ≤ q ∧ q < b + 58; omega))
theorem cpD_M {ω : fOm} {b b2 n : Nat} (hn : n ≤ 12) : Mod (bS b) ω (f_cpD b b2 ω n) := by
  induction n with
  | zero => exact Mod.rf
  | succ n ih => exact (ih (by omega)).tr (dcopy_M.mo (fun q h => by have h : q = b + 30 + 2 * n ∨ q = b + 30 + 2 * n + 1 := h; show b + 5 ≤ q ∧ q < b + 58; omega))
theorem cpJ_M {ω : fOm} {b b2 n : Nat} (hn : n ≤ 4) : Mod (bS b) ω (f_cpJ b b2 ω n) := by
  induction n with
  | zero => exact Mod.rf
  | succ n ih => exact (ih (by omega)).tr (jcopy_M.mo (fun q h => by have h : q = b + 54 + n := h; show b + 5 ≤ q ∧ q < b + 58; omega))
theorem cpR_b {ω : fOm} {b b2 n : Nat} (hn : n ≤ 5) : f_cpR b b2 ω n b = ω b := cpR_M hn b (by show ¬ (b + 5 ≤ b ∧ _); omega)
theorem cpD_b {ω : fOm} {b b2 n : Nat} (hn : n ≤ 12) : f_cpD b b2 ω n b = ω b := cpD_M hn b (by show ¬ (b + 5 ≤ b ∧ _); omega)
theorem cpJ_b {ω : fOm} {b b2 n : Nat} (hn : n ≤ 4) : f_cpJ b b2 ω n b = ω b := cpJ_M hn b (by show ¬ (b + 5 ≤ b ∧ _); omega)
theorem tn_le {x M : Int32} {n : Nat} (h : 0 ≤ x ∧ x ≤ M) (hM : M.toInt = n) : x.toNatClampNeg ≤ n := by
  have h1 := Int32.le_iff_toInt_le.mp h.2
  rw [hM, tn_toInt h.1] at h1
  omega
theorem inc_le {x M : Int32} (h0 : 0 ≤ x) (h1 : x < M) : 0 ≤ x + 1 ∧ x + 1 ≤ M := by
  obtain ⟨n, hn, rfl⟩ := nI_of (Int32.not_lt.mpr h0)
  have hm : M.toInt < 2 ^ 31 := M.toInt_lt
  have h2 := Int32.lt_iff_toInt_lt.mp h1
  rw [nI_toInt hn] at h2
  rw [nI_1]
  refine ⟨nI_pos' (by omega), ?_⟩
  rw [Int32.le_iff_toInt_le, nI_toInt (by omega)]
  omega
theorem btw_pl {p lo hi : Int32} (h : ¬ f_btw p lo hi = 0) : lo ≤ p ∧ p ≤ hi := by
  unfold f_btw at h
  by_cases h1 : p < lo
  · simp [h1] at h
  · by_cases h2 : hi < p
    · simp [h1, h2] at h
    · exact ⟨Int32.not_lt.mp h1, Int32.not_lt.mp h2⟩
theorem btw32 {p : Int32} (h : ¬ f_btw p 4 32 = 0) : 0 ≤ p ∧ p ≤ 32 := ⟨Int32.le_trans (by decide) (btw_pl h).1, (btw_pl h).2⟩
theorem btwT {p : Int32} (h : ¬ f_btw p 1 200 = 0) : 0 ≤ p := Int32.le_trans (by decide) (btw_pl h).1
theorem lq_ge {x : Int32} {j : Nat} (h : 0 ≤ x ∧ x ≤ 300) (c : x < nI (j + 1)) (hj : j ≤ x.toNatClampNeg) : j = x.toNatClampNeg := by
  have h2 := tn_le (n := 300) h rfl
  have h1 := Int32.lt_iff_toInt_lt.mp c
  rw [nI_toInt (by omega), tn_toInt h.1] at h1
  omega
theorem lq_lt {x : Int32} {j : Nat} (h : 0 ≤ x ∧ x ≤ 300) (c : ¬ x < nI (j + 1)) (hj : j ≤ x.toNatClampNeg) : j < x.toNatClampNeg := by
  have h2 := tn_le (n := 300) h rfl
  rcases Nat.lt_or_ge j x.toNatClampNeg with a | a
  · exact a
  · exfalso
    apply c
    rw [Int32.lt_iff_toInt_lt, nI_toInt (by omega), tn_toInt h.1]
    omega
set_option maxHeartbeats 4000000 in
set_option maxRecDepth 100000 in
theorem tX6_ringOf (l0 : Launch) (G : fG) (F : Nat) (ω : fOm) (hI : Inv ω) (b : Nat) (hb : kd b = 1) (l : Int32) : CT l0 G F yX6_ringOf cX6_ringOf 2 (some (.object "FibreLoops$Ring")) 0 [.ref (F + b), .int l] ω (some (vref F (f_ringOf ω b l))) ω := by
  refine ct_met (own := RX6) (by decide +kernel) rfl (Nat.le_of_ble_eq_true rfl) (fun X hXl hX h => ?_)
  subst hXl
  refine g_iload_n h 1 dX6_ringOf_0 rfl ?_
  refine g_if_lt (tgt := 21) h dX6_ringOf_1 (by decide) (fun c1 => ?_) (fun c1 => ?_)
  · refine g_null h dX6_ringOf_21 ?_
    exact e_aret (o := none) h hI dX6_ringOf_22 (by skip; first | rfl | contradiction | (unfold f_ringOf; simp only [c1, ↓reduceIte] <;> rfl) | (unfold f_ringOf; simp [c1]; done)) rfl
  · refine g_iload_n h 1 dX6_ringOf_4 rfl ?_
    refine g_aload_n h 0 dX6_ringOf_5 rfl ?_
    refine q_6_ringCount h hb tw_150 dX6_ringOf_6 (fun v2 hv2 => ?_)
    refine g_icmp_ge (tgt := 21) h dX6_ringOf_9 (by decide) (fun c3 => ?_) (fun c3 => ?_)
    · refine g_null h dX6_ringOf_21 ?_
      exact e_aret (o := none) h hI dX6_ringOf_22 (by subst hv2; first | rfl | contradiction | (unfold f_ringOf; simp only [c1, c3, ↓reduceIte] <;> rfl) | (unfold f_ringOf; simp [c1, c3]; done)) rfl
    · refine g_aload_n h 0 dX6_ringOf_12 rfl ?_
      refine q_6_rings h hb tw_144 dX6_ringOf_13 ?_
      refine g_iload_n h 1 dX6_ringOf_16 rfl ?_
      refine g_ra h hb (by subst hv2; exact vp_lt c1 (Int32.not_le.mp c3) (Inv_1_5 hI hb).2 rfl) dX6_ringOf_17 (fun k4 ek4 hk4 => ?_)
      refine g_goto (tgt := 22) h dX6_ringOf_18 (by decide) ?_
      exact e_aret (o := (some k4)) h hI dX6_ringOf_22 (by subst ek4 hv2; first | rfl | contradiction | (unfold f_ringOf; simp only [c1, c3, ↓reduceIte] <;> rfl) | (unfold f_ringOf; simp [c1, c3]; done)) rfl
set_option maxHeartbeats 4000000 in
set_option maxRecDepth 100000 in
theorem tX6_deviceOf (l0 : Launch) (G : fG) (F : Nat) (ω : fOm) (hI : Inv ω) (b : Nat) (hb : kd b = 1) (l : Int32) : CT l0 G F yX6_deviceOf cX6_deviceOf 2 (some (.object "FibreLoops$Device")) 0 [.ref (F + b), .int l] ω (some (vref F (f_devOf ω b l))) ω := by
  refine ct_met (own := RX6) (by decide +kernel) rfl (Nat.le_of_ble_eq_true rfl) (fun X hXl hX h => ?_)
  subst hXl
  refine g_iload_n h 1 dX6_deviceOf_0 rfl ?_
  refine g_if_lt (tgt := 21) h dX6_deviceOf_1 (by decide) (fun c1 => ?_) (fun c1 => ?_)
  · refine g_null h dX6_deviceOf_21 ?_
    exact e_aret (o := none) h hI dX6_deviceOf_22 (by skip; first | rfl | contradiction | (unfold f_devOf; simp only [c1, ↓reduceIte] <;> rfl) | (unfold f_devOf; simp [c1]; done)) rfl
  · refine g_iload_n h 1 dX6_deviceOf_4 rfl ?_
    refine g_aload_n h 0 dX6_deviceOf_5 rfl ?_
    refine q_6_deviceCount h hb tw_152 dX6_deviceOf_6 (fun v2 hv2 => ?_)
    refine g_icmp_ge (tgt := 21) h dX6_deviceOf_9 (by decide) (fun c3 => ?_) (fun c3 => ?_)
    · refine g_null h dX6_deviceOf_21 ?_
      exact e_aret (o := none) h hI dX6_deviceOf_22 (by subst hv2; first | rfl | contradiction | (unfold f_devOf; simp only [c1, c3, ↓reduceIte] <;> rfl) | (unfold f_devOf; simp [c1, c3]; done)) rfl
    · refine g_aload_n h 0 dX6_deviceOf_12 rfl ?_
      refine q_6_devices h hb tw_145 dX6_deviceOf_13 ?_
      refine g_iload_n h 1 dX6_deviceOf_16 rfl ?_
      refine g_da h hb (by subst hv2; exact vp_lt c1 (Int32.not_le.mp c3) (Inv_1_6 hI hb).2 rfl) dX6_deviceOf_17 (fun k4 ek4 hk4 => ?_)
      refine g_goto (tgt := 22) h dX6_deviceOf_18 (by decide) ?_
      exact e_aret (o := (some k4)) h hI dX6_deviceOf_22 (by subst ek4 hv2; first | rfl | contradiction | (unfold f_devOf; simp only [c1, c3, ↓reduceIte] <;> rfl) | (unfold f_devOf; simp [c1, c3]; done)) rfl
set_option maxHeartbeats 4000000 in
set_option maxRecDepth 100000 in
theorem tX6_joinOf (l0 : Launch) (G : fG) (F : Nat) (ω : fOm) (hI : Inv ω) (b : Nat) (hb : kd b = 1) (l : Int32) : CT l0 G F yX6_joinOf cX6_joinOf 2 (some (.object "FibreLoops$Join")) 0 [.ref (F + b), .int l] ω (some (vref F (f_joinOf ω b l))) ω := by
  refine ct_met (own := RX6) (by decide +kernel) rfl (Nat.le_of_ble_eq_true rfl) (fun X hXl hX h => ?_)
  subst hXl
  refine g_iload_n h 1 dX6_joinOf_0 rfl ?_
  refine g_if_lt (tgt := 21) h dX6_joinOf_1 (by decide) (fun c1 => ?_) (fun c1 => ?_)
  · refine g_null h dX6_joinOf_21 ?_
    exact e_aret (o := none) h hI dX6_joinOf_22 (by skip; first | rfl | contradiction | (unfold f_joinOf; simp only [c1, ↓reduceIte] <;> rfl) | (unfold f_joinOf; simp [c1]; done)) rfl
  · refine g_iload_n h 1 dX6_joinOf_4 rfl ?_
    refine g_aload_n h 0 dX6_joinOf_5 rfl ?_
    refine q_6_joinCount h hb tw_154 dX6_joinOf_6 (fun v2 hv2 => ?_)
    refine g_icmp_ge (tgt := 21) h dX6_joinOf_9 (by decide) (fun c3 => ?_) (fun c3 => ?_)
    · refine g_null h dX6_joinOf_21 ?_
      exact e_aret (o := none) h hI dX6_joinOf_22 (by subst hv2; first | rfl | contradiction | (unfold f_joinOf; simp only [c1, c3, ↓reduceIte] <;> rfl) | (unfold f_joinOf; simp [c1, c3]; done)) rfl
    · refine g_aload_n h 0 dX6_joinOf_12 rfl ?_
      refine q_6_joins h hb tw_146 dX6_joinOf_13 ?_
      refine g_iload_n h 1 dX6_joinOf_16 rfl ?_
      refine g_ja h hb (by subst hv2; exact vp_lt c1 (Int32.not_le.mp c3) (Inv_1_7 hI hb).2 rfl) dX6_joinOf_17 (fun k4 ek4 hk4 => ?_)
      refine g_goto (tgt := 22) h dX6_joinOf_18 (by decide) ?_
      exact e_aret (o := (some k4)) h hI dX6_joinOf_22 (by subst ek4 hv2; first | rfl | contradiction | (unfold f_joinOf; simp only [c1, c3, ↓reduceIte] <;> rfl) | (unfold f_joinOf; simp [c1, c3]; done)) rfl
set_option maxHeartbeats 4000000 in
set_option maxRecDepth 100000 in
theorem tX6_ringWith (l0 : Launch) (G : fG) (F : Nat) (ω : fOm) (hI : Inv ω) (b : Nat) (hb : kd b = 1) (l : Int32) (p : Int32) : CT l0 G F yX6_ringWith cX6_ringWith 4 (some (.object "FibreLoops$Ring")) 1 [.ref (F + b), .int l, .int p] ω (some (vref F (f_ringWith ω b l p))) ω := by
  refine ct_met (own := RX6) (by decide +kernel) rfl (Nat.le_of_ble_eq_true rfl) (fun X hXl hX h => ?_)
  subst hXl
  refine g_aload_n h 0 dX6_ringWith_0 rfl ?_
  refine g_iload_n h 1 dX6_ringWith_1 rfl ?_
  refine k_V_r (st := []) h hX (tX6_ringOf (xl X) G F ω hI b hb l) rfl ⟨kd_lt hb, ob_1 hb⟩ rfl miX6_ringOf tw_322 (by decide) (by decide) rfl (Nat.le_of_ble_eq_true rfl) (by rw [hX]; exact Nat.zero_le _) (by rw [hX]; exact Nat.zero_le _) dX6_ringWith_2 (fun e2 => ?_) (fun k1 e2 => ?_)
  · refine g_astore_nN (loc2 := [(3, .null), (0, .ref (F + b)), (1, .int l), (2, .int p)]) h dX6_ringWith_5 (by decide) rfl ?_
    refine g_aload_nN h 0 dX6_ringWith_6 rfl ?_
    refine g_ifnullN (tgt := 22) h dX6_ringWith_7 (by decide) ?_
    refine g_null h dX6_ringWith_22 ?_
    exact e_aret (o := none) h hI dX6_ringWith_23 (by skip; first | rfl | contradiction | (unfold f_ringWith; simp only [e2, ↓reduceIte] <;> rfl) | (unfold f_ringWith; simp [e2]; done)) rfl
  · have hk1 : kd k1 = 6 := ringOf_kd hI hb e2
    refine g_astore_n (loc2 := [(3, .ref (F + k1)), (0, .ref (F + b)), (1, .int l), (2, .int p)]) h dX6_ringWith_5 (by decide) rfl ?_
    refine g_aload_n h 0 dX6_ringWith_6 rfl ?_
    refine g_ifnull h dX6_ringWith_7 ?_
    refine g_aload_n h 0 dX6_ringWith_10 rfl ?_
    refine g_iload_n h 3 dX6_ringWith_11 rfl ?_
    refine k_VN_i (st := []) h hX (tX5_has (xl X) G F ω hI k1 hk1 p) rfl ⟨kd_lt hk1, ob_6 hk1⟩ rfl miX5_has tw_326 (by decide) (by decide) rfl (Nat.le_of_ble_eq_true rfl) (by rw [hX]; exact Nat.zero_le _) (by rw [hX]; exact Nat.zero_le _) dX6_ringWith_12 (fun v3 hv3 => ?_)
    refine g_if_eq (tgt := 22) h dX6_ringWith_15 (by decide) (fun c4 => ?_) (fun c4 => ?_)
    · refine g_null h dX6_ringWith_22 ?_
      exact e_aret (o := none) h hI dX6_ringWith_23 (by subst hv3; first | rfl | contradiction | (unfold f_ringWith; simp only [e2, c4, ↓reduceIte] <;> rfl) | (unfold f_ringWith; simp [e2, c4]; done)) rfl
    · refine g_aload_n h 0 dX6_ringWith_18 rfl ?_
      refine g_goto (tgt := 23) h dX6_ringWith_19 (by decide) ?_
      exact e_aret (o := (some k1)) h hI dX6_ringWith_23 (by subst hv3; first | rfl | contradiction | (unfold f_ringWith; simp only [e2, c4, ↓reduceIte] <;> rfl) | (unfold f_ringWith; simp [e2, c4]; done)) rfl
set_option maxHeartbeats 4000000 in
set_option maxRecDepth 100000 in
theorem tX6_changeSetting (l0 : Launch) (G : fG) (F : Nat) (ω : fOm) (hI : Inv ω) (b : Nat) (hb : kd b = 1) (s : Int32) (v : Int32) : CT l0 G F yX6_changeSetting cX6_changeSetting 4 (some .int) 1 [.ref (F + b), .int s, .int v] ω (some (.int (f_chSetR ω b s v))) (f_chSetW ω b s v) := by
  refine ct_met (own := RX6) (by decide +kernel) rfl (Nat.le_of_ble_eq_true rfl) (fun X hXl hX h => ?_)
  subst hXl
  refine g_iload_n h 1 dX6_changeSetting_0 rfl ?_
  refine g_iconst (v := 0) h dX6_changeSetting_1 (by decide) ?_
  refine g_iconst (v := 3) h dX6_changeSetting_2 (by decide) ?_
  refine k_SN_i (st := []) h hX (tX7_isBetween (xl X) G F ω hI s 0 3) rfl miX7_isBetween tw_283 (by decide) (by decide) rfl (Nat.le_of_ble_eq_true rfl) (by rw [hX]; exact Nat.zero_le _) (by rw [hX]; exact Nat.zero_le _) dX6_changeSetting_3 (fun v1 hv1 => ?_)
  refine g_if_ne (tgt := 12) h dX6_changeSetting_6 (by decide) (fun c2 => ?_) (fun c2 => ?_)
  · refine g_iload_n h 2 dX6_changeSetting_12 rfl ?_
    refine g_getsN (j := 0) h (by decide) rfl tw_286 dX6_changeSetting_13 ?_
    refine g_iload_n h 1 dX6_changeSetting_16 rfl ?_
    refine g_sald (j := 0) h (by decide) (by subst hv1; exact btw_in c2 rfl) dX6_changeSetting_17 (g_name fun v3 hv3 => ?_)
    refine g_getsN (j := 1) h (by decide) rfl tw_288 dX6_changeSetting_18 ?_
    refine g_iload_n h 1 dX6_changeSetting_21 rfl ?_
    refine g_sald (j := 1) h (by decide) (by subst hv3 hv1; exact btw_in c2 rfl) dX6_changeSetting_22 (g_name fun v4 hv4 => ?_)
    refine k_SN_i (st := []) h hX (tX7_isBetween (xl X) G F ω hI v v3 v4) rfl miX7_isBetween tw_283 (by decide) (by decide) rfl (Nat.le_of_ble_eq_true rfl) (by rw [hX]; exact Nat.zero_le _) (by rw [hX]; exact Nat.zero_le _) dX6_changeSetting_23 (fun v5 hv5 => ?_)
    refine g_if_ne (tgt := 32) h dX6_changeSetting_26 (by decide) (fun c6 => ?_) (fun c6 => ?_)
    · refine g_aload_n h 0 dX6_changeSetting_32 rfl ?_
      refine q_6_settings h hb tw_143 dX6_changeSetting_33 ?_
      refine g_iload_n h 1 dX6_changeSetting_36 rfl ?_
      refine g_ia (q := 2) h (ks_1 hb) rfl (by decide) (by subst hv5 hv4 hv3 hv1; exact btw_in c2 rfl) dX6_changeSetting_37 (fun v7 hv7 => ?_)
      refine g_istore_n (loc2 := [(3, .int v7), (0, .ref (F + b)), (1, .int s), (2, .int v)]) h dX6_changeSetting_38 (by decide) rfl ?_
      refine g_aload_n h 1 dX6_changeSetting_39 rfl ?_
      refine q_6_settings h hb tw_143 dX6_changeSetting_40 ?_
      refine g_iload_n h 2 dX6_changeSetting_43 rfl ?_
      refine g_iload_n h 3 dX6_changeSetting_44 rfl ?_
      refine g_is (q := 2) h hI (ks_1 hb) rfl (by decide) (by subst hv7 hv5 hv4 hv3 hv1; exact btw_in c2 rfl) dX6_changeSetting_45 (fun w8 hw8 iw8 => ?_)
      refine g_iload_n h 0 dX6_changeSetting_46 rfl ?_
      exact e_iret h iw8 dX6_changeSetting_47 (by subst hw8 hv7 hv5 hv4 hv3 hv1; unfold f_chSetR; simp only [c2, c6, ↓reduceIte]) (by subst hw8 hv7 hv5 hv4 hv3 hv1; unfold f_chSetW; simp only [c2, c6, ↓reduceIte])
    · refine g_bipush (v := (-2)) h dX6_changeSetting_29 (by decide) ?_
      exact e_iret h hI dX6_changeSetting_31 (by subst hv5 hv4 hv3 hv1; unfold f_chSetR; simp only [c2, c6, ↓reduceIte]) (by subst hv5 hv4 hv3 hv1; unfold f_chSetW; simp only [c2, c6, ↓reduceIte])
  · refine g_bipush (v := (-2)) h dX6_changeSetting_9 (by decide) ?_
    exact e_iret h hI dX6_changeSetting_11 (by subst hv1; unfold f_chSetR; simp only [c2, ↓reduceIte]) (by subst hv1; unfold f_chSetW; simp only [c2, ↓reduceIte])
set_option maxHeartbeats 4000000 in
set_option maxRecDepth 100000 in
theorem tX6_addRing (l0 : Launch) (G : fG) (F : Nat) (ω : fOm) (hI : Inv ω) (b : Nat) (hb : kd b = 1) (pl : Int32) : CT l0 G F yX6_addRing cX6_addRing 2 (some .int) 1 [.ref (F + b), .int pl] ω (some (.int (f_addRingR ω b pl))) (f_addRingW ω b pl) := by
  refine ct_met (own := RX6) (by decide +kernel) rfl (Nat.le_of_ble_eq_true rfl) (fun X hXl hX h => ?_)
  subst hXl
  refine g_iload_n h 1 dX6_addRing_0 rfl ?_
  refine g_iconst (v := 4) h dX6_addRing_1 (by decide) ?_
  refine g_bipush (v := 32) h dX6_addRing_2 (by decide) ?_
  refine k_SN_i (st := []) h hX (tX7_isBetween (xl X) G F ω hI pl 4 32) rfl miX7_isBetween tw_283 (by decide) (by decide) rfl (Nat.le_of_ble_eq_true rfl) (by rw [hX]; exact Nat.zero_le _) (by rw [hX]; exact Nat.zero_le _) dX6_addRing_4 (fun v1 hv1 => ?_)
  refine g_if_ne (tgt := 13) h dX6_addRing_7 (by decide) (fun c2 => ?_) (fun c2 => ?_)
  · refine g_aload_n h 0 dX6_addRing_13 rfl ?_
    refine q_6_ringCount h hb tw_150 dX6_addRing_14 (fun v3 hv3 => ?_)
    refine g_iconst (v := 5) h dX6_addRing_17 (by decide) ?_
    refine g_icmp_lt (tgt := 24) h dX6_addRing_18 (by decide) (fun c4 => ?_) (fun c4 => ?_)
    · refine g_aload_n h 0 dX6_addRing_24 rfl ?_
      refine q_6_rings h hb tw_144 dX6_addRing_25 ?_
      refine g_aload_n h 0 dX6_addRing_28 rfl ?_
      refine q_6_ringCount h hb tw_150 dX6_addRing_29 (fun v5 hv5 => ?_)
      refine g_ra h hb (by subst hv5 hv3 hv1; exact vp_lt (Int32.not_lt.mpr (Inv_1_5 hI hb).1) c4 (M := 5) (by decide) rfl) dX6_addRing_32 (fun k6 ek6 hk6 => ?_)
      refine g_iload_n h 1 dX6_addRing_33 rfl ?_
      refine k_VN_v (st := []) h hX (tX5_begin (xl X) G F ω hI k6 hk6 pl (btw32 (by subst ek6 hv5 hv3 hv1; exact c2))) rfl ⟨kd_lt hk6, ob_6 hk6⟩ rfl miX5_begin tw_306 (by decide) (by decide) rfl (Nat.le_of_ble_eq_true rfl) (by rw [hX]; exact Nat.zero_le _) (by rw [hX]; exact Nat.zero_le _) dX6_addRing_34 (fun w7 hw7 iw7 => ?_)
      refine g_aload_n h 0 dX6_addRing_37 rfl ?_
      refine g_dup h dX6_addRing_38 rfl ?_
      refine q_6_ringCount h hb tw_150 dX6_addRing_39 (fun v8 hv8 => ?_)
      refine g_iconst (v := 1) h dX6_addRing_42 (by decide) ?_
      refine g_iadd h dX6_addRing_43 (g_name fun v9 hv9 => ?_)
      refine p_6_ringCount h iw7 hb (by have hb9 := inc_le (Inv_1_5 hI hb).1 (M := 5) (by subst hv9 hv8 hw7 ek6 hv5 hv3 hv1; exact c4); subst hv9 hv8 hw7 ek6 hv5 hv3 hv1; rw [begin_M b (by show ¬ (_ ≤ b ∧ _); omega)]; exact okv_1_5 hb9.1 hb9.2) tw_150 dX6_addRing_44 (fun w10 hw10 iw10 => ?_)
      refine g_aload_n h 0 dX6_addRing_47 rfl ?_
      refine q_6_ringCount h hb tw_150 dX6_addRing_48 (fun v11 hv11 => ?_)
      refine g_iconst (v := 1) h dX6_addRing_51 (by decide) ?_
      refine g_isub h dX6_addRing_52 (g_name fun v12 hv12 => ?_)
      exact e_iret h iw10 dX6_addRing_53 (by subst hv12 hv11 hw10 hv9 hv8 hw7 ek6 hv5 hv3 hv1; unfold f_addRingR f_addRingW; simp only [c2, c4, ↓reduceIte]) (by subst hv12 hv11 hw10 hv9 hv8 hw7 ek6 hv5 hv3 hv1; unfold f_addRingW; simp only [c2, c4, ↓reduceIte])
    · refine g_bipush (v := (-4)) h dX6_addRing_21 (by decide) ?_
      exact e_iret h hI dX6_addRing_23 (by subst hv3 hv1; unfold f_addRingR f_addRingW; simp only [c2, c4, ↓reduceIte]) (by subst hv3 hv1; unfold f_addRingW; simp only [c2, c4, ↓reduceIte])
  · refine g_bipush (v := (-2)) h dX6_addRing_10 (by decide) ?_
    exact e_iret h hI dX6_addRing_12 (by subst hv1; unfold f_addRingR f_addRingW; simp only [c2, ↓reduceIte]) (by subst hv1; unfold f_addRingW; simp only [c2, ↓reduceIte])
set_option maxHeartbeats 4000000 in
set_option maxRecDepth 100000 in
theorem tX6_addDevice (l0 : Launch) (G : fG) (F : Nat) (ω : fOm) (hI : Inv ω) (b : Nat) (hb : kd b = 1) (l : Int32) (p : Int32) (ki : Int32) (on : Int32) (tw : Int32) : CT l0 G F yX6_addDevice cX6_addDevice 6 (some .int) 3 [.ref (F + b), .int l, .int p, .int ki, .int on, .int tw] ω (some (.int (f_addDevR ω b l p ki on tw))) (f_addDevW ω b l p ki on tw) := by
  refine ct_met (own := RX6) (by decide +kernel) rfl (Nat.le_of_ble_eq_true rfl) (fun X hXl hX h => ?_)
  subst hXl
  refine g_aload_n h 0 dX6_addDevice_0 rfl ?_
  refine g_iload_n h 1 dX6_addDevice_1 rfl ?_
  refine g_iload_n h 2 dX6_addDevice_2 rfl ?_
  refine k_V_r (st := []) h hX (tX6_ringWith (xl X) G F ω hI b hb l p) rfl ⟨kd_lt hb, ob_1 hb⟩ rfl miX6_ringWith tw_318 (by decide) (by decide) rfl (Nat.le_of_ble_eq_true rfl) (by rw [hX]; exact Nat.zero_le _) (by rw [hX]; exact Nat.zero_le _) dX6_addDevice_3 (fun e2 => ?_) (fun k1 e2 => ?_)
  · refine g_ifnonnullN h dX6_addDevice_6 ?_
    refine g_iconst (v := (-1)) h dX6_addDevice_9 (by decide) ?_
    exact e_iret h hI dX6_addDevice_10 (by skip; unfold f_addDevR f_addDevW; simp only [e2, ↓reduceIte]) (by skip; unfold f_addDevW; simp only [e2, ↓reduceIte])
  · have hk1 : kd k1 = 6 := ringWith_kd hI hb e2
    refine g_ifnonnull (tgt := 11) h dX6_addDevice_6 (by decide) ?_
    refine g_iload_n h 3 dX6_addDevice_11 rfl ?_
    refine g_iload h 4 dX6_addDevice_12 rfl ?_
    refine g_iload h 5 dX6_addDevice_14 rfl ?_
    refine k_SN_i (st := []) h hX (tX7_fits (xl X) G F ω hI ki on tw) rfl miX7_fits tw_330 (by decide) (by decide) rfl (Nat.le_of_ble_eq_true rfl) (by rw [hX]; exact Nat.zero_le _) (by rw [hX]; exact Nat.zero_le _) dX6_addDevice_16 (fun v3 hv3 => ?_)
    refine g_if_ne (tgt := 25) h dX6_addDevice_19 (by decide) (fun c4 => ?_) (fun c4 => ?_)
    · refine g_aload_n h 0 dX6_addDevice_25 rfl ?_
      refine q_6_deviceCount h hb tw_152 dX6_addDevice_26 (fun v5 hv5 => ?_)
      refine g_bipush (v := 12) h dX6_addDevice_29 (by decide) ?_
      refine g_icmp_lt (tgt := 37) h dX6_addDevice_31 (by decide) (fun c6 => ?_) (fun c6 => ?_)
      · refine g_aload_n h 0 dX6_addDevice_37 rfl ?_
        refine q_6_devices h hb tw_145 dX6_addDevice_38 ?_
        refine g_aload_n h 0 dX6_addDevice_41 rfl ?_
        refine q_6_deviceCount h hb tw_152 dX6_addDevice_42 (fun v7 hv7 => ?_)
        refine g_da h hb (by subst hv7 hv5 hv3; exact vp_lt (Int32.not_lt.mpr (Inv_1_6 hI hb).1) c6 (M := 12) (by decide) rfl) dX6_addDevice_45 (fun k8 ek8 hk8 => ?_)
        refine g_iload_n h 1 dX6_addDevice_46 rfl ?_
        refine g_iload_n h 2 dX6_addDevice_47 rfl ?_
        refine g_iload_n h 3 dX6_addDevice_48 rfl ?_
        refine g_iload h 4 dX6_addDevice_49 rfl ?_
        refine g_iload h 5 dX6_addDevice_51 rfl ?_
        refine k_VN_v (st := []) h hX (tX0_begin (xl X) G F ω hI k8 hk8 l p ki on tw) rfl ⟨kd_lt hk8, ob_9 hk8⟩ rfl miX0_begin tw_337 (by decide) (by decide) rfl (Nat.le_of_ble_eq_true rfl) (by rw [hX]; exact Nat.zero_le _) (by rw [hX]; exact Nat.zero_le _) dX6_addDevice_53 (fun w9 hw9 iw9 => ?_)
        refine g_aload_n h 0 dX6_addDevice_56 rfl ?_
        refine g_dup h dX6_addDevice_57 rfl ?_
        refine q_6_deviceCount h hb tw_152 dX6_addDevice_58 (fun v10 hv10 => ?_)
        refine g_iconst (v := 1) h dX6_addDevice_61 (by decide) ?_
        refine g_iadd h dX6_addDevice_62 (g_name fun v11 hv11 => ?_)
        refine p_6_deviceCount h iw9 hb (by have hb9 := inc_le (Inv_1_6 hI hb).1 (M := 12) (by subst hv11 hv10 hw9 ek8 hv7 hv5 hv3; exact c6); subst hv11 hv10 hw9 ek8 hv7 hv5 hv3; rw [dbegin_M b (by show ¬ (b = _); omega)]; exact okv_1_6 hb9.1 hb9.2) tw_152 dX6_addDevice_63 (fun w12 hw12 iw12 => ?_)
        refine g_aload_n h 0 dX6_addDevice_66 rfl ?_
        refine q_6_deviceCount h hb tw_152 dX6_addDevice_67 (fun v13 hv13 => ?_)
        refine g_iconst (v := 1) h dX6_addDevice_70 (by decide) ?_
        refine g_isub h dX6_addDevice_71 (g_name fun v14 hv14 => ?_)
        exact e_iret h iw12 dX6_addDevice_72 (by subst hv14 hv13 hw12 hv11 hv10 hw9 ek8 hv7 hv5 hv3; unfold f_addDevR f_addDevW; simp only [e2, c4, c6, ↓reduceIte]) (by subst hv14 hv13 hw12 hv11 hv10 hw9 ek8 hv7 hv5 hv3; unfold f_addDevW; simp only [e2, c4, c6, ↓reduceIte])
      · refine g_bipush (v := (-4)) h dX6_addDevice_34 (by decide) ?_
        exact e_iret h hI dX6_addDevice_36 (by subst hv5 hv3; unfold f_addDevR f_addDevW; simp only [e2, c4, c6, ↓reduceIte]) (by subst hv5 hv3; unfold f_addDevW; simp only [e2, c4, c6, ↓reduceIte])
    · refine g_bipush (v := (-2)) h dX6_addDevice_22 (by decide) ?_
      exact e_iret h hI dX6_addDevice_24 (by subst hv3; unfold f_addDevR f_addDevW; simp only [e2, c4, ↓reduceIte]) (by subst hv3; unfold f_addDevW; simp only [e2, c4, ↓reduceIte])
set_option maxHeartbeats 4000000 in
set_option maxRecDepth 100000 in
theorem tX6_addJoin (l0 : Launch) (G : fG) (F : Nat) (ω : fOm) (hI : Inv ω) (b : Nat) (hb : kd b = 1) (l : Int32) (p : Int32) (l2 : Int32) (p2 : Int32) : CT l0 G F yX6_addJoin cX6_addJoin 5 (some .int) 2 [.ref (F + b), .int l, .int p, .int l2, .int p2] ω (some (.int (f_addJoinR ω b l p l2 p2))) (f_addJoinW ω b l p l2 p2) := by
  refine ct_met (own := RX6) (by decide +kernel) rfl (Nat.le_of_ble_eq_true rfl) (fun X hXl hX h => ?_)
  subst hXl
  refine g_aload_n h 0 dX6_addJoin_0 rfl ?_
  refine g_iload_n h 1 dX6_addJoin_1 rfl ?_
  refine g_iload_n h 2 dX6_addJoin_2 rfl ?_
  refine k_V_r (st := []) h hX (tX6_ringWith (xl X) G F ω hI b hb l p) rfl ⟨kd_lt hb, ob_1 hb⟩ rfl miX6_ringWith tw_318 (by decide) (by decide) rfl (Nat.le_of_ble_eq_true rfl) (by rw [hX]; exact Nat.zero_le _) (by rw [hX]; exact Nat.zero_le _) dX6_addJoin_3 (fun e2 => ?_) (fun k1 e2 => ?_)
  · refine g_ifnullN (tgt := 19) h dX6_addJoin_6 (by decide) ?_
    refine g_iconst (v := (-1)) h dX6_addJoin_19 (by decide) ?_
    exact e_iret h hI dX6_addJoin_20 (by skip; unfold f_addJoinR f_addJoinW; simp only [e2, ↓reduceIte]) (by skip; unfold f_addJoinW; simp only [e2, ↓reduceIte])
  · have hk1 : kd k1 = 6 := ringWith_kd hI hb e2
    refine g_ifnull h dX6_addJoin_6 ?_
    refine g_aload_n h 0 dX6_addJoin_9 rfl ?_
    refine g_iload_n h 3 dX6_addJoin_10 rfl ?_
    refine g_iload h 4 dX6_addJoin_11 rfl ?_
    refine k_V_r (st := []) h hX (tX6_ringWith (xl X) G F ω hI b hb l2 p2) rfl ⟨kd_lt hb, ob_1 hb⟩ rfl miX6_ringWith tw_318 (by decide) (by decide) rfl (Nat.le_of_ble_eq_true rfl) (by rw [hX]; exact Nat.zero_le _) (by rw [hX]; exact Nat.zero_le _) dX6_addJoin_13 (fun e4 => ?_) (fun k3 e4 => ?_)
    · refine g_ifnonnullN h dX6_addJoin_16 ?_
      refine g_iconst (v := (-1)) h dX6_addJoin_19 (by decide) ?_
      exact e_iret h hI dX6_addJoin_20 (by skip; unfold f_addJoinR f_addJoinW; simp only [e2, e4, ↓reduceIte]) (by skip; unfold f_addJoinW; simp only [e2, e4, ↓reduceIte])
    · have hk3 : kd k3 = 6 := ringWith_kd hI hb e4
      refine g_ifnonnull (tgt := 21) h dX6_addJoin_16 (by decide) ?_
      refine g_iload_n h 1 dX6_addJoin_21 rfl ?_
      refine g_iload_n h 3 dX6_addJoin_22 rfl ?_
      refine g_icmp_ne (tgt := 29) h dX6_addJoin_23 (by decide) (fun c5 => ?_) (fun c5 => ?_)
      · refine g_aload_n h 0 dX6_addJoin_29 rfl ?_
        refine q_6_joinCount h hb tw_154 dX6_addJoin_30 (fun v6 hv6 => ?_)
        refine g_iconst (v := 4) h dX6_addJoin_33 (by decide) ?_
        refine g_icmp_lt (tgt := 40) h dX6_addJoin_34 (by decide) (fun c7 => ?_) (fun c7 => ?_)
        · refine g_aload_n h 0 dX6_addJoin_40 rfl ?_
          refine q_6_joins h hb tw_146 dX6_addJoin_41 ?_
          refine g_aload_n h 0 dX6_addJoin_44 rfl ?_
          refine q_6_joinCount h hb tw_154 dX6_addJoin_45 (fun v8 hv8 => ?_)
          refine g_ja h hb (by subst hv8 hv6; exact vp_lt (Int32.not_lt.mpr (Inv_1_7 hI hb).1) c7 (M := 4) (by decide) rfl) dX6_addJoin_48 (fun k9 ek9 hk9 => ?_)
          refine g_iload_n h 1 dX6_addJoin_49 rfl ?_
          refine g_iload_n h 2 dX6_addJoin_50 rfl ?_
          refine g_iload_n h 3 dX6_addJoin_51 rfl ?_
          refine g_iload h 4 dX6_addJoin_52 rfl ?_
          refine k_VN_v (st := []) h hX (tX2_begin (xl X) G F ω hI k9 hk9 l p l2 p2) rfl ⟨kd_lt hk9, ob_11 hk9⟩ rfl miX2_begin tw_349 (by decide) (by decide) rfl (Nat.le_of_ble_eq_true rfl) (by rw [hX]; exact Nat.zero_le _) (by rw [hX]; exact Nat.zero_le _) dX6_addJoin_54 (fun w10 hw10 iw10 => ?_)
          refine g_aload_n h 0 dX6_addJoin_57 rfl ?_
          refine g_dup h dX6_addJoin_58 rfl ?_
          refine q_6_joinCount h hb tw_154 dX6_addJoin_59 (fun v11 hv11 => ?_)
          refine g_iconst (v := 1) h dX6_addJoin_62 (by decide) ?_
          refine g_iadd h dX6_addJoin_63 (g_name fun v12 hv12 => ?_)
          refine p_6_joinCount h iw10 hb (by have hb9 := inc_le (Inv_1_7 hI hb).1 (M := 4) (by subst hv12 hv11 hw10 ek9 hv8 hv6; exact c7); subst hv12 hv11 hw10 ek9 hv8 hv6; rw [jbegin_M b (by show ¬ (b = _); omega)]; exact okv_1_7 hb9.1 hb9.2) tw_154 dX6_addJoin_64 (fun w13 hw13 iw13 => ?_)
          refine g_aload_n h 0 dX6_addJoin_67 rfl ?_
          refine q_6_joinCount h hb tw_154 dX6_addJoin_68 (fun v14 hv14 => ?_)
          refine g_iconst (v := 1) h dX6_addJoin_71 (by decide) ?_
          refine g_isub h dX6_addJoin_72 (g_name fun v15 hv15 => ?_)
          exact e_iret h iw13 dX6_addJoin_73 (by subst hv15 hv14 hw13 hv12 hv11 hw10 ek9 hv8 hv6; unfold f_addJoinR f_addJoinW; simp only [e2, e4, c5, c7, ↓reduceIte]) (by subst hv15 hv14 hw13 hv12 hv11 hw10 ek9 hv8 hv6; unfold f_addJoinW; simp only [e2, e4, c5, c7, ↓reduceIte])
        · refine g_bipush (v := (-4)) h dX6_addJoin_37 (by decide) ?_
          exact e_iret h hI dX6_addJoin_39 (by subst hv6; unfold f_addJoinR f_addJoinW; simp only [e2, e4, c5, c7, ↓reduceIte]) (by subst hv6; unfold f_addJoinW; simp only [e2, e4, c5, c7, ↓reduceIte])
      · refine g_bipush (v := (-2)) h dX6_addJoin_26 (by decide) ?_
        exact e_iret h hI dX6_addJoin_28 (by skip; unfold f_addJoinR f_addJoinW; simp only [e2, e4, if_pos c5, ↓reduceIte]) (by skip; unfold f_addJoinW; simp only [e2, e4, if_pos c5, ↓reduceIte])
set_option maxHeartbeats 4000000 in
set_option maxRecDepth 100000 in
theorem tX6_turnJoin (l0 : Launch) (G : fG) (F : Nat) (ω : fOm) (hI : Inv ω) (b : Nat) (hb : kd b = 1) (j : Int32) (m : Int32) : CT l0 G F yX6_turnJoin cX6_turnJoin 5 (some .int) 1 [.ref (F + b), .int j, .int m] ω (some (.int (f_turnJR ω b j m))) (f_turnJW ω b j m) := by
  refine ct_met (own := RX6) (by decide +kernel) rfl (Nat.le_of_ble_eq_true rfl) (fun X hXl hX h => ?_)
  subst hXl
  refine g_aload_n h 0 dX6_turnJoin_0 rfl ?_
  refine g_iload_n h 1 dX6_turnJoin_1 rfl ?_
  refine k_V_r (st := []) h hX (tX6_joinOf (xl X) G F ω hI b hb j) rfl ⟨kd_lt hb, ob_1 hb⟩ rfl miX6_joinOf tw_361 (by decide) (by decide) rfl (Nat.le_of_ble_eq_true rfl) (by rw [hX]; exact Nat.zero_le _) (by rw [hX]; exact Nat.zero_le _) dX6_turnJoin_2 (fun e2 => ?_) (fun k1 e2 => ?_)
  · refine g_astore_nN (loc2 := [(3, .null), (0, .ref (F + b)), (1, .int j), (2, .int m)]) h dX6_turnJoin_5 (by decide) rfl ?_
    refine g_aload_nN h 0 dX6_turnJoin_6 rfl ?_
    refine g_ifnonnullN h dX6_turnJoin_7 ?_
    refine g_iconst (v := (-1)) h dX6_turnJoin_10 (by decide) ?_
    exact e_iret h hI dX6_turnJoin_11 (by skip; unfold f_turnJR ; simp only [e2, ↓reduceIte]) (by skip; unfold f_turnJW; simp only [e2, ↓reduceIte])
  · have hk1 : kd k1 = 11 := joinOf_kd hI hb e2
    refine g_astore_n (loc2 := [(3, .ref (F + k1)), (0, .ref (F + b)), (1, .int j), (2, .int m)]) h dX6_turnJoin_5 (by decide) rfl ?_
    refine g_aload_n h 0 dX6_turnJoin_6 rfl ?_
    refine g_ifnonnull (tgt := 12) h dX6_turnJoin_7 (by decide) ?_
    refine g_iload_n h 3 dX6_turnJoin_12 rfl ?_
    refine g_iconst (v := 0) h dX6_turnJoin_13 (by decide) ?_
    refine g_iconst (v := 2) h dX6_turnJoin_14 (by decide) ?_
    refine k_SN_i (st := []) h hX (tX7_isBetween (xl X) G F ω hI m 0 2) rfl miX7_isBetween tw_283 (by decide) (by decide) rfl (Nat.le_of_ble_eq_true rfl) (by rw [hX]; exact Nat.zero_le _) (by rw [hX]; exact Nat.zero_le _) dX6_turnJoin_15 (fun v3 hv3 => ?_)
    refine g_if_ne (tgt := 24) h dX6_turnJoin_18 (by decide) (fun c4 => ?_) (fun c4 => ?_)
    · refine g_aload_n h 0 dX6_turnJoin_24 rfl ?_
      refine qN_2_mode h hk1 tw_126 dX6_turnJoin_25 (fun v5 hv5 => ?_)
      refine g_istore (loc2 := [(4, .int v5), (3, .ref (F + k1)), (0, .ref (F + b)), (1, .int j), (2, .int m)]) h dX6_turnJoin_28 (by decide) rfl ?_
      refine g_aload_n h 1 dX6_turnJoin_30 rfl ?_
      refine g_iload_n h 4 dX6_turnJoin_31 rfl ?_
      refine pN_2_mode h hI hk1 tw_126 dX6_turnJoin_32 (fun w6 hw6 iw6 => ?_)
      refine g_iload h 0 dX6_turnJoin_35 rfl ?_
      exact e_iret h iw6 dX6_turnJoin_37 (by subst hw6 hv5 hv3; unfold f_turnJR ; simp only [e2, c4, ↓reduceIte]) (by subst hw6 hv5 hv3; unfold f_turnJW; simp only [e2, c4, ↓reduceIte])
    · refine g_bipush (v := (-2)) h dX6_turnJoin_21 (by decide) ?_
      exact e_iret h hI dX6_turnJoin_23 (by subst hv3; unfold f_turnJR ; simp only [e2, c4, ↓reduceIte]) (by subst hv3; unfold f_turnJW; simp only [e2, c4, ↓reduceIte])
set_option maxHeartbeats 4000000 in
set_option maxRecDepth 100000 in
theorem tX6_feedDevice (l0 : Launch) (G : fG) (F : Nat) (ω : fOm) (hI : Inv ω) (b : Nat) (hb : kd b = 1) (d : Int32) (v : Int32) : CT l0 G F yX6_feedDevice cX6_feedDevice 4 (some .int) 2 [.ref (F + b), .int d, .int v] ω (some (.int (f_feedR ω b d v))) (f_feedW ω b d v) := by
  refine ct_met (own := RX6) (by decide +kernel) rfl (Nat.le_of_ble_eq_true rfl) (fun X hXl hX h => ?_)
  subst hXl
  refine g_aload_n h 0 dX6_feedDevice_0 rfl ?_
  refine g_iload_n h 1 dX6_feedDevice_1 rfl ?_
  refine k_V_r (st := []) h hX (tX6_deviceOf (xl X) G F ω hI b hb d) rfl ⟨kd_lt hb, ob_1 hb⟩ rfl miX6_deviceOf tw_373 (by decide) (by decide) rfl (Nat.le_of_ble_eq_true rfl) (by rw [hX]; exact Nat.zero_le _) (by rw [hX]; exact Nat.zero_le _) dX6_feedDevice_2 (fun e2 => ?_) (fun k1 e2 => ?_)
  · refine g_astore_nN (loc2 := [(3, .null), (0, .ref (F + b)), (1, .int d), (2, .int v)]) h dX6_feedDevice_5 (by decide) rfl ?_
    refine g_aload_nN h 0 dX6_feedDevice_6 rfl ?_
    refine g_ifnullN (tgt := 18) h dX6_feedDevice_7 (by decide) ?_
    refine g_iconst (v := (-1)) h dX6_feedDevice_18 (by decide) ?_
    exact e_iret h hI dX6_feedDevice_19 (by skip; unfold f_feedR ; simp only [e2, ↓reduceIte]) (by skip; unfold f_feedW; simp only [e2, ↓reduceIte])
  · have hk1 : kd k1 = 9 := devOf_kd hI hb e2
    refine g_astore_n (loc2 := [(3, .ref (F + k1)), (0, .ref (F + b)), (1, .int d), (2, .int v)]) h dX6_feedDevice_5 (by decide) rfl ?_
    refine g_aload_n h 0 dX6_feedDevice_6 rfl ?_
    refine g_ifnull h dX6_feedDevice_7 ?_
    refine g_aload_n h 0 dX6_feedDevice_10 rfl ?_
    refine qN_0_kind h hk1 tw_73 dX6_feedDevice_11 (fun v3 hv3 => ?_)
    refine g_iconst (v := 2) h dX6_feedDevice_14 (by decide) ?_
    refine g_icmp_eq (tgt := 20) h dX6_feedDevice_15 (by decide) (fun c4 => ?_) (fun c4 => ?_)
    · refine g_iload_n h 3 dX6_feedDevice_20 rfl ?_
      refine k_SN_i (st := []) h hX (tX7_isValue (xl X) G F ω hI v) rfl miX7_isValue tw_377 (by decide) (by decide) rfl (Nat.le_of_ble_eq_true rfl) (by rw [hX]; exact Nat.zero_le _) (by rw [hX]; exact Nat.zero_le _) dX6_feedDevice_21 (fun v5 hv5 => ?_)
      refine g_if_ne (tgt := 30) h dX6_feedDevice_24 (by decide) (fun c6 => ?_) (fun c6 => ?_)
      · refine g_aload_n h 0 dX6_feedDevice_30 rfl ?_
        refine qN_0_kept h hk1 tw_90 dX6_feedDevice_31 (fun v7 hv7 => ?_)
        refine g_bipush (v := 12) h dX6_feedDevice_34 (by decide) ?_
        refine g_icmp_lt (tgt := 42) h dX6_feedDevice_36 (by decide) (fun c8 => ?_) (fun c8 => ?_)
        · refine g_aload_n h 0 dX6_feedDevice_42 rfl ?_
          refine g_iload_n h 3 dX6_feedDevice_43 rfl ?_
          refine k_VN_v (st := []) h hX (tX0_keepAsLast (xl X) G F ω hI k1 hk1 v) rfl ⟨kd_lt hk1, ob_9 hk1⟩ rfl miX0_keepAsLast tw_378 (by decide) (by decide) rfl (Nat.le_of_ble_eq_true rfl) (by rw [hX]; exact Nat.zero_le _) (by rw [hX]; exact Nat.zero_le _) dX6_feedDevice_44 (fun w9 hw9 iw9 => ?_)
          refine g_aload_n h 0 dX6_feedDevice_47 rfl ?_
          refine qN_0_kept h hk1 tw_90 dX6_feedDevice_48 (fun v10 hv10 => ?_)
          exact e_iret h iw9 dX6_feedDevice_51 (by subst hv10 hw9 hv7 hv5 hv3; unfold f_feedR ; simp only [e2, c4, c6, c8, ↓reduceIte]) (by subst hv10 hw9 hv7 hv5 hv3; unfold f_feedW; simp only [e2, c4, c6, c8, ↓reduceIte])
        · refine g_bipush (v := (-4)) h dX6_feedDevice_39 (by decide) ?_
          exact e_iret h hI dX6_feedDevice_41 (by subst hv7 hv5 hv3; unfold f_feedR ; simp only [e2, c4, c6, c8, ↓reduceIte]) (by subst hv7 hv5 hv3; unfold f_feedW; simp only [e2, c4, c6, c8, ↓reduceIte])
      · refine g_bipush (v := (-2)) h dX6_feedDevice_27 (by decide) ?_
        exact e_iret h hI dX6_feedDevice_29 (by subst hv5 hv3; unfold f_feedR ; simp only [e2, c4, c6, ↓reduceIte]) (by subst hv5 hv3; unfold f_feedW; simp only [e2, c4, c6, ↓reduceIte])
    · refine g_iconst (v := (-1)) h dX6_feedDevice_18 (by decide) ?_
      exact e_iret h hI dX6_feedDevice_19 (by subst hv3; unfold f_feedR ; simp only [e2, c4, ↓reduceIte]) (by subst hv3; unfold f_feedW; simp only [e2, c4, ↓reduceIte])
set_option maxHeartbeats 4000000 in
set_option maxRecDepth 100000 in
theorem tX6_lightFlash (l0 : Launch) (G : fG) (F : Nat) (ω : fOm) (hI : Inv ω) (b : Nat) (hb : kd b = 1) (l : Int32) (p : Int32) (v : Int32) : CT l0 G F yX6_lightFlash cX6_lightFlash 5 (some .int) 2 [.ref (F + b), .int l, .int p, .int v] ω (some (.int (f_lightR ω b l p v))) (f_lightW ω b l p v) := by
  refine ct_met (own := RX6) (by decide +kernel) rfl (Nat.le_of_ble_eq_true rfl) (fun X hXl hX h => ?_)
  subst hXl
  refine g_aload_n h 0 dX6_lightFlash_0 rfl ?_
  refine g_iload_n h 1 dX6_lightFlash_1 rfl ?_
  refine g_iload_n h 2 dX6_lightFlash_2 rfl ?_
  refine k_V_r (st := []) h hX (tX6_ringWith (xl X) G F ω hI b hb l p) rfl ⟨kd_lt hb, ob_1 hb⟩ rfl miX6_ringWith tw_318 (by decide) (by decide) rfl (Nat.le_of_ble_eq_true rfl) (by rw [hX]; exact Nat.zero_le _) (by rw [hX]; exact Nat.zero_le _) dX6_lightFlash_3 (fun e2 => ?_) (fun k1 e2 => ?_)
  · refine g_astoreN (loc2 := [(4, .null), (0, .ref (F + b)), (1, .int l), (2, .int p), (3, .int v)]) h dX6_lightFlash_6 (by decide) rfl ?_
    refine g_aloadN h 0 dX6_lightFlash_8 rfl ?_
    refine g_ifnonnullN h dX6_lightFlash_10 ?_
    refine g_iconst (v := (-1)) h dX6_lightFlash_13 (by decide) ?_
    exact e_iret h hI dX6_lightFlash_14 (by skip; unfold f_lightR ; simp only [e2, ↓reduceIte]) (by skip; unfold f_lightW; simp only [e2, ↓reduceIte])
  · have hk1 : kd k1 = 6 := ringWith_kd hI hb e2
    refine g_astore (loc2 := [(4, .ref (F + k1)), (0, .ref (F + b)), (1, .int l), (2, .int p), (3, .int v)]) h dX6_lightFlash_6 (by decide) rfl ?_
    refine g_aload h 0 dX6_lightFlash_8 rfl ?_
    refine g_ifnonnull (tgt := 15) h dX6_lightFlash_10 (by decide) ?_
    refine g_iload_n h 4 dX6_lightFlash_15 rfl ?_
    refine k_SN_i (st := []) h hX (tX7_isValue (xl X) G F ω hI v) rfl miX7_isValue tw_377 (by decide) (by decide) rfl (Nat.le_of_ble_eq_true rfl) (by rw [hX]; exact Nat.zero_le _) (by rw [hX]; exact Nat.zero_le _) dX6_lightFlash_16 (fun v3 hv3 => ?_)
    refine g_if_ne (tgt := 25) h dX6_lightFlash_19 (by decide) (fun c4 => ?_) (fun c4 => ?_)
    · refine g_aload h 0 dX6_lightFlash_25 rfl ?_
      refine g_iload_n h 3 dX6_lightFlash_27 rfl ?_
      refine k_VN_i (st := []) h hX (tX5_strengthAt (xl X) G F ω hI k1 hk1 p) rfl ⟨kd_lt hk1, ob_6 hk1⟩ rfl miX5_strengthAt tw_390 (by decide) (by decide) rfl (Nat.le_of_ble_eq_true rfl) (by rw [hX]; exact Nat.zero_le _) (by rw [hX]; exact Nat.zero_le _) dX6_lightFlash_28 (fun v5 hv5 => ?_)
      refine g_if_le (tgt := 37) h dX6_lightFlash_31 (by decide) (fun c6 => ?_) (fun c6 => ?_)
      · refine g_aload h 0 dX6_lightFlash_37 rfl ?_
        refine g_iload_n h 3 dX6_lightFlash_39 rfl ?_
        refine g_iload_n h 4 dX6_lightFlash_40 rfl ?_
        refine g_aload_n h 1 dX6_lightFlash_41 rfl ?_
        refine g_iconst (v := 3) h dX6_lightFlash_42 (by decide) ?_
        refine k_V_i (st := [.int v, .int p, .ref (F + k1)]) h hX (tX6_setting (xl X) G F ω hI b hb 3) rfl ⟨kd_lt hb, ob_1 hb⟩ rfl miX6_setting tw_395 (by decide) (by decide) rfl (Nat.le_of_ble_eq_true rfl) (by rw [hX]; exact Nat.zero_le _) (by rw [hX]; exact Nat.zero_le _) dX6_lightFlash_43 (fun v7 hv7 => ?_)
        refine g_aload_n h 1 dX6_lightFlash_46 rfl ?_
        refine q_6_tick h hb tw_147 dX6_lightFlash_47 (fun v8 hv8 => ?_)
        refine k_VN_v (st := []) h hX (tX5_putIn (xl X) G F ω hI k1 hk1 p v v7 v8) rfl ⟨kd_lt hk1, ob_6 hk1⟩ rfl miX5_putIn tw_399 (by decide) (by decide) rfl (Nat.le_of_ble_eq_true rfl) (by rw [hX]; exact Nat.zero_le _) (by rw [hX]; exact Nat.zero_le _) dX6_lightFlash_50 (fun w9 hw9 iw9 => ?_)
        refine g_aload h 0 dX6_lightFlash_53 rfl ?_
        refine k_VN_i (st := []) h hX (tX5_flashes (xl X) G F w9 iw9 k1 hk1) rfl ⟨kd_lt hk1, ob_6 hk1⟩ rfl miX5_flashes tw_403 (by decide) (by decide) rfl (Nat.le_of_ble_eq_true rfl) (by rw [hX]; exact Nat.zero_le _) (by rw [hX]; exact Nat.zero_le _) dX6_lightFlash_55 (fun v10 hv10 => ?_)
        exact e_iret h iw9 dX6_lightFlash_58 (by subst hv10 hw9 hv8 hv7 hv5 hv3; unfold f_lightR ; simp only [e2, c4, c6, ↓reduceIte]) (by subst hv10 hw9 hv8 hv7 hv5 hv3; unfold f_lightW; simp only [e2, c4, c6, ↓reduceIte])
      · refine g_bipush (v := (-5)) h dX6_lightFlash_34 (by decide) ?_
        exact e_iret h hI dX6_lightFlash_36 (by subst hv5 hv3; unfold f_lightR ; simp only [e2, c4, c6, ↓reduceIte]) (by subst hv5 hv3; unfold f_lightW; simp only [e2, c4, c6, ↓reduceIte])
    · refine g_bipush (v := (-2)) h dX6_lightFlash_22 (by decide) ?_
      exact e_iret h hI dX6_lightFlash_24 (by subst hv3; unfold f_lightR ; simp only [e2, c4, ↓reduceIte]) (by subst hv3; unfold f_lightW; simp only [e2, c4, ↓reduceIte])
set_option maxHeartbeats 4000000 in
set_option maxRecDepth 100000 in
theorem tX6_flashesInAll (l0 : Launch) (G : fG) (F : Nat) (ω : fOm) (hI : Inv ω) (b : Nat) (hb : kd b = 1) : CT l0 G F yX6_flashesInAll cX6_flashesInAll 3 (some .int) 1 [.ref (F + b)] ω (some (.int (f_flAll ω b))) ω := by
  refine ct_met (own := RX6) (by decide +kernel) rfl (Nat.le_of_ble_eq_true rfl) (fun X hXl hX h => ?_)
  subst hXl
  refine g_iconst (v := 0) h dX6_flashesInAll_0 (by decide) ?_
  refine g_istore_n (loc2 := [(1, .int 0), (0, .ref (F + b))]) h dX6_flashesInAll_1 (by decide) rfl ?_
  refine g_iconst (v := 0) h dX6_flashesInAll_2 (by decide) ?_
  refine g_istore_n (loc2 := [(2, .int 0), (1, .int 0), (0, .ref (F + b))]) h dX6_flashesInAll_3 (by decide) rfl ?_
  have e2 : 0 = nI 0 := by skip; first | rfl | exact nI_0.symm | exact nI_0 | decide
  have e3 : 0 = f_flA ω b 0 := by skip; first | rfl | exact nI_0.symm | exact nI_0 | decide
  refine g_lt (ω2 := ω) (loc2 := [(2, .int (nI 0)), (1, .int (f_flA ω b 0)), (0, .ref (F + b))]) rfl (lc_i e2 (lc_i e3 rfl)) rfl ?_
  refine g_loop3 (hd := 4) ((ω b 5).toNatClampNeg) (fun j1 => Inv ω) (fun j1 => [(2, .int (nI j1)), (1, .int (f_flA ω b j1)), (0, .ref (F + b))]) (fun j1 => cel F G ω) hI (fun j1 hj7 hP5 ih6 => ?_)
  (try dsimp only)
  have iv8 := hP5
  refine g_iload_n h 0 dX6_flashesInAll_4 rfl ?_
  refine g_aload_n h 2 dX6_flashesInAll_5 rfl ?_
  refine q_6_ringCount h hb tw_150 dX6_flashesInAll_6 (fun v9 hv9 => ?_)
  refine g_icmp_ge (tgt := 30) h dX6_flashesInAll_9 (by decide) (fun c10 => ?_) (fun c10 => ?_)
  · have hN11 : j1 = ((ω b 5).toNatClampNeg) := by subst hv9; exact lp_ge (Inv_1_5 iv8 hb).1 c10 hj7
    refine g_iload_n h 1 dX6_flashesInAll_30 rfl ?_
    exact e_iret h iv8 dX6_flashesInAll_31 (by subst hv9; rw [hN11]; rfl) rfl
  · have hlt12 : j1 < ((ω b 5).toNatClampNeg) := by subst hv9; exact lp_lt (Inv_1_5 iv8 hb).1 c10 hj7
    refine g_iload_n h 1 dX6_flashesInAll_12 rfl ?_
    refine g_aload_n h 2 dX6_flashesInAll_13 rfl ?_
    refine q_6_rings h hb tw_144 dX6_flashesInAll_14 ?_
    refine g_iload_n h 0 dX6_flashesInAll_17 rfl ?_
    refine g_ra h hb (vp_j (Inv_1_5 iv8 hb) rfl hlt12) dX6_flashesInAll_18 (fun k13 ek13 hk13 => ?_)
    refine k_VN_i (st := [.int (f_flA ω b j1)]) h hX (tX5_flashes (xl X) G F ω iv8 k13 hk13) rfl ⟨kd_lt hk13, ob_6 hk13⟩ rfl miX5_flashes tw_403 (by decide) (by decide) rfl (Nat.le_of_ble_eq_true rfl) (by rw [hX]; exact Nat.zero_le _) (by rw [hX]; exact Nat.zero_le _) dX6_flashesInAll_19 (fun v14 hv14 => ?_)
    refine g_iadd h dX6_flashesInAll_22 (g_name fun v15 hv15 => ?_)
    refine g_istore_n (loc2 := [(1, .int v15), (2, .int (nI j1)), (0, .ref (F + b))]) h dX6_flashesInAll_23 (by decide) rfl ?_
    obtain ⟨v16, hv16⟩ : ∃ z : Int32, z = (nI j1) + 1 := ⟨_, rfl⟩
    refine g_iinc (v := v16) (loc2 := [(2, .int v16), (1, .int v15), (0, .ref (F + b))]) h 1 dX6_flashesInAll_24 rfl (by rw [hv16]; rfl) (by decide) rfl ?_
    refine g_goto (tgt := 4) h dX6_flashesInAll_27 (by decide) ?_
    have e17 : v16 = nI (j1 + 1) := by subst hv16 hv15 hv14 ek13 hv9; first | rfl | exact nI_1 _ | (rw [nI_succ])
    have e18 : v15 = f_flA ω b (j1 + 1) := by subst hv16 hv15 hv14 ek13 hv9; rw [nI_clamp (Nat.lt_trans hlt12 (tn_lt _))]; rfl
    exact g_lt rfl (lc_i e17 (lc_i e18 rfl)) rfl (ih6 hlt12 iv8)
set_option maxHeartbeats 4000000 in
set_option maxRecDepth 100000 in
theorem tX6_tallyInAll (l0 : Launch) (G : fG) (F : Nat) (ω : fOm) (hI : Inv ω) (b : Nat) (hb : kd b = 1) (t : Int32) : CT l0 G F yX6_tallyInAll cX6_tallyInAll 4 (some .int) 2 [.ref (F + b), .int t] ω (some (.int (f_taAll ω b t))) ω := by
  refine ct_met (own := RX6) (by decide +kernel) rfl (Nat.le_of_ble_eq_true rfl) (fun X hXl hX h => ?_)
  subst hXl
  refine g_iconst (v := 0) h dX6_tallyInAll_0 (by decide) ?_
  refine g_istore_n (loc2 := [(2, .int 0), (0, .ref (F + b)), (1, .int t)]) h dX6_tallyInAll_1 (by decide) rfl ?_
  refine g_iconst (v := 0) h dX6_tallyInAll_2 (by decide) ?_
  refine g_istore_n (loc2 := [(3, .int 0), (2, .int 0), (0, .ref (F + b)), (1, .int t)]) h dX6_tallyInAll_3 (by decide) rfl ?_
  have e2 : 0 = nI 0 := by skip; first | rfl | exact nI_0.symm | exact nI_0 | decide
  have e3 : 0 = f_taA ω b t 0 := by skip; first | rfl | exact nI_0.symm | exact nI_0 | decide
  refine g_lt (ω2 := ω) (loc2 := [(3, .int (nI 0)), (2, .int (f_taA ω b t 0)), (0, .ref (F + b)), (1, .int t)]) rfl (lc_i e2 (lc_i e3 rfl)) rfl ?_
  refine g_loop3 (hd := 4) ((ω b 5).toNatClampNeg) (fun j1 => Inv ω) (fun j1 => [(3, .int (nI j1)), (2, .int (f_taA ω b t j1)), (0, .ref (F + b)), (1, .int t)]) (fun j1 => cel F G ω) hI (fun j1 hj7 hP5 ih6 => ?_)
  (try dsimp only)
  have iv8 := hP5
  refine g_iload_n h 0 dX6_tallyInAll_4 rfl ?_
  refine g_aload_n h 2 dX6_tallyInAll_5 rfl ?_
  refine q_6_ringCount h hb tw_150 dX6_tallyInAll_6 (fun v9 hv9 => ?_)
  refine g_icmp_ge (tgt := 31) h dX6_tallyInAll_9 (by decide) (fun c10 => ?_) (fun c10 => ?_)
  · have hN11 : j1 = ((ω b 5).toNatClampNeg) := by subst hv9; exact lp_ge (Inv_1_5 iv8 hb).1 c10 hj7
    refine g_iload_n h 1 dX6_tallyInAll_31 rfl ?_
    exact e_iret h iv8 dX6_tallyInAll_32 (by subst hv9; rw [hN11]; rfl) rfl
  · have hlt12 : j1 < ((ω b 5).toNatClampNeg) := by subst hv9; exact lp_lt (Inv_1_5 iv8 hb).1 c10 hj7
    refine g_iload_n h 1 dX6_tallyInAll_12 rfl ?_
    refine g_aload_n h 2 dX6_tallyInAll_13 rfl ?_
    refine q_6_rings h hb tw_144 dX6_tallyInAll_14 ?_
    refine g_iload_n h 0 dX6_tallyInAll_17 rfl ?_
    refine g_ra h hb (vp_j (Inv_1_5 iv8 hb) rfl hlt12) dX6_tallyInAll_18 (fun k13 ek13 hk13 => ?_)
    refine g_iload_n h 3 dX6_tallyInAll_19 rfl ?_
    refine k_VN_i (st := [.int (f_taA ω b t j1)]) h hX (tX5_tally (xl X) G F ω iv8 k13 hk13 t) rfl ⟨kd_lt hk13, ob_6 hk13⟩ rfl miX5_tally tw_562 (by decide) (by decide) rfl (Nat.le_of_ble_eq_true rfl) (by rw [hX]; exact Nat.zero_le _) (by rw [hX]; exact Nat.zero_le _) dX6_tallyInAll_20 (fun v14 hv14 => ?_)
    refine g_iadd h dX6_tallyInAll_23 (g_name fun v15 hv15 => ?_)
    refine g_istore_n (loc2 := [(2, .int v15), (3, .int (nI j1)), (0, .ref (F + b)), (1, .int t)]) h dX6_tallyInAll_24 (by decide) rfl ?_
    obtain ⟨v16, hv16⟩ : ∃ z : Int32, z = (nI j1) + 1 := ⟨_, rfl⟩
    refine g_iinc (v := v16) (loc2 := [(3, .int v16), (2, .int v15), (0, .ref (F + b)), (1, .int t)]) h 1 dX6_tallyInAll_25 rfl (by rw [hv16]; rfl) (by decide) rfl ?_
    refine g_goto (tgt := 4) h dX6_tallyInAll_28 (by decide) ?_
    have e17 : v16 = nI (j1 + 1) := by subst hv16 hv15 hv14 ek13 hv9; first | rfl | exact nI_1 _ | (rw [nI_succ])
    have e18 : v15 = f_taA ω b t (j1 + 1) := by subst hv16 hv15 hv14 ek13 hv9; rw [nI_clamp (Nat.lt_trans hlt12 (tn_lt _))]; rfl
    exact g_lt rfl (lc_i e17 (lc_i e18 rfl)) rfl (ih6 hlt12 iv8)
set_option maxHeartbeats 4000000 in
set_option maxRecDepth 100000 in
theorem tX6_passOne (l0 : Launch) (G : fG) (F : Nat) (ω : fOm) (hI : Inv ω) (b : Nat) (hb : kd b = 1) : CT l0 G F yX6_passOne cX6_passOne 4 none 4 [.ref (F + b)] ω none (f_passOne ω b) := by
  refine ct_met (own := RX6) (by decide +kernel) rfl (Nat.le_of_ble_eq_true rfl) (fun X hXl hX h => ?_)
  subst hXl
  refine g_iconst (v := 0) h dX6_passOne_0 (by decide) ?_
  refine g_istore_n (loc2 := [(1, .int 0), (0, .ref (F + b))]) h dX6_passOne_1 (by decide) rfl ?_
  have e2 : 0 = nI 0 := by skip; first | rfl | exact nI_0.symm | exact nI_0 | decide
  have e3 : ω = f_p1 b ω 0 := rfl
  refine g_lt (ω2 := f_p1 b ω 0) (loc2 := [(1, .int (nI 0)), (0, .ref (F + b))]) e3 (lc_i e2 rfl) rfl ?_
  refine g_loop3 (hd := 2) ((ω b 5).toNatClampNeg) (fun j1 => Inv (f_p1 b ω j1) ∧ j1 ≤ 5) (fun j1 => [(1, .int (nI j1)), (0, .ref (F + b))]) (fun j1 => cel F G (f_p1 b ω j1)) ⟨(e3 ▸ hI), (Nat.zero_le _)⟩ (fun j1 hj6 hP4 ih5 => ?_)
  (try dsimp only)
  obtain ⟨iv7, hj5⟩ := hP4
  refine g_iload_n h 0 dX6_passOne_2 rfl ?_
  refine g_aload_n h 1 dX6_passOne_3 rfl ?_
  refine q_6_ringCount h hb tw_150 dX6_passOne_4 (fun v8 hv8 => ?_)
  refine g_icmp_ge (tgt := 30) h dX6_passOne_7 (by decide) (fun c9 => ?_) (fun c9 => ?_)
  · have hN10 : j1 = ((ω b 5).toNatClampNeg) := by have hb9 := Inv_1_5 iv7 hb; subst hv8; rw [p1_b hj5] at hb9; rw [p1_b hj5] at c9; exact lp_ge hb9.1 c9 hj6
    refine g_iconst (v := 0) h dX6_passOne_30 (by decide) ?_
    refine g_istore_n (loc2 := [(1, .int 0), (0, .ref (F + b))]) h dX6_passOne_31 (by decide) rfl ?_
    have e12 : 0 = nI 0 := by subst hv8; first | rfl | exact nI_0.symm | exact nI_0 | decide
    have e13 : (f_p1 b ω j1) = f_p2 b (f_p1 b ω j1) 0 := rfl
    refine g_lt (ω2 := f_p2 b (f_p1 b ω j1) 0) (loc2 := [(1, .int (nI 0)), (0, .ref (F + b))]) e13 (lc_i e12 rfl) rfl ?_
    refine g_loop3 (hd := 32) (((f_p1 b ω j1) b 6).toNatClampNeg) (fun j11 => Inv (f_p2 b (f_p1 b ω j1) j11) ∧ j11 ≤ 12 ∧ (f_p1 b ω j1) b 5 ≤ 5) (fun j11 => [(1, .int (nI j11)), (0, .ref (F + b))]) (fun j11 => cel F G (f_p2 b (f_p1 b ω j1) j11)) ⟨(e13 ▸ iv7), (Nat.zero_le _), (by subst hv8; exact (Inv_1_5 iv7 hb).2)⟩ (fun j11 hj16 hP14 ih15 => ?_)
    (try dsimp only)
    obtain ⟨iv17, hj12, h55⟩ := hP14
    refine g_iload_n h 0 dX6_passOne_32 rfl ?_
    refine g_aload_n h 1 dX6_passOne_33 rfl ?_
    refine q_6_deviceCount h hb tw_152 dX6_passOne_34 (fun v18 hv18 => ?_)
    refine g_icmp_ge (tgt := 75) h dX6_passOne_37 (by decide) (fun c19 => ?_) (fun c19 => ?_)
    · have hN20 : j11 = (((f_p1 b ω j1) b 6).toNatClampNeg) := by have hb9 := Inv_1_6 iv17 hb; subst hv18 hv8; rw [p2_b hj12 h55] at hb9; rw [p2_b hj12 h55] at c19; exact lp_ge hb9.1 c19 hj16
      refine g_iconst (v := 0) h dX6_passOne_75 (by decide) ?_
      refine g_istore_n (loc2 := [(1, .int 0), (0, .ref (F + b))]) h dX6_passOne_76 (by decide) rfl ?_
      have e22 : 0 = nI 0 := by subst hv18 hv8; first | rfl | exact nI_0.symm | exact nI_0 | decide
      have e23 : (f_p2 b (f_p1 b ω j1) j11) = f_p3 b (f_p2 b (f_p1 b ω j1) j11) 0 := rfl
      refine g_lt (ω2 := f_p3 b (f_p2 b (f_p1 b ω j1) j11) 0) (loc2 := [(1, .int (nI 0)), (0, .ref (F + b))]) e23 (lc_i e22 rfl) rfl ?_
      refine g_loop3 (hd := 77) (((f_p2 b (f_p1 b ω j1) j11) b 7).toNatClampNeg) (fun j21 => Inv (f_p3 b (f_p2 b (f_p1 b ω j1) j11) j21) ∧ j21 ≤ 4 ∧ (f_p2 b (f_p1 b ω j1) j11) b 5 ≤ 5) (fun j21 => [(1, .int (nI j21)), (0, .ref (F + b))]) (fun j21 => cel F G (f_p3 b (f_p2 b (f_p1 b ω j1) j11) j21)) ⟨(e23 ▸ iv17), (Nat.zero_le _), (by subst hv18 hv8; exact (Inv_1_5 iv17 hb).2)⟩ (fun j21 hj26 hP24 ih25 => ?_)
      (try dsimp only)
      obtain ⟨iv27, hj4, h56⟩ := hP24
      refine g_iload_n h 0 dX6_passOne_77 rfl ?_
      refine g_aload_n h 1 dX6_passOne_78 rfl ?_
      refine q_6_joinCount h hb tw_154 dX6_passOne_79 (fun v28 hv28 => ?_)
      refine g_icmp_ge (tgt := 138) h dX6_passOne_82 (by decide) (fun c29 => ?_) (fun c29 => ?_)
      · have hN30 : j21 = (((f_p2 b (f_p1 b ω j1) j11) b 7).toNatClampNeg) := by have hb9 := Inv_1_7 iv27 hb; subst hv28 hv18 hv8; rw [p3_b hj4 h56] at hb9; rw [p3_b hj4 h56] at c29; exact lp_ge hb9.1 c29 hj26
        refine g_iconst (v := 0) h dX6_passOne_138 (by decide) ?_
        refine g_istore_n (loc2 := [(1, .int 0), (0, .ref (F + b))]) h dX6_passOne_139 (by decide) rfl ?_
        have e32 : 0 = nI 0 := by subst hv28 hv18 hv8; first | rfl | exact nI_0.symm | exact nI_0 | decide
        have e33 : (f_p3 b (f_p2 b (f_p1 b ω j1) j11) j21) = f_p4 b (f_p3 b (f_p2 b (f_p1 b ω j1) j11) j21) 0 := rfl
        refine g_lt (ω2 := f_p4 b (f_p3 b (f_p2 b (f_p1 b ω j1) j11) j21) 0) (loc2 := [(1, .int (nI 0)), (0, .ref (F + b))]) e33 (lc_i e32 rfl) rfl ?_
        refine g_loop3 (hd := 140) (((f_p3 b (f_p2 b (f_p1 b ω j1) j11) j21) b 6).toNatClampNeg) (fun j31 => Inv (f_p4 b (f_p3 b (f_p2 b (f_p1 b ω j1) j11) j21) j31) ∧ j31 ≤ 12) (fun j31 => [(1, .int (nI j31)), (0, .ref (F + b))]) (fun j31 => cel F G (f_p4 b (f_p3 b (f_p2 b (f_p1 b ω j1) j11) j21) j31)) ⟨(e33 ▸ iv27), (Nat.zero_le _)⟩ (fun j31 hj36 hP34 ih35 => ?_)
        (try dsimp only)
        obtain ⟨iv37, hjd⟩ := hP34
        refine g_iload_n h 0 dX6_passOne_140 rfl ?_
        refine g_aload_n h 1 dX6_passOne_141 rfl ?_
        refine q_6_deviceCount h hb tw_152 dX6_passOne_142 (fun v38 hv38 => ?_)
        refine g_icmp_ge (tgt := 168) h dX6_passOne_145 (by decide) (fun c39 => ?_) (fun c39 => ?_)
        · have hN40 : j31 = (((f_p3 b (f_p2 b (f_p1 b ω j1) j11) j21) b 6).toNatClampNeg) := by have hb9 := Inv_1_6 iv37 hb; subst hv38 hv28 hv18 hv8; rw [p4_b hjd] at hb9; rw [p4_b hjd] at c39; exact lp_ge hb9.1 c39 hj36
          refine g_aload_n h 1 dX6_passOne_168 rfl ?_
          refine g_dup h dX6_passOne_169 rfl ?_
          refine q_6_tick h hb tw_147 dX6_passOne_170 (fun v41 hv41 => ?_)
          refine g_iconst (v := 1) h dX6_passOne_173 (by decide) ?_
          refine g_iadd h dX6_passOne_174 (g_name fun v42 hv42 => ?_)
          refine p_6_tick h iv37 hb tw_147 dX6_passOne_175 (fun w43 hw43 iw43 => ?_)
          exact e_vret h iw43 dX6_passOne_178 (by subst hw43 hv42 hv41 hv38 hv28 hv18 hv8; rw [hN40, hN30, hN20, hN10]; rfl)
        · have hlt44 : j31 < (((f_p3 b (f_p2 b (f_p1 b ω j1) j11) j21) b 6).toNatClampNeg) := by have hb9 := Inv_1_6 iv37 hb; subst hv38 hv28 hv18 hv8; rw [p4_b hjd] at hb9; rw [p4_b hjd] at c39; exact lp_lt hb9.1 c39 hj36
          refine g_aload_n h 1 dX6_passOne_148 rfl ?_
          refine q_6_devices h hb tw_145 dX6_passOne_149 ?_
          refine g_iload_n h 0 dX6_passOne_152 rfl ?_
          refine g_da h hb (by have hb9 := Inv_1_6 iv37 hb; subst hv38 hv28 hv18 hv8; rw [p4_b hjd] at hb9; exact vp_j hb9 rfl hlt44) dX6_passOne_153 (fun k45 ek45 hk45 => ?_)
          refine g_aload_n h 1 dX6_passOne_154 rfl ?_
          refine g_iconst (v := 2) h dX6_passOne_155 (by decide) ?_
          refine k_V_i (st := [.ref (F + k45)]) h hX (tX6_setting (xl X) G F (f_p4 b (f_p3 b (f_p2 b (f_p1 b ω j1) j11) j21) j31) iv37 b hb 2) rfl ⟨kd_lt hb, ob_1 hb⟩ rfl miX6_setting tw_395 (by decide) (by decide) rfl (Nat.le_of_ble_eq_true rfl) (by rw [hX]; exact Nat.zero_le _) (by rw [hX]; exact Nat.zero_le _) dX6_passOne_156 (fun v46 hv46 => ?_)
          refine k_VN_v (st := []) h hX (tX0_rest (xl X) G F (f_p4 b (f_p3 b (f_p2 b (f_p1 b ω j1) j11) j21) j31) iv37 k45 hk45 v46) rfl ⟨kd_lt hk45, ob_9 hk45⟩ rfl miX0_rest tw_494 (by decide) (by decide) rfl (Nat.le_of_ble_eq_true rfl) (by rw [hX]; exact Nat.zero_le _) (by rw [hX]; exact Nat.zero_le _) dX6_passOne_159 (fun w47 hw47 iw47 => ?_)
          obtain ⟨v48, hv48⟩ : ∃ z : Int32, z = (nI j31) + 1 := ⟨_, rfl⟩
          refine g_iinc (v := v48) (loc2 := [(1, .int v48), (0, .ref (F + b))]) h 0 dX6_passOne_162 rfl (by rw [hv48]; rfl) (by decide) rfl ?_
          refine g_goto (tgt := 140) h dX6_passOne_165 (by decide) ?_
          have e49 : v48 = nI (j31 + 1) := by subst hv48 hw47 hv46 ek45 hv38 hv28 hv18 hv8; first | rfl | exact nI_1 _ | (rw [nI_succ])
          have e50 : w47 = f_p4 b (f_p3 b (f_p2 b (f_p1 b ω j1) j11) j21) (j31 + 1) := by subst hv48 hw47 hv46 ek45 hv38 hv28 hv18 hv8; rw [nI_clamp (Nat.lt_trans hlt44 (tn_lt _))]; rfl
          exact g_lt e50 (lc_i e49 rfl) rfl (ih35 hlt44 ⟨(e50 ▸ iw47), (by have hb9 := Inv_1_6 iv37 hb; subst hv48 hw47 hv46 ek45 hv38 hv28 hv18 hv8; rw [p4_b hjd] at hb9; have hq9 := tn_le (n := 12) hb9 rfl; omega)⟩)
      · have hlt51 : j21 < (((f_p2 b (f_p1 b ω j1) j11) b 7).toNatClampNeg) := by have hb9 := Inv_1_7 iv27 hb; subst hv28 hv18 hv8; rw [p3_b hj4 h56] at hb9; rw [p3_b hj4 h56] at c29; exact lp_lt hb9.1 c29 hj26
        refine g_aload_n h 1 dX6_passOne_85 rfl ?_
        refine g_aload_n h 1 dX6_passOne_86 rfl ?_
        refine q_6_joins h hb tw_146 dX6_passOne_87 ?_
        refine g_iload_n h 0 dX6_passOne_90 rfl ?_
        refine g_ja h hb (by have hb9 := Inv_1_7 iv27 hb; subst hv28 hv18 hv8; rw [p3_b hj4 h56] at hb9; exact vp_j hb9 rfl hlt51) dX6_passOne_91 (fun k52 ek52 hk52 => ?_)
        refine qN_2_nearRing h hk52 tw_117 dX6_passOne_92 (fun v53 hv53 => ?_)
        refine k_V_r (st := []) h hX (tX6_ringOf (xl X) G F (f_p3 b (f_p2 b (f_p1 b ω j1) j11) j21) iv27 b hb v53) rfl ⟨kd_lt hb, ob_1 hb⟩ rfl miX6_ringOf tw_322 (by decide) (by decide) rfl (Nat.le_of_ble_eq_true rfl) (by rw [hX]; exact Nat.zero_le _) (by rw [hX]; exact Nat.zero_le _) dX6_passOne_95 (fun e55 => ?_) (fun k54 e55 => ?_)
        · refine g_astore_nN (loc2 := [(2, .null), (1, .int (nI j21)), (0, .ref (F + b))]) h dX6_passOne_98 (by decide) rfl ?_
          refine g_aload_n h 2 dX6_passOne_99 rfl ?_
          refine g_aload_n h 2 dX6_passOne_100 rfl ?_
          refine q_6_joins h hb tw_146 dX6_passOne_101 ?_
          refine g_iload_n h 1 dX6_passOne_104 rfl ?_
          refine g_ja h hb (by have hb9 := Inv_1_7 iv27 hb; subst hv53 ek52 hv28 hv18 hv8; rw [p3_b hj4 h56] at hb9; exact vp_j hb9 rfl hlt51) dX6_passOne_105 (fun k56 ek56 hk56 => ?_)
          refine qN_2_farRing h hk56 tw_122 dX6_passOne_106 (fun v57 hv57 => ?_)
          refine k_V_r (st := []) h hX (tX6_ringOf (xl X) G F (f_p3 b (f_p2 b (f_p1 b ω j1) j11) j21) iv27 b hb v57) rfl ⟨kd_lt hb, ob_1 hb⟩ rfl miX6_ringOf tw_322 (by decide) (by decide) rfl (Nat.le_of_ble_eq_true rfl) (by rw [hX]; exact Nat.zero_le _) (by rw [hX]; exact Nat.zero_le _) dX6_passOne_109 (fun e59 => ?_) (fun k58 e59 => ?_)
          · refine g_astore_nN (loc2 := [(3, .null), (2, .null), (1, .int (nI j21)), (0, .ref (F + b))]) h dX6_passOne_112 (by decide) rfl ?_
            refine g_aload_nN h 1 dX6_passOne_113 rfl ?_
            refine g_ifnullN (tgt := 132) h dX6_passOne_114 (by decide) ?_
            obtain ⟨v60, hv60⟩ : ∃ z : Int32, z = (nI j21) + 1 := ⟨_, rfl⟩
            refine g_iinc (v := v60) (loc2 := [(1, .int v60), (3, .null), (2, .null), (0, .ref (F + b))]) h 2 dX6_passOne_132 rfl (by rw [hv60]; rfl) (by decide) rfl ?_
            refine g_goto (tgt := 77) h dX6_passOne_135 (by decide) ?_
            refine g_loc [0, 3] rfl ?_
            have e61 : v60 = nI (j21 + 1) := by subst hv60 hv57 ek56 hv53 ek52 hv28 hv18 hv8; first | rfl | exact nI_1 _ | (rw [nI_succ])
            have e62 : (f_p3 b (f_p2 b (f_p1 b ω j1) j11) j21) = f_p3 b (f_p2 b (f_p1 b ω j1) j11) (j21 + 1) := by subst hv60 hv57 ek56 hv53 ek52 hv28 hv18 hv8; rw [nI_clamp (Nat.lt_trans hlt51 (tn_lt _))] at *; simp only [f_p3, c9, c19, c29, e55, e59]
            exact g_lt e62 (lc_i e61 rfl) rfl (ih25 hlt51 ⟨(e62 ▸ iv27), (by have hb9 := Inv_1_7 iv27 hb; subst hv60 hv57 ek56 hv53 ek52 hv28 hv18 hv8; rw [p3_b hj4 h56] at hb9; have hq9 := tn_le (n := 4) hb9 rfl; omega), h56⟩)
          · have hk58 : kd k58 = 6 := ringOf_kd iv27 hb e59
            refine g_astore_n (loc2 := [(3, .ref (F + k58)), (2, .null), (1, .int (nI j21)), (0, .ref (F + b))]) h dX6_passOne_112 (by decide) rfl ?_
            refine g_aload_nN h 1 dX6_passOne_113 rfl ?_
            refine g_ifnullN (tgt := 132) h dX6_passOne_114 (by decide) ?_
            obtain ⟨v63, hv63⟩ : ∃ z : Int32, z = (nI j21) + 1 := ⟨_, rfl⟩
            refine g_iinc (v := v63) (loc2 := [(1, .int v63), (3, .ref (F + k58)), (2, .null), (0, .ref (F + b))]) h 2 dX6_passOne_132 rfl (by rw [hv63]; rfl) (by decide) rfl ?_
            refine g_goto (tgt := 77) h dX6_passOne_135 (by decide) ?_
            refine g_loc [0, 3] rfl ?_
            have e64 : v63 = nI (j21 + 1) := by subst hv63 hv57 ek56 hv53 ek52 hv28 hv18 hv8; first | rfl | exact nI_1 _ | (rw [nI_succ])
            have e65 : (f_p3 b (f_p2 b (f_p1 b ω j1) j11) j21) = f_p3 b (f_p2 b (f_p1 b ω j1) j11) (j21 + 1) := by subst hv63 hv57 ek56 hv53 ek52 hv28 hv18 hv8; rw [nI_clamp (Nat.lt_trans hlt51 (tn_lt _))] at *; simp only [f_p3, c9, c19, c29, e55, e59]
            exact g_lt e65 (lc_i e64 rfl) rfl (ih25 hlt51 ⟨(e65 ▸ iv27), (by have hb9 := Inv_1_7 iv27 hb; subst hv63 hv57 ek56 hv53 ek52 hv28 hv18 hv8; rw [p3_b hj4 h56] at hb9; have hq9 := tn_le (n := 4) hb9 rfl; omega), h56⟩)
        · have hk54 : kd k54 = 6 := ringOf_kd iv27 hb e55
          refine g_astore_n (loc2 := [(2, .ref (F + k54)), (1, .int (nI j21)), (0, .ref (F + b))]) h dX6_passOne_98 (by decide) rfl ?_
          refine g_aload_n h 2 dX6_passOne_99 rfl ?_
          refine g_aload_n h 2 dX6_passOne_100 rfl ?_
          refine q_6_joins h hb tw_146 dX6_passOne_101 ?_
          refine g_iload_n h 1 dX6_passOne_104 rfl ?_
          refine g_ja h hb (by have hb9 := Inv_1_7 iv27 hb; subst hv53 ek52 hv28 hv18 hv8; rw [p3_b hj4 h56] at hb9; exact vp_j hb9 rfl hlt51) dX6_passOne_105 (fun k66 ek66 hk66 => ?_)
          refine qN_2_farRing h hk66 tw_122 dX6_passOne_106 (fun v67 hv67 => ?_)
          refine k_V_r (st := []) h hX (tX6_ringOf (xl X) G F (f_p3 b (f_p2 b (f_p1 b ω j1) j11) j21) iv27 b hb v67) rfl ⟨kd_lt hb, ob_1 hb⟩ rfl miX6_ringOf tw_322 (by decide) (by decide) rfl (Nat.le_of_ble_eq_true rfl) (by rw [hX]; exact Nat.zero_le _) (by rw [hX]; exact Nat.zero_le _) dX6_passOne_109 (fun e69 => ?_) (fun k68 e69 => ?_)
          · refine g_astore_nN (loc2 := [(3, .null), (2, .ref (F + k54)), (1, .int (nI j21)), (0, .ref (F + b))]) h dX6_passOne_112 (by decide) rfl ?_
            refine g_aload_n h 1 dX6_passOne_113 rfl ?_
            refine g_ifnull h dX6_passOne_114 ?_
            refine g_aload_nN h 0 dX6_passOne_117 rfl ?_
            refine g_ifnullN (tgt := 132) h dX6_passOne_118 (by decide) ?_
            obtain ⟨v70, hv70⟩ : ∃ z : Int32, z = (nI j21) + 1 := ⟨_, rfl⟩
            refine g_iinc (v := v70) (loc2 := [(1, .int v70), (3, .null), (2, .ref (F + k54)), (0, .ref (F + b))]) h 2 dX6_passOne_132 rfl (by rw [hv70]; rfl) (by decide) rfl ?_
            refine g_goto (tgt := 77) h dX6_passOne_135 (by decide) ?_
            refine g_loc [0, 3] rfl ?_
            have e71 : v70 = nI (j21 + 1) := by subst hv70 hv67 ek66 hv53 ek52 hv28 hv18 hv8; first | rfl | exact nI_1 _ | (rw [nI_succ])
            have e72 : (f_p3 b (f_p2 b (f_p1 b ω j1) j11) j21) = f_p3 b (f_p2 b (f_p1 b ω j1) j11) (j21 + 1) := by subst hv70 hv67 ek66 hv53 ek52 hv28 hv18 hv8; rw [nI_clamp (Nat.lt_trans hlt51 (tn_lt _))] at *; simp only [f_p3, c9, c19, c29, e55, e69]
            exact g_lt e72 (lc_i e71 rfl) rfl (ih25 hlt51 ⟨(e72 ▸ iv27), (by have hb9 := Inv_1_7 iv27 hb; subst hv70 hv67 ek66 hv53 ek52 hv28 hv18 hv8; rw [p3_b hj4 h56] at hb9; have hq9 := tn_le (n := 4) hb9 rfl; omega), h56⟩)
          · have hk68 : kd k68 = 6 := ringOf_kd iv27 hb e69
            refine g_astore_n (loc2 := [(3, .ref (F + k68)), (2, .ref (F + k54)), (1, .int (nI j21)), (0, .ref (F + b))]) h dX6_passOne_112 (by decide) rfl ?_
            refine g_aload_n h 1 dX6_passOne_113 rfl ?_
            refine g_ifnull h dX6_passOne_114 ?_
            refine g_aload_n h 0 dX6_passOne_117 rfl ?_
            refine g_ifnull h dX6_passOne_118 ?_
            refine g_aload_n h 3 dX6_passOne_121 rfl ?_
            refine q_6_joins h hb tw_146 dX6_passOne_122 ?_
            refine g_iload_n h 2 dX6_passOne_125 rfl ?_
            refine g_ja h hb (by have hb9 := Inv_1_7 iv27 hb; subst hv67 ek66 hv53 ek52 hv28 hv18 hv8; rw [p3_b hj4 h56] at hb9; exact vp_j hb9 rfl hlt51) dX6_passOne_126 (fun k73 ek73 hk73 => ?_)
            refine g_aload_n h 1 dX6_passOne_127 rfl ?_
            refine g_aload_n h 0 dX6_passOne_128 rfl ?_
            refine k_VN_v (st := []) h hX (tX2_actOn (xl X) G F (f_p3 b (f_p2 b (f_p1 b ω j1) j11) j21) iv27 k73 hk73 k54 hk54 k68 hk68) rfl ⟨kd_lt hk73, ob_11 hk73⟩ rfl miX2_actOn tw_481 (by decide) (by decide) rfl (Nat.le_of_ble_eq_true rfl) (by rw [hX]; exact Nat.zero_le _) (by rw [hX]; exact Nat.zero_le _) dX6_passOne_129 (fun w74 hw74 iw74 => ?_)
            obtain ⟨v75, hv75⟩ : ∃ z : Int32, z = (nI j21) + 1 := ⟨_, rfl⟩
            refine g_iinc (v := v75) (loc2 := [(1, .int v75), (3, .ref (F + k68)), (2, .ref (F + k54)), (0, .ref (F + b))]) h 2 dX6_passOne_132 rfl (by rw [hv75]; rfl) (by decide) rfl ?_
            refine g_goto (tgt := 77) h dX6_passOne_135 (by decide) ?_
            refine g_loc [0, 3] rfl ?_
            have e76 : v75 = nI (j21 + 1) := by subst hv75 hw74 ek73 hv67 ek66 hv53 ek52 hv28 hv18 hv8; first | rfl | exact nI_1 _ | (rw [nI_succ])
            have e77 : w74 = f_p3 b (f_p2 b (f_p1 b ω j1) j11) (j21 + 1) := by subst hv75 hw74 ek73 hv67 ek66 hv53 ek52 hv28 hv18 hv8; rw [nI_clamp (Nat.lt_trans hlt51 (tn_lt _))] at *; simp only [f_p3, c9, c19, c29, e55, e69]
            exact g_lt e77 (lc_i e76 rfl) rfl (ih25 hlt51 ⟨(e77 ▸ iw74), (by have hb9 := Inv_1_7 iv27 hb; subst hv75 hw74 ek73 hv67 ek66 hv53 ek52 hv28 hv18 hv8; rw [p3_b hj4 h56] at hb9; have hq9 := tn_le (n := 4) hb9 rfl; omega), h56⟩)
    · have hlt78 : j11 < (((f_p1 b ω j1) b 6).toNatClampNeg) := by have hb9 := Inv_1_6 iv17 hb; subst hv18 hv8; rw [p2_b hj12 h55] at hb9; rw [p2_b hj12 h55] at c19; exact lp_lt hb9.1 c19 hj16
      refine g_aload_n h 1 dX6_passOne_40 rfl ?_
      refine g_aload_n h 1 dX6_passOne_41 rfl ?_
      refine q_6_devices h hb tw_145 dX6_passOne_42 ?_
      refine g_iload_n h 0 dX6_passOne_45 rfl ?_
      refine g_da h hb (by have hb9 := Inv_1_6 iv17 hb; subst hv18 hv8; rw [p2_b hj12 h55] at hb9; exact vp_j hb9 rfl hlt78) dX6_passOne_46 (fun k79 ek79 hk79 => ?_)
      refine qN_0_ring h hk79 tw_76 dX6_passOne_47 (fun v80 hv80 => ?_)
      refine k_V_r (st := []) h hX (tX6_ringOf (xl X) G F (f_p2 b (f_p1 b ω j1) j11) iv17 b hb v80) rfl ⟨kd_lt hb, ob_1 hb⟩ rfl miX6_ringOf tw_322 (by decide) (by decide) rfl (Nat.le_of_ble_eq_true rfl) (by rw [hX]; exact Nat.zero_le _) (by rw [hX]; exact Nat.zero_le _) dX6_passOne_50 (fun e82 => ?_) (fun k81 e82 => ?_)
      · refine g_astore_nN (loc2 := [(2, .null), (1, .int (nI j11)), (0, .ref (F + b))]) h dX6_passOne_53 (by decide) rfl ?_
        refine g_aload_nN h 0 dX6_passOne_54 rfl ?_
        refine g_ifnullN (tgt := 69) h dX6_passOne_55 (by decide) ?_
        obtain ⟨v83, hv83⟩ : ∃ z : Int32, z = (nI j11) + 1 := ⟨_, rfl⟩
        refine g_iinc (v := v83) (loc2 := [(1, .int v83), (2, .null), (0, .ref (F + b))]) h 1 dX6_passOne_69 rfl (by rw [hv83]; rfl) (by decide) rfl ?_
        refine g_goto (tgt := 32) h dX6_passOne_72 (by decide) ?_
        refine g_loc [0, 2] rfl ?_
        have e84 : v83 = nI (j11 + 1) := by subst hv83 hv80 ek79 hv18 hv8; first | rfl | exact nI_1 _ | (rw [nI_succ])
        have e85 : (f_p2 b (f_p1 b ω j1) j11) = f_p2 b (f_p1 b ω j1) (j11 + 1) := by subst hv83 hv80 ek79 hv18 hv8; rw [nI_clamp (Nat.lt_trans hlt78 (tn_lt _))] at *; simp only [f_p2, c9, c19, e82]
        exact g_lt e85 (lc_i e84 rfl) rfl (ih15 hlt78 ⟨(e85 ▸ iv17), (by have hb9 := Inv_1_6 iv17 hb; subst hv83 hv80 ek79 hv18 hv8; rw [p2_b hj12 h55] at hb9; have hq9 := tn_le (n := 12) hb9 rfl; omega), h55⟩)
      · have hk81 : kd k81 = 6 := ringOf_kd iv17 hb e82
        refine g_astore_n (loc2 := [(2, .ref (F + k81)), (1, .int (nI j11)), (0, .ref (F + b))]) h dX6_passOne_53 (by decide) rfl ?_
        refine g_aload_n h 0 dX6_passOne_54 rfl ?_
        refine g_ifnull h dX6_passOne_55 ?_
        refine g_aload_n h 2 dX6_passOne_58 rfl ?_
        refine q_6_devices h hb tw_145 dX6_passOne_59 ?_
        refine g_iload_n h 1 dX6_passOne_62 rfl ?_
        refine g_da h hb (by have hb9 := Inv_1_6 iv17 hb; subst hv80 ek79 hv18 hv8; rw [p2_b hj12 h55] at hb9; exact vp_j hb9 rfl hlt78) dX6_passOne_63 (fun k86 ek86 hk86 => ?_)
        refine g_aload_n h 0 dX6_passOne_64 rfl ?_
        refine g_aload_n h 2 dX6_passOne_65 rfl ?_
        refine k_VN_v (st := []) h hX (tX0_actOn (xl X) G F (f_p2 b (f_p1 b ω j1) j11) iv17 k86 hk86 k81 hk81 b hb) rfl ⟨kd_lt hk86, ob_9 hk86⟩ rfl miX0_actOn tw_430 (by decide) (by decide) rfl (Nat.le_of_ble_eq_true rfl) (by rw [hX]; exact Nat.zero_le _) (by rw [hX]; exact Nat.zero_le _) dX6_passOne_66 (fun w87 hw87 iw87 => ?_)
        obtain ⟨v88, hv88⟩ : ∃ z : Int32, z = (nI j11) + 1 := ⟨_, rfl⟩
        refine g_iinc (v := v88) (loc2 := [(1, .int v88), (2, .ref (F + k81)), (0, .ref (F + b))]) h 1 dX6_passOne_69 rfl (by rw [hv88]; rfl) (by decide) rfl ?_
        refine g_goto (tgt := 32) h dX6_passOne_72 (by decide) ?_
        refine g_loc [0, 2] rfl ?_
        have e89 : v88 = nI (j11 + 1) := by subst hv88 hw87 ek86 hv80 ek79 hv18 hv8; first | rfl | exact nI_1 _ | (rw [nI_succ])
        have e90 : w87 = f_p2 b (f_p1 b ω j1) (j11 + 1) := by subst hv88 hw87 ek86 hv80 ek79 hv18 hv8; rw [nI_clamp (Nat.lt_trans hlt78 (tn_lt _))] at *; simp only [f_p2, c9, c19, e82]
        exact g_lt e90 (lc_i e89 rfl) rfl (ih15 hlt78 ⟨(e90 ▸ iw87), (by have hb9 := Inv_1_6 iv17 hb; subst hv88 hw87 ek86 hv80 ek79 hv18 hv8; rw [p2_b hj12 h55] at hb9; have hq9 := tn_le (n := 12) hb9 rfl; omega), h55⟩)
  · have hlt91 : j1 < ((ω b 5).toNatClampNeg) := by have hb9 := Inv_1_5 iv7 hb; subst hv8; rw [p1_b hj5] at hb9; rw [p1_b hj5] at c9; exact lp_lt hb9.1 c9 hj6
    refine g_aload_n h 1 dX6_passOne_10 rfl ?_
    refine q_6_rings h hb tw_144 dX6_passOne_11 ?_
    refine g_iload_n h 0 dX6_passOne_14 rfl ?_
    refine g_ra h hb (by have hb9 := Inv_1_5 iv7 hb; subst hv8; rw [p1_b hj5] at hb9; exact vp_j hb9 rfl hlt91) dX6_passOne_15 (fun k92 ek92 hk92 => ?_)
    refine g_aload_n h 1 dX6_passOne_16 rfl ?_
    refine g_iconst (v := 0) h dX6_passOne_17 (by decide) ?_
    refine k_V_i (st := [.ref (F + k92)]) h hX (tX6_setting (xl X) G F (f_p1 b ω j1) iv7 b hb 0) rfl ⟨kd_lt hb, ob_1 hb⟩ rfl miX6_setting tw_395 (by decide) (by decide) rfl (Nat.le_of_ble_eq_true rfl) (by rw [hX]; exact Nat.zero_le _) (by rw [hX]; exact Nat.zero_le _) dX6_passOne_18 (fun v93 hv93 => ?_)
    refine k_VN_v (st := []) h hX (tX5_moveOn (xl X) G F (f_p1 b ω j1) iv7 k92 hk92 v93) rfl ⟨kd_lt hk92, ob_6 hk92⟩ rfl miX5_moveOn tw_419 (by decide) (by decide) rfl (Nat.le_of_ble_eq_true rfl) (by rw [hX]; exact Nat.zero_le _) (by rw [hX]; exact Nat.zero_le _) dX6_passOne_21 (fun w94 hw94 iw94 => ?_)
    obtain ⟨v95, hv95⟩ : ∃ z : Int32, z = (nI j1) + 1 := ⟨_, rfl⟩
    refine g_iinc (v := v95) (loc2 := [(1, .int v95), (0, .ref (F + b))]) h 0 dX6_passOne_24 rfl (by rw [hv95]; rfl) (by decide) rfl ?_
    refine g_goto (tgt := 2) h dX6_passOne_27 (by decide) ?_
    have e96 : v95 = nI (j1 + 1) := by subst hv95 hw94 hv93 ek92 hv8; first | rfl | exact nI_1 _ | (rw [nI_succ])
    have e97 : w94 = f_p1 b ω (j1 + 1) := by subst hv95 hw94 hv93 ek92 hv8; rw [nI_clamp (Nat.lt_trans hlt91 (tn_lt _))]; rfl
    exact g_lt e97 (lc_i e96 rfl) rfl (ih5 hlt91 ⟨(e97 ▸ iw94), (by have hb9 := Inv_1_5 iv7 hb; subst hv95 hw94 hv93 ek92 hv8; rw [p1_b hj5] at hb9; have hq9 := tn_le (n := 5) hb9 rfl; omega)⟩)
set_option maxHeartbeats 4000000 in
set_option maxRecDepth 100000 in
theorem tX6_passTicks (l0 : Launch) (G : fG) (F : Nat) (ω : fOm) (hI : Inv ω) (b : Nat) (hb : kd b = 1) (t : Int32) : CT l0 G F yX6_passTicks cX6_passTicks 3 (some .int) 5 [.ref (F + b), .int t] ω (some (.int (f_passTR ω b t))) (f_passTW ω b t) := by
  refine ct_met (own := RX6) (by decide +kernel) rfl (Nat.le_of_ble_eq_true rfl) (fun X hXl hX h => ?_)
  subst hXl
  refine g_iload_n h 1 dX6_passTicks_0 rfl ?_
  refine g_iconst (v := 1) h dX6_passTicks_1 (by decide) ?_
  refine g_sipush (v := 200) h dX6_passTicks_2 (by decide) ?_
  refine k_SN_i (st := []) h hX (tX7_isBetween (xl X) G F ω hI t 1 200) rfl miX7_isBetween tw_283 (by decide) (by decide) rfl (Nat.le_of_ble_eq_true rfl) (by rw [hX]; exact Nat.zero_le _) (by rw [hX]; exact Nat.zero_le _) dX6_passTicks_5 (fun v1 hv1 => ?_)
  refine g_if_ne (tgt := 14) h dX6_passTicks_8 (by decide) (fun c2 => ?_) (fun c2 => ?_)
  · refine g_iconst (v := 0) h dX6_passTicks_14 (by decide) ?_
    refine g_istore_n (loc2 := [(2, .int 0), (0, .ref (F + b)), (1, .int t)]) h dX6_passTicks_15 (by decide) rfl ?_
    have e4 : 0 = nI 0 := by subst hv1; first | rfl | exact nI_0.symm | exact nI_0 | decide
    have e5 : ω = f_passN b ω 0 := rfl
    refine g_lt (ω2 := f_passN b ω 0) (loc2 := [(2, .int (nI 0)), (0, .ref (F + b)), (1, .int t)]) e5 (lc_i e4 rfl) rfl ?_
    refine g_loop3 (hd := 16) (t.toNatClampNeg) (fun j3 => Inv (f_passN b ω j3)) (fun j3 => [(2, .int (nI j3)), (0, .ref (F + b)), (1, .int t)]) (fun j3 => cel F G (f_passN b ω j3)) (e5 ▸ hI) (fun j3 hj8 hP6 ih7 => ?_)
    (try dsimp only)
    have iv9 := hP6
    refine g_iload_n h 0 dX6_passTicks_16 rfl ?_
    refine g_iload_n h 2 dX6_passTicks_17 rfl ?_
    refine g_icmp_ge (tgt := 31) h dX6_passTicks_18 (by decide) (fun c10 => ?_) (fun c10 => ?_)
    · have hN11 : j3 = t.toNatClampNeg := lp_ge (btwT (by subst hv1; exact c2)) c10 hj8
      refine g_aload_n h 1 dX6_passTicks_31 rfl ?_
      refine q_6_tick h hb tw_147 dX6_passTicks_32 (fun v12 hv12 => ?_)
      exact e_iret h iv9 dX6_passTicks_35 (by subst hv12 hv1; unfold f_passTR; rw [hN11]; simp only [c2, c10, ↓reduceIte]) (by subst hv12 hv1; unfold f_passTW; rw [hN11]; simp only [c2, c10, ↓reduceIte])
    · have hlt13 : j3 < t.toNatClampNeg := lp_lt (btwT (by subst hv1; exact c2)) c10 hj8
      refine g_aload_n h 1 dX6_passTicks_21 rfl ?_
      refine k_V_v (st := []) h hX (tX6_passOne (xl X) G F (f_passN b ω j3) iv9 b hb) rfl ⟨kd_lt hb, ob_1 hb⟩ rfl miX6_passOne tw_415 (by decide) (by decide) rfl (Nat.le_of_ble_eq_true rfl) (by rw [hX]; exact Nat.zero_le _) (by rw [hX]; exact Nat.zero_le _) dX6_passTicks_22 (fun w14 hw14 iw14 => ?_)
      obtain ⟨v15, hv15⟩ : ∃ z : Int32, z = (nI j3) + 1 := ⟨_, rfl⟩
      refine g_iinc (v := v15) (loc2 := [(2, .int v15), (0, .ref (F + b)), (1, .int t)]) h 0 dX6_passTicks_25 rfl (by rw [hv15]; rfl) (by decide) rfl ?_
      refine g_goto (tgt := 16) h dX6_passTicks_28 (by decide) ?_
      have e16 : v15 = nI (j3 + 1) := by subst hv15 hw14 hv1; first | rfl | exact nI_1 _ | (rw [nI_succ])
      have e17 : w14 = f_passN b ω (j3 + 1) := by subst hv15 hw14 hv1; rfl
      exact g_lt e17 (lc_i e16 rfl) rfl (ih7 hlt13 (e17 ▸ iw14))
  · refine g_bipush (v := (-2)) h dX6_passTicks_11 (by decide) ?_
    exact e_iret h hI dX6_passTicks_13 (by subst hv1; unfold f_passTR; simp only [c2, ↓reduceIte]) (by subst hv1; unfold f_passTW; simp only [c2, ↓reduceIte])
set_option maxHeartbeats 4000000 in
set_option maxRecDepth 100000 in
theorem tX6_ticksToLoss (l0 : Launch) (G : fG) (F : Nat) (ω : fOm) (hI : Inv ω) (b : Nat) (hb : kd b = 1) (lim : Int32) (hlim : 0 ≤ lim ∧ lim ≤ 300) : CT l0 G F yX6_ticksToLoss cX6_ticksToLoss 4 (some .int) 5 [.ref (F + b), .int lim] ω (some (.int (f_tlR ω b lim))) (f_tlW ω b lim) := by
  refine ct_met (own := RX6) (by decide +kernel) rfl (Nat.le_of_ble_eq_true rfl) (fun X hXl hX h => ?_)
  subst hXl
  refine g_aload_n h 0 dX6_ticksToLoss_0 rfl ?_
  refine g_iconst (v := 1) h dX6_ticksToLoss_1 (by decide) ?_
  refine k_V_i (st := []) h hX (tX6_tallyInAll (xl X) G F ω hI b hb 1) rfl ⟨kd_lt hb, ob_1 hb⟩ rfl miX6_tallyInAll tw_581 (by decide) (by decide) rfl (Nat.le_of_ble_eq_true rfl) (by rw [hX]; exact Nat.zero_le _) (by rw [hX]; exact Nat.zero_le _) dX6_ticksToLoss_2 (fun v1 hv1 => ?_)
  refine g_istore_n (loc2 := [(2, .int v1), (0, .ref (F + b)), (1, .int lim)]) h dX6_ticksToLoss_5 (by decide) rfl ?_
  refine g_iconst (v := 1) h dX6_ticksToLoss_6 (by decide) ?_
  refine g_istore_n (loc2 := [(3, .int 1), (2, .int v1), (0, .ref (F + b)), (1, .int lim)]) h dX6_ticksToLoss_7 (by decide) rfl ?_
  have e3 : 1 = nI (0 + 1) := rfl
  have e4 : ω = f_passN b ω 0 := rfl
  refine g_lt (ω2 := f_passN b ω 0) (loc2 := [(3, .int (nI (0 + 1))), (2, .int v1), (0, .ref (F + b)), (1, .int lim)]) e4 (lc_i e3 rfl) rfl ?_
  refine g_loop3 (hd := 8) (lim.toNatClampNeg) (fun j2 => Inv (f_passN b ω j2) ∧ f_tlF b (f_taAll ω b 1) ω lim.toNatClampNeg 0 = f_tlF b (f_taAll ω b 1) ω (lim.toNatClampNeg - j2) j2) (fun j2 => [(3, .int (nI (j2 + 1))), (2, .int v1), (0, .ref (F + b)), (1, .int lim)]) (fun j2 => cel F G (f_passN b ω j2)) ⟨(e4 ▸ hI), rfl⟩ (fun j2 hj7 hP5 ih6 => ?_)
  (try dsimp only)
  obtain ⟨iv8, hP1⟩ := hP5
  refine g_iload_n h 0 dX6_ticksToLoss_8 rfl ?_
  refine g_iload_n h 3 dX6_ticksToLoss_9 rfl ?_
  refine g_icmp_gt (tgt := 34) h dX6_ticksToLoss_10 (by decide) (fun c9 => ?_) (fun c9 => ?_)
  · have hN10 : j2 = lim.toNatClampNeg := lq_ge hlim c9 hj7
    refine g_bipush (v := (-6)) h dX6_ticksToLoss_34 (by decide) ?_
    exact e_iret h iv8 dX6_ticksToLoss_36 (by subst hv1; unfold f_tlR; rw [hP1, hN10, Nat.sub_self]; rfl) (by subst hv1; unfold f_tlW; rw [hP1, hN10, Nat.sub_self]; rfl)
  · have hlt11 : j2 < lim.toNatClampNeg := lq_lt hlim c9 hj7
    refine g_aload_n h 2 dX6_ticksToLoss_13 rfl ?_
    refine k_V_v (st := []) h hX (tX6_passOne (xl X) G F (f_passN b ω j2) iv8 b hb) rfl ⟨kd_lt hb, ob_1 hb⟩ rfl miX6_passOne tw_415 (by decide) (by decide) rfl (Nat.le_of_ble_eq_true rfl) (by rw [hX]; exact Nat.zero_le _) (by rw [hX]; exact Nat.zero_le _) dX6_ticksToLoss_14 (fun w12 hw12 iw12 => ?_)
    refine g_aload_n h 2 dX6_ticksToLoss_17 rfl ?_
    refine g_iconst (v := 1) h dX6_ticksToLoss_18 (by decide) ?_
    refine k_V_i (st := []) h hX (tX6_tallyInAll (xl X) G F w12 iw12 b hb 1) rfl ⟨kd_lt hb, ob_1 hb⟩ rfl miX6_tallyInAll tw_581 (by decide) (by decide) rfl (Nat.le_of_ble_eq_true rfl) (by rw [hX]; exact Nat.zero_le _) (by rw [hX]; exact Nat.zero_le _) dX6_ticksToLoss_19 (fun v13 hv13 => ?_)
    refine g_iload_n h 1 dX6_ticksToLoss_22 rfl ?_
    refine g_icmp_le (tgt := 28) h dX6_ticksToLoss_23 (by decide) (fun c14 => ?_) (fun c14 => ?_)
    · obtain ⟨v15, hv15⟩ : ∃ z : Int32, z = (nI (j2 + 1)) + 1 := ⟨_, rfl⟩
      refine g_iinc (v := v15) (loc2 := [(3, .int v15), (2, .int v1), (0, .ref (F + b)), (1, .int lim)]) h 0 dX6_ticksToLoss_28 rfl (by rw [hv15]; rfl) (by decide) rfl ?_
      refine g_goto (tgt := 8) h dX6_ticksToLoss_31 (by decide) ?_
      have e16 : v15 = nI ((j2 + 1) + 1) := by subst hv15 hv13 hw12 hv1; exact nI_1 _
      have e17 : w12 = f_passN b ω (j2 + 1) := by subst hv15 hv13 hw12 hv1; rfl
      exact g_lt e17 (lc_i e16 rfl) rfl (ih6 hlt11 ⟨(e17 ▸ iw12), (by subst hv15 hv13 hw12 hv1; rw [hP1, show lim.toNatClampNeg - j2 = lim.toNatClampNeg - (j2 + 1) + 1 by omega, tlF_s]; exact if_pos c14)⟩)
    · refine g_iload_n h 0 dX6_ticksToLoss_26 rfl ?_
      exact e_iret h iw12 dX6_ticksToLoss_27 (by subst hv13 hw12 hv1; unfold f_tlR; rw [hP1, show lim.toNatClampNeg - j2 = lim.toNatClampNeg - (j2 + 1) + 1 by omega, tlF_s, if_neg c14]) (by subst hv13 hw12 hv1; unfold f_tlW; rw [hP1, show lim.toNatClampNeg - j2 = lim.toNatClampNeg - (j2 + 1) + 1 by omega, tlF_s, if_neg c14]; rfl)
set_option maxHeartbeats 4000000 in
set_option maxRecDepth 100000 in
theorem tX6_copyFrom (l0 : Launch) (G : fG) (F : Nat) (ω : fOm) (hI : Inv ω) (b : Nat) (hb : kd b = 1) (b2 : Nat) (hb2 : kd b2 = 1) : CT l0 G F yX6_copyFrom cX6_copyFrom 3 none 3 [.ref (F + b), .ref (F + b2)] ω none (f_scopy ω b b2) := by
  refine ct_met (own := RX6) (by decide +kernel) rfl (Nat.le_of_ble_eq_true rfl) (fun X hXl hX h => ?_)
  subst hXl
  refine g_aload_n h 1 dX6_copyFrom_0 rfl ?_
  refine q_6_settings h hb2 tw_143 dX6_copyFrom_1 ?_
  refine g_aload_n h 0 dX6_copyFrom_4 rfl ?_
  refine q_6_settings h hb tw_143 dX6_copyFrom_5 ?_
  refine k_SN_v (st := []) h hX (tX7_copyRow (xl X) G F ω hI 2 rfl (by decide) (b2 + 1) (ks_1 hb2) (b + 1) (ks_1 hb)) rfl miX7_copyRow tw_34 (by decide) (by decide) rfl (Nat.le_of_ble_eq_true rfl) (by rw [hX]; exact Nat.zero_le _) (by rw [hX]; exact Nat.zero_le _) dX6_copyFrom_8 (fun w1 hw1 iw1 => ?_)
  refine g_aload_n h 0 dX6_copyFrom_11 rfl ?_
  refine g_aload_n h 1 dX6_copyFrom_12 rfl ?_
  refine q_6_tick h hb2 tw_147 dX6_copyFrom_13 (fun v2 hv2 => ?_)
  refine p_6_tick h iw1 hb tw_147 dX6_copyFrom_16 (fun w3 hw3 iw3 => ?_)
  refine g_aload_n h 0 dX6_copyFrom_19 rfl ?_
  refine g_aload_n h 1 dX6_copyFrom_20 rfl ?_
  refine q_6_ringCount h hb2 tw_150 dX6_copyFrom_21 (fun v4 hv4 => ?_)
  refine p_6_ringCount h iw3 hb (by have hb9 := Inv_1_5 iw3 hb2; subst hv4 hw3 hv2 hw1; exact okv_1_5 hb9.1 hb9.2) tw_150 dX6_copyFrom_24 (fun w5 hw5 iw5 => ?_)
  refine g_aload_n h 0 dX6_copyFrom_27 rfl ?_
  refine g_aload_n h 1 dX6_copyFrom_28 rfl ?_
  refine q_6_deviceCount h hb2 tw_152 dX6_copyFrom_29 (fun v6 hv6 => ?_)
  refine p_6_deviceCount h iw5 hb (by have hb9 := Inv_1_6 iw5 hb2; subst hv6 hw5 hv4 hw3 hv2 hw1; exact okv_1_6 hb9.1 hb9.2) tw_152 dX6_copyFrom_32 (fun w7 hw7 iw7 => ?_)
  refine g_aload_n h 0 dX6_copyFrom_35 rfl ?_
  refine g_aload_n h 1 dX6_copyFrom_36 rfl ?_
  refine q_6_joinCount h hb2 tw_154 dX6_copyFrom_37 (fun v8 hv8 => ?_)
  refine p_6_joinCount h iw7 hb (by have hb9 := Inv_1_7 iw7 hb2; subst hv8 hw7 hv6 hw5 hv4 hw3 hv2 hw1; exact okv_1_7 hb9.1 hb9.2) tw_154 dX6_copyFrom_40 (fun w9 hw9 iw9 => ?_)
  refine g_iconst (v := 0) h dX6_copyFrom_43 (by decide) ?_
  refine g_istore_n (loc2 := [(2, .int 0), (0, .ref (F + b)), (1, .ref (F + b2))]) h dX6_copyFrom_44 (by decide) rfl ?_
  have e11 : 0 = nI 0 := by subst hw9 hv8 hw7 hv6 hw5 hv4 hw3 hv2 hw1; first | rfl | exact nI_0.symm | exact nI_0 | decide
  have e12 : w9 = f_cpR b b2 w9 0 := rfl
  refine g_lt (ω2 := f_cpR b b2 w9 0) (loc2 := [(2, .int (nI 0)), (0, .ref (F + b)), (1, .ref (F + b2))]) e12 (lc_i e11 rfl) rfl ?_
  refine g_loop3 (hd := 45) ((w9 b 5).toNatClampNeg) (fun j10 => Inv (f_cpR b b2 w9 j10) ∧ j10 ≤ 5) (fun j10 => [(2, .int (nI j10)), (0, .ref (F + b)), (1, .ref (F + b2))]) (fun j10 => cel F G (f_cpR b b2 w9 j10)) ⟨(e12 ▸ iw9), (Nat.zero_le _)⟩ (fun j10 hj15 hP13 ih14 => ?_)
  (try dsimp only)
  obtain ⟨iv16, hj5⟩ := hP13
  refine g_iload_n h 0 dX6_copyFrom_45 rfl ?_
  refine g_aload_n h 1 dX6_copyFrom_46 rfl ?_
  refine q_6_ringCount h hb tw_150 dX6_copyFrom_47 (fun v17 hv17 => ?_)
  refine g_icmp_ge (tgt := 74) h dX6_copyFrom_50 (by decide) (fun c18 => ?_) (fun c18 => ?_)
  · have hN19 : j10 = ((w9 b 5).toNatClampNeg) := by have hb9 := Inv_1_5 iv16 hb; subst hv17 hw9 hv8 hw7 hv6 hw5 hv4 hw3 hv2 hw1; rw [cpR_b hj5] at hb9; rw [cpR_b hj5] at c18; exact lp_ge hb9.1 c18 hj15
    refine g_iconst (v := 0) h dX6_copyFrom_74 (by decide) ?_
    refine g_istore_n (loc2 := [(2, .int 0), (0, .ref (F + b)), (1, .ref (F + b2))]) h dX6_copyFrom_75 (by decide) rfl ?_
    have e21 : 0 = nI 0 := by subst hv17 hw9 hv8 hw7 hv6 hw5 hv4 hw3 hv2 hw1; first | rfl | exact nI_0.symm | exact nI_0 | decide
    have e22 : (f_cpR b b2 w9 j10) = f_cpD b b2 (f_cpR b b2 w9 j10) 0 := rfl
    refine g_lt (ω2 := f_cpD b b2 (f_cpR b b2 w9 j10) 0) (loc2 := [(2, .int (nI 0)), (0, .ref (F + b)), (1, .ref (F + b2))]) e22 (lc_i e21 rfl) rfl ?_
    refine g_loop3 (hd := 76) (((f_cpR b b2 w9 j10) b 6).toNatClampNeg) (fun j20 => Inv (f_cpD b b2 (f_cpR b b2 w9 j10) j20) ∧ j20 ≤ 12) (fun j20 => [(2, .int (nI j20)), (0, .ref (F + b)), (1, .ref (F + b2))]) (fun j20 => cel F G (f_cpD b b2 (f_cpR b b2 w9 j10) j20)) ⟨(e22 ▸ iv16), (Nat.zero_le _)⟩ (fun j20 hj25 hP23 ih24 => ?_)
    (try dsimp only)
    obtain ⟨iv26, hj12⟩ := hP23
    refine g_iload_n h 0 dX6_copyFrom_76 rfl ?_
    refine g_aload_n h 1 dX6_copyFrom_77 rfl ?_
    refine q_6_deviceCount h hb tw_152 dX6_copyFrom_78 (fun v27 hv27 => ?_)
    refine g_icmp_ge (tgt := 105) h dX6_copyFrom_81 (by decide) (fun c28 => ?_) (fun c28 => ?_)
    · have hN29 : j20 = (((f_cpR b b2 w9 j10) b 6).toNatClampNeg) := by have hb9 := Inv_1_6 iv26 hb; subst hv27 hv17 hw9 hv8 hw7 hv6 hw5 hv4 hw3 hv2 hw1; rw [cpD_b hj12] at hb9; rw [cpD_b hj12] at c28; exact lp_ge hb9.1 c28 hj25
      refine g_iconst (v := 0) h dX6_copyFrom_105 (by decide) ?_
      refine g_istore_n (loc2 := [(2, .int 0), (0, .ref (F + b)), (1, .ref (F + b2))]) h dX6_copyFrom_106 (by decide) rfl ?_
      have e31 : 0 = nI 0 := by subst hv27 hv17 hw9 hv8 hw7 hv6 hw5 hv4 hw3 hv2 hw1; first | rfl | exact nI_0.symm | exact nI_0 | decide
      have e32 : (f_cpD b b2 (f_cpR b b2 w9 j10) j20) = f_cpJ b b2 (f_cpD b b2 (f_cpR b b2 w9 j10) j20) 0 := rfl
      refine g_lt (ω2 := f_cpJ b b2 (f_cpD b b2 (f_cpR b b2 w9 j10) j20) 0) (loc2 := [(2, .int (nI 0)), (0, .ref (F + b)), (1, .ref (F + b2))]) e32 (lc_i e31 rfl) rfl ?_
      refine g_loop3 (hd := 107) (((f_cpD b b2 (f_cpR b b2 w9 j10) j20) b 7).toNatClampNeg) (fun j30 => Inv (f_cpJ b b2 (f_cpD b b2 (f_cpR b b2 w9 j10) j20) j30) ∧ j30 ≤ 4) (fun j30 => [(2, .int (nI j30)), (0, .ref (F + b)), (1, .ref (F + b2))]) (fun j30 => cel F G (f_cpJ b b2 (f_cpD b b2 (f_cpR b b2 w9 j10) j20) j30)) ⟨(e32 ▸ iv26), (Nat.zero_le _)⟩ (fun j30 hj35 hP33 ih34 => ?_)
      (try dsimp only)
      obtain ⟨iv36, hj4⟩ := hP33
      refine g_iload_n h 0 dX6_copyFrom_107 rfl ?_
      refine g_aload_n h 1 dX6_copyFrom_108 rfl ?_
      refine q_6_joinCount h hb tw_154 dX6_copyFrom_109 (fun v37 hv37 => ?_)
      refine g_icmp_ge (tgt := 136) h dX6_copyFrom_112 (by decide) (fun c38 => ?_) (fun c38 => ?_)
      · have hN39 : j30 = (((f_cpD b b2 (f_cpR b b2 w9 j10) j20) b 7).toNatClampNeg) := by have hb9 := Inv_1_7 iv36 hb; subst hv37 hv27 hv17 hw9 hv8 hw7 hv6 hw5 hv4 hw3 hv2 hw1; rw [cpJ_b hj4] at hb9; rw [cpJ_b hj4] at c38; exact lp_ge hb9.1 c38 hj35
        exact e_vret h iv36 dX6_copyFrom_136 (by subst hv37 hv27 hv17 hw9 hv8 hw7 hv6 hw5 hv4 hw3 hv2 hw1; rw [hN39, hN29, hN19]; rfl)
      · have hlt40 : j30 < (((f_cpD b b2 (f_cpR b b2 w9 j10) j20) b 7).toNatClampNeg) := by have hb9 := Inv_1_7 iv36 hb; subst hv37 hv27 hv17 hw9 hv8 hw7 hv6 hw5 hv4 hw3 hv2 hw1; rw [cpJ_b hj4] at hb9; rw [cpJ_b hj4] at c38; exact lp_lt hb9.1 c38 hj35
        refine g_aload_n h 1 dX6_copyFrom_115 rfl ?_
        refine q_6_joins h hb tw_146 dX6_copyFrom_116 ?_
        refine g_iload_n h 0 dX6_copyFrom_119 rfl ?_
        refine g_ja h hb (by have hb9 := Inv_1_7 iv36 hb; subst hv37 hv27 hv17 hw9 hv8 hw7 hv6 hw5 hv4 hw3 hv2 hw1; rw [cpJ_b hj4] at hb9; exact vp_j hb9 rfl hlt40) dX6_copyFrom_120 (fun k41 ek41 hk41 => ?_)
        refine g_aload_n h 2 dX6_copyFrom_121 rfl ?_
        refine q_6_joins h hb2 tw_146 dX6_copyFrom_122 ?_
        refine g_iload_n h 0 dX6_copyFrom_125 rfl ?_
        refine g_ja h hb2 (by have hb9 := Inv_1_7 iv36 hb; subst ek41 hv37 hv27 hv17 hw9 hv8 hw7 hv6 hw5 hv4 hw3 hv2 hw1; rw [cpJ_b hj4] at hb9; exact vp_j hb9 rfl hlt40) dX6_copyFrom_126 (fun k42 ek42 hk42 => ?_)
        refine k_VN_v (st := []) h hX (tX2_copyFrom (xl X) G F (f_cpJ b b2 (f_cpD b b2 (f_cpR b b2 w9 j10) j20) j30) iv36 k41 hk41 k42 hk42) rfl ⟨kd_lt hk41, ob_11 hk41⟩ rfl miX2_copyFrom tw_275 (by decide) (by decide) rfl (Nat.le_of_ble_eq_true rfl) (by rw [hX]; exact Nat.zero_le _) (by rw [hX]; exact Nat.zero_le _) dX6_copyFrom_127 (fun w43 hw43 iw43 => ?_)
        obtain ⟨v44, hv44⟩ : ∃ z : Int32, z = (nI j30) + 1 := ⟨_, rfl⟩
        refine g_iinc (v := v44) (loc2 := [(2, .int v44), (0, .ref (F + b)), (1, .ref (F + b2))]) h 0 dX6_copyFrom_130 rfl (by rw [hv44]; rfl) (by decide) rfl ?_
        refine g_goto (tgt := 107) h dX6_copyFrom_133 (by decide) ?_
        have e45 : v44 = nI (j30 + 1) := by subst hv44 hw43 ek42 ek41 hv37 hv27 hv17 hw9 hv8 hw7 hv6 hw5 hv4 hw3 hv2 hw1; first | rfl | exact nI_1 _ | (rw [nI_succ])
        have e46 : w43 = f_cpJ b b2 (f_cpD b b2 (f_cpR b b2 w9 j10) j20) (j30 + 1) := by subst hv44 hw43 ek42 ek41 hv37 hv27 hv17 hw9 hv8 hw7 hv6 hw5 hv4 hw3 hv2 hw1; rw [nI_clamp (Nat.lt_trans hlt40 (tn_lt _))]; rfl
        exact g_lt e46 (lc_i e45 rfl) rfl (ih34 hlt40 ⟨(e46 ▸ iw43), (by have hb9 := Inv_1_7 iv36 hb; subst hv44 hw43 ek42 ek41 hv37 hv27 hv17 hw9 hv8 hw7 hv6 hw5 hv4 hw3 hv2 hw1; rw [cpJ_b hj4] at hb9; have hq9 := tn_le (n := 4) hb9 rfl; omega)⟩)
    · have hlt47 : j20 < (((f_cpR b b2 w9 j10) b 6).toNatClampNeg) := by have hb9 := Inv_1_6 iv26 hb; subst hv27 hv17 hw9 hv8 hw7 hv6 hw5 hv4 hw3 hv2 hw1; rw [cpD_b hj12] at hb9; rw [cpD_b hj12] at c28; exact lp_lt hb9.1 c28 hj25
      refine g_aload_n h 1 dX6_copyFrom_84 rfl ?_
      refine q_6_devices h hb tw_145 dX6_copyFrom_85 ?_
      refine g_iload_n h 0 dX6_copyFrom_88 rfl ?_
      refine g_da h hb (by have hb9 := Inv_1_6 iv26 hb; subst hv27 hv17 hw9 hv8 hw7 hv6 hw5 hv4 hw3 hv2 hw1; rw [cpD_b hj12] at hb9; exact vp_j hb9 rfl hlt47) dX6_copyFrom_89 (fun k48 ek48 hk48 => ?_)
      refine g_aload_n h 2 dX6_copyFrom_90 rfl ?_
      refine q_6_devices h hb2 tw_145 dX6_copyFrom_91 ?_
      refine g_iload_n h 0 dX6_copyFrom_94 rfl ?_
      refine g_da h hb2 (by have hb9 := Inv_1_6 iv26 hb; subst ek48 hv27 hv17 hw9 hv8 hw7 hv6 hw5 hv4 hw3 hv2 hw1; rw [cpD_b hj12] at hb9; exact vp_j hb9 rfl hlt47) dX6_copyFrom_95 (fun k49 ek49 hk49 => ?_)
      refine k_VN_v (st := []) h hX (tX0_copyFrom (xl X) G F (f_cpD b b2 (f_cpR b b2 w9 j10) j20) iv26 k48 hk48 k49 hk49) rfl ⟨kd_lt hk48, ob_9 hk48⟩ rfl miX0_copyFrom tw_270 (by decide) (by decide) rfl (Nat.le_of_ble_eq_true rfl) (by rw [hX]; exact Nat.zero_le _) (by rw [hX]; exact Nat.zero_le _) dX6_copyFrom_96 (fun w50 hw50 iw50 => ?_)
      obtain ⟨v51, hv51⟩ : ∃ z : Int32, z = (nI j20) + 1 := ⟨_, rfl⟩
      refine g_iinc (v := v51) (loc2 := [(2, .int v51), (0, .ref (F + b)), (1, .ref (F + b2))]) h 0 dX6_copyFrom_99 rfl (by rw [hv51]; rfl) (by decide) rfl ?_
      refine g_goto (tgt := 76) h dX6_copyFrom_102 (by decide) ?_
      have e52 : v51 = nI (j20 + 1) := by subst hv51 hw50 ek49 ek48 hv27 hv17 hw9 hv8 hw7 hv6 hw5 hv4 hw3 hv2 hw1; first | rfl | exact nI_1 _ | (rw [nI_succ])
      have e53 : w50 = f_cpD b b2 (f_cpR b b2 w9 j10) (j20 + 1) := by subst hv51 hw50 ek49 ek48 hv27 hv17 hw9 hv8 hw7 hv6 hw5 hv4 hw3 hv2 hw1; rw [nI_clamp (Nat.lt_trans hlt47 (tn_lt _))]; rfl
      exact g_lt e53 (lc_i e52 rfl) rfl (ih24 hlt47 ⟨(e53 ▸ iw50), (by have hb9 := Inv_1_6 iv26 hb; subst hv51 hw50 ek49 ek48 hv27 hv17 hw9 hv8 hw7 hv6 hw5 hv4 hw3 hv2 hw1; rw [cpD_b hj12] at hb9; have hq9 := tn_le (n := 12) hb9 rfl; omega)⟩)
  · have hlt54 : j10 < ((w9 b 5).toNatClampNeg) := by have hb9 := Inv_1_5 iv16 hb; subst hv17 hw9 hv8 hw7 hv6 hw5 hv4 hw3 hv2 hw1; rw [cpR_b hj5] at hb9; rw [cpR_b hj5] at c18; exact lp_lt hb9.1 c18 hj15
    refine g_aload_n h 1 dX6_copyFrom_53 rfl ?_
    refine q_6_rings h hb tw_144 dX6_copyFrom_54 ?_
    refine g_iload_n h 0 dX6_copyFrom_57 rfl ?_
    refine g_ra h hb (by have hb9 := Inv_1_5 iv16 hb; subst hv17 hw9 hv8 hw7 hv6 hw5 hv4 hw3 hv2 hw1; rw [cpR_b hj5] at hb9; exact vp_j hb9 rfl hlt54) dX6_copyFrom_58 (fun k55 ek55 hk55 => ?_)
    refine g_aload_n h 2 dX6_copyFrom_59 rfl ?_
    refine q_6_rings h hb2 tw_144 dX6_copyFrom_60 ?_
    refine g_iload_n h 0 dX6_copyFrom_63 rfl ?_
    refine g_ra h hb2 (by have hb9 := Inv_1_5 iv16 hb; subst ek55 hv17 hw9 hv8 hw7 hv6 hw5 hv4 hw3 hv2 hw1; rw [cpR_b hj5] at hb9; exact vp_j hb9 rfl hlt54) dX6_copyFrom_64 (fun k56 ek56 hk56 => ?_)
    refine k_VN_v (st := []) h hX (tX5_copyFrom (xl X) G F (f_cpR b b2 w9 j10) iv16 k55 hk55 k56 hk56) rfl ⟨kd_lt hk55, ob_6 hk55⟩ rfl miX5_copyFrom tw_265 (by decide) (by decide) rfl (Nat.le_of_ble_eq_true rfl) (by rw [hX]; exact Nat.zero_le _) (by rw [hX]; exact Nat.zero_le _) dX6_copyFrom_65 (fun w57 hw57 iw57 => ?_)
    obtain ⟨v58, hv58⟩ : ∃ z : Int32, z = (nI j10) + 1 := ⟨_, rfl⟩
    refine g_iinc (v := v58) (loc2 := [(2, .int v58), (0, .ref (F + b)), (1, .ref (F + b2))]) h 0 dX6_copyFrom_68 rfl (by rw [hv58]; rfl) (by decide) rfl ?_
    refine g_goto (tgt := 45) h dX6_copyFrom_71 (by decide) ?_
    have e59 : v58 = nI (j10 + 1) := by subst hv58 hw57 ek56 ek55 hv17 hw9 hv8 hw7 hv6 hw5 hv4 hw3 hv2 hw1; first | rfl | exact nI_1 _ | (rw [nI_succ])
    have e60 : w57 = f_cpR b b2 w9 (j10 + 1) := by subst hv58 hw57 ek56 ek55 hv17 hw9 hv8 hw7 hv6 hw5 hv4 hw3 hv2 hw1; rw [nI_clamp (Nat.lt_trans hlt54 (tn_lt _))]; rfl
    exact g_lt e60 (lc_i e59 rfl) rfl (ih14 hlt54 ⟨(e60 ▸ iw57), (by have hb9 := Inv_1_5 iv16 hb; subst hv58 hw57 ek56 ek55 hv17 hw9 hv8 hw7 hv6 hw5 hv4 hw3 hv2 hw1; rw [cpR_b hj5] at hb9; have hq9 := tn_le (n := 5) hb9 rfl; omega)⟩)
