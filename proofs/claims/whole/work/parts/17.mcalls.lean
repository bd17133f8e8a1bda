/-! ===== the reference's calls ===== -/
def m_hi (s : Int32) : Int32 := if s = 0 then 50 else if s = 3 then 1000 else 200
def m_setC (s v : Int32) : Int32 := if f_btw s 0 3 = 0 then 0 else if f_btw v (if s = 3 then 100 else 0) (m_hi s) = 0 then 0 else 1
def m_set (ω : fOm) (s v : Int32) : Int32 × fOm := if f_btw s 0 3 = 0 then (-2, ω) else if f_btw v (if s = 3 then 100 else 0) (m_hi s) = 0 then (-2, ω) else (m_keep ω 648 s.toNatClampNeg, wu (m_keep ω) 648 s.toNatClampNeg v)
def m_loopW (w : fOm) (pl : Int32) : fOm :=
  let w1 := wu w 648 (8 + 6 * w 648 5 + 0 : Int32).toNatClampNeg pl
  wu w1 648 5 (w1 648 5 + 1)
def m_loop (ω : fOm) (pl : Int32) : Int32 × fOm := if f_btw pl 4 32 = 0 then (-2, ω) else if ω 648 5 = 5 then (-4, ω) else (m_loopW (m_keep ω) pl 648 5 - 1, m_loopW (m_keep ω) pl)
def m_make (w : fOm) (l p k o t : Int32) : fOm :=
  let d := w 648 6
  let w7 := wu (wu (wu (wu (wu (wu (wu w 648 (iD d 0) k) 648 (iD d 1) l) 648 (iD d 2) p) 648 (iD d 3) o) 648 (iD d 4) t) 648 (iD d 5) (if k = 0 then t else 0)) 648 (iD d 6) 0
  wu w7 648 6 (w7 648 6 + 1)
def m_dev (ω : fOm) (l p k o t : Int32) : Int32 × fOm := if m_isP ω l p = 0 then (-1, ω) else if f_fits k o t = 0 then (-2, ω) else if ω 648 6 = 12 then (-4, ω) else (m_make (m_keep ω) l p k o t 648 6 - 1, m_make (m_keep ω) l p k o t)
def m_joinW (w : fOm) (l p l2 p2 : Int32) : fOm :=
  let j := 266 + 6 * w 648 7
  let w6 := wu (wu (wu (wu (wu (wu w 648 j.toNatClampNeg l) 648 (j + 1).toNatClampNeg p) 648 (j + 2).toNatClampNeg l2) 648 (j + 3).toNatClampNeg p2) 648 (j + 4).toNatClampNeg 0) 648 (j + 5).toNatClampNeg 0
  wu w6 648 7 (w6 648 7 + 1)
def m_join (ω : fOm) (l p l2 p2 : Int32) : Int32 × fOm := if m_isP ω l p = 0 then (-1, ω) else if m_isP ω l2 p2 = 0 then (-1, ω) else if l = l2 then (-2, ω) else if ω 648 7 = 4 then (-4, ω) else (m_joinW (m_keep ω) l p l2 p2 648 7 - 1, m_joinW (m_keep ω) l p l2 p2)
def m_tT (ω : fOm) (j m b : Int32) : Int32 × fOm := if f_btw j 0 (ω 648 7 - 1) = 0 then (-1, ω) else if f_btw m 0 2 = 0 then (-2, ω) else (m_kIf ω b 648 (iJ j 4), wu (m_kIf ω b) 648 (iJ j 4) m)
def m_feW (w : fOm) (d v : Int32) : fOm :=
  let w1 := wu w 648 (iD d (7 + w 648 (iD d 5))) v
  wu w1 648 (iD d 5) (w1 648 (iD d 5) + 1)
def m_tF (ω : fOm) (d v b : Int32) : Int32 × fOm := if f_btw d 0 (ω 648 6 - 1) = 0 then (-1, ω) else if ω 648 (iD d 0) = 2 then (if f_isV v = 0 then (-2, ω) else if ω 648 (iD d 5) = 12 then (-4, ω) else (m_feW (m_kIf ω b) d v 648 (iD d 5), m_feW (m_kIf ω b) d v)) else (-1, ω)
def m_fl (ω : fOm) (l : Int32) : Nat → Int32
  | 0 => 0
  | j + 1 => m_fl ω l j + (if ω 648 (mc l (nI j)).toNatClampNeg < 0 then 0 else 1)
def m_flashes (ω : fOm) (l : Int32) : Int32 := m_fl ω l (ω 648 (iL l 0)).toNatClampNeg
def m_tL (ω : fOm) (l p v b : Int32) : Int32 × fOm := if m_isP ω l p = 0 then (-1, ω) else if f_isV v = 0 then (-2, ω) else if ω 648 (mc l p).toNatClampNeg < 0 then (m_flashes (m_shine (m_kIf ω b) l (mc l p) v) l, m_shine (m_kIf ω b) l (mc l p) v) else (-5, ω)
def m_tK (ω : fOm) (t b : Int32) : Int32 × fOm := if f_btw t 1 200 = 0 then (-2, ω) else (m_pN (m_kIf ω b) t.toNatClampNeg 648 4, m_pN (m_kIf ω b) t.toNatClampNeg)
def m_at (ω : fOm) (l p wh : Int32) : Int32 := if m_isP ω l p = 0 then (-1) else if wh = 0 then ω 648 (mc l p + wh).toNatClampNeg else if wh = 1 then ω 648 (mc l p + wh).toNatClampNeg else if wh = 2 then (if ω 648 (mc l p).toNatClampNeg < 0 then (-6) else ω 648 4 - ω 648 (mc l p + 2).toNatClampNeg) else if wh = 3 then ω 648 (iL l 0) - p else (-2)
def m_sm (ω : fOm) (l : Int32) : Nat → Int32
  | 0 => 0
  | j + 1 => m_sm ω l j + ω 648 (mc l (nI j) + 1).toNatClampNeg
def m_strengths (ω : fOm) (l : Int32) : Int32 := m_sm ω l (ω 648 (iL l 0)).toNatClampNeg
def m_fn (ω : fOm) (l : Int32) : Nat → Int32
  | 0 => 0
  | j + 1 => if ω 648 (mc l (nI j) + 1).toNatClampNeg ≤ 0 then m_fn ω l j else if m_fn ω l j = 0 then ω 648 (mc l (nI j) + 1).toNatClampNeg else if m_fn ω l j ≤ ω 648 (mc l (nI j) + 1).toNatClampNeg then m_fn ω l j else ω 648 (mc l (nI j) + 1).toNatClampNeg
def m_faintest (ω : fOm) (l : Int32) : Int32 := m_fn ω l (ω 648 (iL l 0)).toNatClampNeg
def m_ofLoop (ω : fOm) (l wh : Int32) : Int32 := if f_btw l 0 (ω 648 5 - 1) = 0 then (-1) else if wh = 0 then ω 648 (iL l 0) else if wh = 1 then m_flashes ω l else if wh = 2 then m_strengths ω l else if wh = 3 then m_faintest ω l else if f_btw wh 4 8 = 0 then (-2) else ω 648 (iL l (wh - 3))
def m_ofDev (ω : fOm) (d wh : Int32) : Int32 := if f_btw d 0 (ω 648 6 - 1) = 0 then (-1) else if f_btw wh 0 6 = 0 then (-2) else ω 648 (iD d wh)
def m_noted (ω : fOm) (d b : Int32) : Int32 := if f_btw d 0 (ω 648 6 - 1) = 0 then (-1) else if ω 648 (iD d 0) = 1 then (if f_btw b 0 (ω 648 (iD d 5) - 1) = 0 then (-6) else ω 648 (iD d (7 + b))) else (-1)
def m_ofJoin (ω : fOm) (j wh : Int32) : Int32 := if f_btw j 0 (ω 648 7 - 1) = 0 then (-1) else if f_btw wh 0 5 = 0 then (-2) else ω 648 (iJ j wh)
def m_fi1 (ω : fOm) (v wh l : Int32) (t : Int32 × Int32) : Nat → Int32 × Int32
  | 0 => t
  | j + 1 => if ω 648 (mc l (nI j)).toNatClampNeg = v then (if (m_fi1 ω v wh l t j).2 = 0 then (if wh = 0 then l else nI j) else (m_fi1 ω v wh l t j).1, (m_fi1 ω v wh l t j).2 + 1) else m_fi1 ω v wh l t j
def m_fi2 (ω : fOm) (v wh : Int32) : Nat → Int32 × Int32
  | 0 => (-6, 0)
  | j + 1 => m_fi1 ω v wh (nI j) (m_fi2 ω v wh j) (ω 648 (iL (nI j) 0)).toNatClampNeg
theorem mfi1_p {ω : fOm} {v wh l : Int32} {t : Int32 × Int32} {j : Nat} (h : ω 648 (mc l (nI j)).toNatClampNeg = v) : m_fi1 ω v wh l t (j + 1) = (if (m_fi1 ω v wh l t j).2 = 0 then (if wh = 0 then l else nI j) else (m_fi1 ω v wh l t j).1, (m_fi1 ω v wh l t j).2 + 1) := if_pos h
theorem mfi1_n {ω : fOm} {v wh l : Int32} {t : Int32 × Int32} {j : Nat} (h : ¬ ω 648 (mc l (nI j)).toNatClampNeg = v) : m_fi1 ω v wh l t (j + 1) = m_fi1 ω v wh l t j := if_neg h
def m_find (ω : fOm) (v wh : Int32) : Int32 := if f_isV v = 0 then (-2) else if f_btw wh 0 2 = 0 then (-2) else if (m_fi2 ω v wh (ω 648 5).toNatClampNeg).2 = 0 then (m_fi2 ω v wh (ω 648 5).toNatClampNeg).1 else if 2 ≤ wh then (m_fi2 ω v wh (ω 648 5).toNatClampNeg).2 else (m_fi2 ω v wh (ω 648 5).toNatClampNeg).1
def m_su (ω : fOm) (wh : Int32) : Nat → Int32
  | 0 => 0
  | j + 1 => m_su ω wh j + (if wh = 0 then m_flashes ω (nI j) else ω 648 (iL (nI j) wh))
def m_sum (ω : fOm) (wh : Int32) : Int32 := m_su ω wh (ω 648 5).toNatClampNeg
def m_count (ω : fOm) (wh : Int32) : Int32 := if f_btw wh 0 3 = 0 then (if f_btw wh 4 7 = 0 then (if f_btw wh 8 11 = 0 then (if wh = 12 then ω 647 8 else if wh = 13 then ω 647 3 else (-2)) else ω 648 (wh - 8).toNatClampNeg) else m_sum ω (wh - 4)) else ω 648 (4 + wh).toNatClampNeg
def m_valIn (ω : fOm) (l p t : Int32) : Int32 × fOm := if m_isP ω l p = 0 then (-1, ω) else if f_btw t 1 200 = 0 then (-2, ω) else (m_pN (m_aside ω) t.toNatClampNeg 648 (mc l p).toNatClampNeg, m_back (m_pN (m_aside ω) t.toNatClampNeg))
def m_left (ω : fOm) (t : Int32) : Int32 × fOm := if f_btw t 1 200 = 0 then (-2, ω) else (m_sum (m_pN (m_aside ω) t.toNatClampNeg) 0, m_back (m_pN (m_aside ω) t.toNatClampNeg))
def m_lwF (had : Int32) (w : fOm) : Nat → Nat → Nat
  | 0, j => j
  | n + 1, j => if m_sum (m_pN w j) 2 = had then m_lwF had w n (j + 1) else j
theorem lwF_s {had : Int32} {w : fOm} {n j : Nat} : m_lwF had w (n + 1) j = if m_sum (m_pN w j) 2 = had then m_lwF had w n (j + 1) else j := rfl
def m_lwN (ω : fOm) (t : Int32) : Nat := m_lwF (m_sum (m_aside ω) 2) (m_aside ω) (t.toNatClampNeg + 1) 0
def m_lwW (ω : fOm) (t : Int32) : fOm := m_back (m_pN (m_aside ω) (m_lwN ω t))
theorem lw_a {ω : fOm} {t : Int32} {j : Nat} (hP : m_lwN ω t = m_lwF (m_sum (m_aside ω) 2) (m_aside ω) (t.toNatClampNeg + 1 - j) j) (h : j = t.toNatClampNeg + 1) : m_lwN ω t = j := by
  rw [hP, show t.toNatClampNeg + 1 - j = 0 by omega]
  rfl
theorem lw_b {ω : fOm} {t : Int32} {j : Nat} (hP : m_lwN ω t = m_lwF (m_sum (m_aside ω) 2) (m_aside ω) (t.toNatClampNeg + 1 - j) j) (h : j < t.toNatClampNeg + 1) (c : ¬ m_sum (m_pN (m_aside ω) j) 2 = m_sum (m_aside ω) 2) : m_lwN ω t = j := by rw [hP, sub_s h, lwF_s, if_neg c]
theorem lw_c {ω : fOm} {t : Int32} {j : Nat} (hP : m_lwN ω t = m_lwF (m_sum (m_aside ω) 2) (m_aside ω) (t.toNatClampNeg + 1 - j) j) (h : j < t.toNatClampNeg + 1) (c : m_sum (m_pN (m_aside ω) j) 2 = m_sum (m_aside ω) 2) : m_lwN ω t = m_lwF (m_sum (m_aside ω) 2) (m_aside ω) (t.toNatClampNeg + 1 - (j + 1)) (j + 1) := by rw [hP, sub_s h, lwF_s, if_pos c]
theorem lw_ge {t : Int32} {j : Nat} (ht : 0 ≤ t ∧ t ≤ 300) (c : t < nI j) (hj : j ≤ t.toNatClampNeg + 1) : j = t.toNatClampNeg + 1 := by
  have h2 := tn_le (n := 300) ht rfl
  have h1 := Int32.lt_iff_toInt_lt.mp c
  rw [nI_toInt (by omega), tn_toInt ht.1] at h1
  omega
theorem lw_lt {t : Int32} {j : Nat} (ht : 0 ≤ t ∧ t ≤ 300) (c : ¬ t < nI j) (hj : j ≤ t.toNatClampNeg + 1) : j < t.toNatClampNeg + 1 := by
  have h2 := tn_le (n := 300) ht rfl
  have h1 := Int32.le_iff_toInt_le.mp (Int32.not_lt.mp c)
  rw [nI_toInt (by omega), tn_toInt ht.1] at h1
  omega
def m_first (ω : fOm) : Int32 := if nI (m_lwN ω 300) ≤ 300 then nI (m_lwN ω 300) else (-6)
def m_bpS (l g s : Int32) (w : fOm) (p : Int32) : fOm := m_pN (m_make (m_aside w) l p 0 g s) (100 : Int32).toNatClampNeg
def m_bp (l g s : Int32) (ω : fOm) : Nat → Int32 × Int32 × fOm
  | 0 => (-6, 0, ω)
  | j + 1 => (if (m_bp l g s ω j).1 < 0 then nI j else if m_sum (m_bpS l g s (m_bp l g s ω j).2.2 (nI j)) 0 ≤ (m_bp l g s ω j).2.1 then (m_bp l g s ω j).1 else nI j, if (m_bp l g s ω j).1 < 0 then m_sum (m_bpS l g s (m_bp l g s ω j).2.2 (nI j)) 0 else if m_sum (m_bpS l g s (m_bp l g s ω j).2.2 (nI j)) 0 ≤ (m_bp l g s ω j).2.1 then (m_bp l g s ω j).2.1 else m_sum (m_bpS l g s (m_bp l g s ω j).2.2 (nI j)) 0, m_back (m_bpS l g s (m_bp l g s ω j).2.2 (nI j)))
def m_best (ω : fOm) (l g s wh : Int32) : Int32 × fOm := if f_btw l 0 (ω 648 5 - 1) = 0 then (-1, ω) else if f_btw g 1 500 = 0 then (-2, ω) else if f_btw s 1 2000 = 0 then (-2, ω) else if f_btw wh 0 1 = 0 then (-2, ω) else if ω 648 6 = 12 then (-4, ω) else
  (if wh = 0 then (m_bp l g s ω (ω 648 (iL l 0)).toNatClampNeg).1 else (m_bp l g s ω (ω 648 (iL l 0)).toNatClampNeg).2.1, (m_bp l g s ω (ω 648 (iL l 0)).toNatClampNeg).2.2)
def m_beW (w : fOm) (j : Nat) : fOm := m_lwW (wu w 648 0 (50 - nI j)) 100
def m_beR (w : fOm) (j : Nat) : Int32 := if nI (m_lwN (wu w 648 0 (50 - nI j)) 100) ≤ 100 then (-6) else 50 - nI j
def m_beI (ω : fOm) : Nat → fOm
  | 0 => ω
  | j + 1 => m_beW (m_beI ω j) j
def m_beV (ω : fOm) : Nat → Int32
  | 0 => -6
  | j + 1 => m_beR (m_beI ω j) j
def m_beF (ω : fOm) : Nat → Nat → Nat
  | 0, j => j
  | n + 1, j => if 0 ≤ m_beV ω j then j else m_beF ω n (j + 1)
theorem mbeF_s {ω : fOm} {n j : Nat} : m_beF ω (n + 1) j = if 0 ≤ m_beV ω j then j else m_beF ω n (j + 1) := rfl
def m_beN (ω : fOm) : Nat := m_beF ω 51 0
theorem mbe_a {ω : fOm} {j : Nat} (hP : m_beN ω = m_beF ω (51 - j) j) (h : j = 51) : m_beN ω = j := by
  rw [hP, show 51 - j = 0 by omega]
  rfl
theorem mbe_b {ω : fOm} {j : Nat} (hP : m_beN ω = m_beF ω (51 - j) j) (h : j < 51) (c : 0 ≤ m_beV ω j) : m_beN ω = j := by rw [hP, sub_s h, mbeF_s, if_pos c]
theorem mbe_c {ω : fOm} {j : Nat} (hP : m_beN ω = m_beF ω (51 - j) j) (h : j < 51) (c : ¬ 0 ≤ m_beV ω j) : m_beN ω = m_beF ω (51 - (j + 1)) (j + 1) := by rw [hP, sub_s h, mbeF_s, if_neg c]
def m_bear (ω : fOm) : Int32 × fOm := (m_beV ω (m_beN ω), wu (m_beI ω (m_beN ω)) 648 0 (ω 648 0))
def m_unL (p : Int32) (w : fOm) : Nat → fOm
  | 0 => w
  | j + 1 => wu (m_unL p w j) 648 j (m_unL p w j 649 (770 * p + nI j).toNatClampNeg)
def m_un0 (ω : fOm) : fOm := wu ω 647 3 (ω 647 3 - 1)
def m_undo (ω : fOm) : Int32 × fOm := if ω 647 3 = 0 then (-5, ω) else (m_unL (m_kpP (m_un0 ω)) (m_un0 ω) 770 647 3, m_unL (m_kpP (m_un0 ω)) (m_un0 ω) 770)
def m_saL (s : Int32) (w : fOm) : Nat → fOm
  | 0 => w
  | j + 1 => wu (m_saL s w j) 650 (770 * s + nI j).toNatClampNeg (m_saL s w j 648 j)
def m_save (ω : fOm) (s : Int32) : Int32 × fOm := if f_btw s 0 1 = 0 then (-2, ω) else (wu (m_saL s ω 770) 651 s.toNatClampNeg 1 648 4, wu (m_saL s ω 770) 651 s.toNatClampNeg 1)
def m_reL (s : Int32) (w : fOm) : Nat → fOm
  | 0 => w
  | j + 1 => wu (m_reL s w j) 648 j (m_reL s w j 650 (770 * s + nI j).toNatClampNeg)
def m_rest (ω : fOm) (s : Int32) : Int32 × fOm := if f_btw s 0 1 = 0 then (-2, ω) else if ω 651 s.toNatClampNeg = 0 then (-5, ω) else (m_reL s (m_keep ω) 770 648 4, m_reL s (m_keep ω) 770)
/-- what is so after these -/
theorem lbL_ne {w : fOm} {k : Nat} (hk : k ≠ 648) (j : Nat) : m_lbL w j k = w k := by
  induction j with
  | zero => rfl
  | succ j ih => exact (wu_ne hk).trans ih
theorem lbL_648 {w : fOm} (n j : Nat) : m_lbL w n 648 j = if j < n then w 652 j else w 648 j := by
  induction n with
  | zero => rw [if_neg (by omega)]; rfl
  | succ n ih =>
    show wu (m_lbL w n) 648 n (m_lbL w n 652 n) 648 j = _
    rw [wu_648, lbL_ne (k := 652) (by decide)]
    unfold upd
    by_cases h : j = n
    · subst h
      rw [if_pos rfl, if_pos (by omega)]
    · rw [if_neg h, ih]
      by_cases h2 : j < n
      · rw [if_pos h2, if_pos (by omega)]
      · rw [if_neg h2, if_neg (by omega)]
theorem asL_652 {w : fOm} (n j : Nat) : m_asL w n 652 j = if j < n then w 648 j else w 652 j := by
  induction n with
  | zero => rw [if_neg (by omega)]; rfl
  | succ n ih =>
    show wu (m_asL w n) 652 n (m_asL w n 648 n) 652 j = _
    rw [asL_ne (k := 648) (by decide)]
    have e : ∀ v, wu (m_asL w n) 652 n v 652 = upd (m_asL w n 652) n v := fun v => by unfold wu; rw [if_pos rfl]
    rw [e]
    unfold upd
    by_cases h : j = n
    · subst h
      rw [if_pos rfl, if_pos (by omega)]
    · rw [if_neg h, ih]
      by_cases h2 : j < n
      · rw [if_pos h2, if_pos (by omega)]
      · rw [if_neg h2, if_neg (by omega)]
abbrev aS : Nat → Prop := fun q => q = 648
theorem moreL_M {ω : fOm} {l w : Int32} : Mod aS ω (m_moreL ω l w) := Mod.wu Mod.rf rfl
theorem clear_M {ω : fOm} {c : Int32} : Mod aS ω (m_clear ω c) := Mod.wu (Mod.wu (Mod.wu Mod.rf rfl) rfl) rfl
theorem shine_M {ω : fOm} {l c v : Int32} : Mod aS ω (m_shine ω l c v) := Mod.wu (Mod.wu (Mod.wu (Mod.wu Mod.rf rfl) rfl) rfl) rfl
theorem mvL_M' {ω : fOm} {fr tt : Int32} (j : Nat) : Mod aS ω (m_mvL fr tt ω j) := by
  induction j with
  | zero => exact Mod.rf
  | succ j ih => exact ih.wu rfl
theorem mv_M {ω : fOm} {fr tt : Int32} : Mod aS ω (m_mv ω fr tt) := (mvL_M' 3).tr clear_M
theorem tnL_M {ω : fOm} {l x : Int32} (j : Nat) : Mod aS ω (m_tnL l x ω j) := by
  induction j with
  | zero => exact Mod.rf
  | succ j ih => exact ih.tr mv_M
theorem mturn_M {ω : fOm} {l : Int32} : Mod aS ω (m_turn ω l) := Mod.wu (Mod.wu (Mod.wu (tnL_M _) rfl) rfl) rfl
theorem mfade_M {ω : fOm} {l c b_ : Int32} : Mod aS ω (m_fade ω l c b_) := by
  unfold m_fade
  dsimp only
  split
  · exact Mod.wu Mod.rf rfl
  · exact ((Mod.wu (S := aS) Mod.rf rfl).tr clear_M).tr moreL_M
theorem faL_M {ω : fOm} {l : Int32} (j : Nat) : Mod aS ω (m_faL l ω j) := by
  induction j with
  | zero => exact Mod.rf
  | succ j ih =>
    unfold m_faL
    split
    · exact ih
    · exact ih.tr mfade_M
theorem mdid_M {ω : fOm} {d : Int32} : Mod aS ω (m_did ω d) := Mod.wu Mod.rf rfl
theorem mamp_M {ω : fOm} {d c : Int32} : Mod aS ω (m_amp ω d c) := by
  unfold m_amp
  dsimp only
  split
  · exact Mod.wu (Mod.wu Mod.rf rfl) rfl
  · exact (Mod.wu (S := aS) (Mod.wu Mod.rf rfl) rfl).tr mdid_M
theorem ntL_M {ω : fOm} {d : Int32} (j : Nat) : Mod aS ω (m_ntL d ω j) := by
  induction j with
  | zero => exact Mod.rf
  | succ j ih => exact ih.wu rfl
theorem mnote_M {ω : fOm} {d c : Int32} : Mod aS ω (m_note ω d c) := (Mod.tr (Mod.wu (Mod.wu (ntL_M 7) rfl) rfl) mdid_M).tr mfade_M
theorem piL_M {ω : fOm} {d : Int32} (j : Nat) : Mod aS ω (m_piL d ω j) := by
  induction j with
  | zero => exact Mod.rf
  | succ j ih => exact ih.wu rfl
theorem mputIn_M {ω : fOm} {d c : Int32} : Mod aS ω (m_putIn ω d c) := ((shine_M.wu rfl).tr (piL_M _)).tr mdid_M
theorem mact_M {ω : fOm} {d : Int32} : Mod aS ω (m_act ω d) := by
  unfold m_act
  split
  · split
    · exact Mod.rf
    · exact mamp_M
  · split
    · split
      · exact Mod.rf
      · exact mnote_M
    · split
      · split
        · exact Mod.rf
        · split
          · exact Mod.rf
          · exact mputIn_M
      · split
        · split
          · exact (Mod.wu (S := aS) Mod.rf rfl).tr mdid_M
          · exact Mod.rf
        · split
          · exact (clear_M.tr moreL_M).tr mdid_M
          · exact Mod.rf
theorem mcrossed_M {ω : fOm} {j fr tt : Int32} : Mod aS ω (m_crossed ω j fr tt) := (moreL_M.tr moreL_M).wu rfl
theorem mcr2_M {ω : fOm} {j g k : Int32} : Mod aS ω (m_cr2 ω j g k) := by
  have k1 : Mod aS ω (if g = 0 then ω else m_crossed ω j (ω 648 (iJ j 0)) (ω 648 (iJ j 2))) := by
    split
    · exact Mod.rf
    · exact mcrossed_M
  unfold m_cr2
  dsimp only
  split
  · exact k1
  · exact k1.tr mcrossed_M
theorem msw_M {ω : fOm} {g k n f : Int32} (j : Nat) : Mod aS ω (m_sw g k n f ω j) := by
  unfold m_sw
  split
  · exact Mod.rf
  · induction j with
    | zero => exact Mod.rf
    | succ j ih => exact (ih.wu rfl).wu rfl
theorem mcross_M {ω : fOm} {j : Int32} : Mod aS ω (m_cross ω j) := mcr2_M.tr (msw_M 3)
theorem mrec_M {ω : fOm} {d : Int32} : Mod aS ω (m_rec ω d) := by
  unfold m_rec
  split
  · exact Mod.wu Mod.rf rfl
  · exact Mod.rf
theorem q1_M {ω : fOm} (j : Nat) : Mod aS ω (m_q1 ω j) := by
  induction j with
  | zero => exact Mod.rf
  | succ j ih => exact (ih.tr mturn_M).tr (faL_M _)
theorem q2_M {ω : fOm} (j : Nat) : Mod aS ω (m_q2 ω j) := by
  induction j with
  | zero => exact Mod.rf
  | succ j ih => exact ih.tr mact_M
theorem q3_M {ω : fOm} (j : Nat) : Mod aS ω (m_q3 ω j) := by
  induction j with
  | zero => exact Mod.rf
  | succ j ih => exact ih.tr mcross_M
theorem q4_M {ω : fOm} (j : Nat) : Mod aS ω (m_q4 ω j) := by
  induction j with
  | zero => exact Mod.rf
  | succ j ih => exact ih.tr mrec_M
theorem mpass_M {ω : fOm} : Mod aS ω (m_pass ω) := ((((q1_M _).tr (q2_M _)).tr (q3_M _)).tr (q4_M _)).wu rfl
theorem mpN_M {ω : fOm} (n : Nat) : Mod aS ω (m_pN ω n) := by
  induction n with
  | zero => exact Mod.rf
  | succ n ih => exact ih.tr mpass_M
theorem make_M {ω : fOm} {l p k o t : Int32} : Mod aS ω (m_make ω l p k o t) := Mod.wu (Mod.wu (Mod.wu (Mod.wu (Mod.wu (Mod.wu (Mod.wu (Mod.wu Mod.rf rfl) rfl) rfl) rfl) rfl) rfl) rfl) rfl
/-- what was laid aside comes back -/
theorem back_e {w w2 : fOm} (h : Mod aS (m_aside w) w2) (j : Nat) (hj : j < 770) : m_back w2 648 j = w 648 j := by
  unfold m_back
  rw [lbL_648, if_pos hj, h 652 (by show ¬ 652 = 648; decide)]
  unfold m_aside
  rw [asL_652, if_pos hj]
theorem cK_lt {i : Nat} (h : cK i = true) : i < 290 := by
  rcases Nat.lt_or_ge i 290 with a | a
  · exact a
  · rw [ck_P a] at h
    cases h
theorem back_K {w w2 : fOm} (h : Mod aS (m_aside w) w2) : KPw w (m_back w2) := fun i hi => back_e h i (Nat.lt_trans (cK_lt hi) (by decide))
theorem make_KW {w : fOm} {l p g s : Int32} (hW : MW (w 648)) (h6 : 0 ≤ w 648 6 ∧ w 648 6 ≤ 11) (hl : 0 ≤ l ∧ l ≤ 4) (hp : 0 ≤ p ∧ p ≤ 31) {k : Int32} : MW (m_make w l p k g s 648) := by
  obtain ⟨n, hn, e⟩ := rgN (n := 11) h6 rfl
  have x0 : iD (nI n) 0 = 38 + 19 * n + 0 := iD_n (m := 0) (by omega) (by omega)
  have x1 : iD (nI n) 1 = 38 + 19 * n + 1 := iD_n (m := 1) (by omega) (by omega)
  have x2 : iD (nI n) 2 = 38 + 19 * n + 2 := iD_n (m := 2) (by omega) (by omega)
  have x3 : iD (nI n) 3 = 38 + 19 * n + 3 := iD_n (m := 3) (by omega) (by omega)
  have x4 : iD (nI n) 4 = 38 + 19 * n + 4 := iD_n (m := 4) (by omega) (by omega)
  have x5 : iD (nI n) 5 = 38 + 19 * n + 5 := iD_n (m := 5) (by omega) (by omega)
  have x6 : iD (nI n) 6 = 38 + 19 * n + 6 := iD_n (m := 6) (by omega) (by omega)
  have ek : ∀ i, m_make w l p k g s 648 i = if i = 6 then w 648 6 + 1 else if i = 38 + 19 * n + 6 then 0 else if i = 38 + 19 * n + 5 then (if k = 0 then s else 0) else if i = 38 + 19 * n + 4 then s else if i = 38 + 19 * n + 3 then g else if i = 38 + 19 * n + 2 then p else if i = 38 + 19 * n + 1 then l else if i = 38 + 19 * n then k else w 648 i := by
    intro i
    unfold m_make
    try dsimp only
    rw [e, x0, x1, x2, x3, x4, x5, x6]
    simp only [wu_648, upd, Nat.add_zero]
    have n0 : ¬ (6 = 38 + 19 * n + 6) := by omega
    have n1 : ¬ (6 = 38 + 19 * n + 5) := by omega
    have n2 : ¬ (6 = 38 + 19 * n + 4) := by omega
    have n3 : ¬ (6 = 38 + 19 * n + 3) := by omega
    have n4 : ¬ (6 = 38 + 19 * n + 2) := by omega
    have n5 : ¬ (6 = 38 + 19 * n + 1) := by omega
    have n6 : ¬ (6 = 38 + 19 * n) := by omega
    simp only [if_neg n0, if_neg n1, if_neg n2, if_neg n3, if_neg n4, if_neg n5, if_neg n6, e]
  have h6' : 0 ≤ w 648 6 + 1 ∧ w 648 6 + 1 ≤ 12 := by
    rw [e, nI_1]
    exact ⟨nI_pos' (by omega), nI_le (b := 12) (by omega) (by decide)⟩
  have far : ∀ i, i ≠ 6 → (i < 38 + 19 * n ∨ 38 + 19 * n + 6 < i) → m_make w l p k g s 648 i = w 648 i := by
    intro i h1 h2
    rw [ek, if_neg h1, if_neg (by omega), if_neg (by omega), if_neg (by omega), if_neg (by omega), if_neg (by omega), if_neg (by omega), if_neg (by omega)]
  obtain ⟨a1, a2, a3, a4, a5, a6, a7⟩ := hW
  refine ⟨by rw [far 5 (by decide) (by omega)]; exact a1, by rw [ek, if_pos rfl]; exact h6', by rw [far 7 (by decide) (by omega)]; exact a3, fun l hl => ?_, fun d hd => ?_, fun j hj => ?_, fun d hd hk => ?_⟩
  · rw [far _ (by omega) (by omega)]
    exact a4 l hl
  · by_cases hdn : d = n
    · subst hdn
      rw [ek (38 + 19 * d + 1), ek (38 + 19 * d + 2), if_neg (by omega), if_neg (by omega), if_neg (by omega), if_neg (by omega), if_neg (by omega), if_neg (by omega), if_pos rfl, if_neg (by omega), if_neg (by omega), if_neg (by omega), if_neg (by omega), if_neg (by omega), if_pos rfl]
      exact ⟨hl, hp⟩
    · rw [far (38 + 19 * d + 1) (by omega) (by omega), far (38 + 19 * d + 2) (by omega) (by omega)]
      exact a5 d hd
  · rw [far (266 + 6 * j) (by omega) (by omega), far (266 + 6 * j + 1) (by omega) (by omega), far (266 + 6 * j + 2) (by omega) (by omega), far (266 + 6 * j + 3) (by omega) (by omega)]
    exact a6 j hj
  · by_cases hdn : d = n
    · subst hdn
      rw [ek (38 + 19 * d), if_neg (by omega), if_neg (by omega), if_neg (by omega), if_neg (by omega), if_neg (by omega), if_neg (by omega), if_neg (by omega), if_pos rfl] at hk
      rw [ek (38 + 19 * d + 5), if_neg (by omega), if_neg (by omega), if_pos rfl]
      have : ¬ k = 0 := by
        intro e0
        rw [e0] at hk
        rcases hk with h | h <;> exact absurd h (by decide)
      rw [if_neg this]
      decide
    · rw [far (38 + 19 * d) (by omega) (by omega)] at hk
      rw [far (38 + 19 * d + 5) (by omega) (by omega)]
      exact a7 d hd hk
theorem n12 {x : Int32} (h : 0 ≤ x ∧ x ≤ 12) (h2 : ¬ x = 12) : 0 ≤ x ∧ x ≤ 11 := by
  obtain ⟨n, hn, e⟩ := rgN (n := 12) h rfl
  rw [e] at h2 ⊢
  have : n ≠ 12 := fun q => h2 (by rw [q]; rfl)
  exact ⟨nI_pos' (by omega), nI_le (b := 11) (by omega) (by decide)⟩
theorem n5 {x : Int32} (h : 0 ≤ x ∧ x ≤ 5) (h2 : ¬ x = 5) : 0 ≤ x ∧ x ≤ 4 := by
  obtain ⟨n, hn, e⟩ := rgN (n := 5) h rfl
  rw [e] at h2 ⊢
  have : n ≠ 5 := fun q => h2 (by rw [q]; rfl)
  exact ⟨nI_pos' (by omega), nI_le (b := 4) (by omega) (by decide)⟩
theorem n4 {x : Int32} (h : 0 ≤ x ∧ x ≤ 4) (h2 : ¬ x = 4) : 0 ≤ x ∧ x ≤ 3 := by
  obtain ⟨n, hn, e⟩ := rgN (n := 4) h rfl
  rw [e] at h2 ⊢
  have : n ≠ 4 := fun q => h2 (by rw [q]; rfl)
  exact ⟨nI_pos' (by omega), nI_le (b := 3) (by omega) (by decide)⟩
theorem lpe_ge {x a : Int32} {j : Nat} (e : a = x) (h0 : 0 ≤ x) (c : a ≤ nI j) (hj : j ≤ x.toNatClampNeg) : j = x.toNatClampNeg := lp_ge h0 (e ▸ c) hj
theorem lpe_lt {x a : Int32} {j : Nat} (e : a = x) (h0 : 0 ≤ x) (c : ¬ a ≤ nI j) (hj : j ≤ x.toNatClampNeg) : j < x.toNatClampNeg := lp_lt h0 (e ▸ c) hj
theorem aside_W {ω : fOm} (h : MW (ω 648)) : MW (m_aside ω 648) := by rw [aside_648]; exact h
theorem mbp_K {l g s : Int32} {ω : fOm} (j : Nat) : KPw ω (m_bp l g s ω j).2.2 := by
  induction j with
  | zero => exact KP.rf
  | succ j ih => exact ih.tr (back_K (make_M.tr (mpN_M _)))
theorem mbp_W {l g s : Int32} {ω : fOm} {j : Nat} (hW : MW (ω 648)) : MW ((m_bp l g s ω j).2.2 648) := (mbp_K j).mw hW
theorem mbp_6 {l g s : Int32} {ω : fOm} {j : Nat} (hW : MW (ω 648)) (c : ¬ ω 648 6 = 12) : 0 ≤ m_aside (m_bp l g s ω j).2.2 648 6 ∧ m_aside (m_bp l g s ω j).2.2 648 6 ≤ 11 := by
  rw [aside_648, mbp_K j 6 rfl]
  exact n12 hW.2.1 c
theorem mbpM_W {l g s : Int32} {ω : fOm} {j : Nat} (hW : MW (ω 648)) (c : ¬ ω 648 6 = 12) (hl : 0 ≤ l ∧ l ≤ 4) (hj : j < 32) : MW (m_make (m_aside (m_bp l g s ω j).2.2) l (nI j) 0 g s 648) := make_KW (aside_W (mbp_W hW)) (mbp_6 hW c) hl (nj_rg hj)
theorem beI_K {ω : fOm} (j : Nat) : KPw ω (m_beI ω j) := by
  induction j with
  | zero => exact KP.rf
  | succ j ih =>
    have k : KPw (m_beI ω j) (wu (m_beI ω j) 648 0 (50 - nI j)) := KPw.wu KP.rf (by decide)
    exact (ih.tr k).tr (back_K (mpN_M _))
theorem be0_W {ω : fOm} {j : Nat} (hW : MW (ω 648)) {v : Int32} : MW (wu (m_beI ω j) 648 0 v 648) := by
  have k : KPw (m_beI ω j) (wu (m_beI ω j) 648 0 v) := KPw.wu KP.rf (by decide)
  exact ((beI_K j).tr k).mw hW
theorem un_rg {ω : fOm} (h : MK ω) (c : ¬ ω 647 3 = 0) : 0 ≤ m_kpP (m_un0 ω) ∧ m_kpP (m_un0 ω) ≤ 5 := by
  obtain ⟨n, hn, e⟩ := rgN (n := 5) h.1 rfl
  obtain ⟨m, hm, e2⟩ := rgN (n := 6) h.2 rfl
  have e3 : m_un0 ω 647 2 = ω 647 2 := by simp [m_un0, wu, upd]
  have e4 : m_un0 ω 647 3 = ω 647 3 - 1 := by simp [m_un0, wu, upd]
  rw [e2] at c
  cases m with
  | zero => exact absurd rfl c
  | succ m =>
    unfold m_kpP
    rw [e3, e4, e, e2, nI_pred, nI_add, rem6_n (by omega)]
    exact ⟨nI_pos' (by omega), nI_le (b := 5) (by omega) (by decide)⟩
theorem btw_n {x lo hi : Int32} (h : ¬ f_btw x lo hi = 0) {a b : Nat} (hlo : lo.toInt = a) (hhi : hi.toInt = b) (hb : b < 2 ^ 31) : ∃ n : Nat, a ≤ n ∧ n ≤ b ∧ x = nI n := by
  have h1 := btw_pl h
  have h2 := Int32.le_iff_toInt_le.mp h1.1
  have h3 := Int32.le_iff_toInt_le.mp h1.2
  rw [hlo] at h2
  rw [hhi] at h3
  have h0 : 0 ≤ x := by rw [Int32.le_iff_toInt_le]; have : (0 : Int32).toInt = 0 := rfl; omega
  have h4 := tn_toInt h0
  exact ⟨x.toNatClampNeg, by omega, by omega, (tn_nI h0).symm⟩
theorem ix_s {s : Int32} (h : ¬ f_btw s 0 3 = 0) : vp_in s 770 := by
  obtain ⟨n, -, hn, rfl⟩ := btw_n (a := 0) (b := 3) h rfl rfl (by decide)
  exact vp_n (by omega) (by decide)
theorem ix_4 {s : Int32} (h : ¬ f_btw s 0 3 = 0) : vp_in (4 + s) 770 := by
  obtain ⟨n, -, hn, rfl⟩ := btw_n (a := 0) (b := 3) h rfl rfl (by decide)
  rw [show (4 : Int32) = nI 4 from rfl, nI_add]
  exact vp_n (by omega) (by decide)
theorem ix_8 {s : Int32} (h : ¬ f_btw s 8 11 = 0) : vp_in (s - 8) 770 := by
  obtain ⟨n, h1, hn, rfl⟩ := btw_n (a := 8) (b := 11) h rfl rfl (by decide)
  rw [show (8 : Int32) = nI 8 from rfl, pk_sub h1]
  exact vp_n (by omega) (by decide)
theorem w_4 {s : Int32} (h : ¬ f_btw s 4 7 = 0) : 0 ≤ s - 4 ∧ s - 4 ≤ 5 := by
  obtain ⟨n, h1, hn, rfl⟩ := btw_n (a := 4) (b := 7) h rfl rfl (by decide)
  rw [show (4 : Int32) = nI 4 from rfl, pk_sub h1]
  exact ⟨nI_pos' (by omega), nI_le (b := 5) (by omega) (by decide)⟩
theorem w_3 {s : Int32} (h : ¬ f_btw s 4 8 = 0) : 0 ≤ s - 3 ∧ s - 3 ≤ 5 := by
  obtain ⟨n, h1, hn, rfl⟩ := btw_n (a := 4) (b := 8) h rfl rfl (by decide)
  rw [show (3 : Int32) = nI 3 from rfl, pk_sub (by omega)]
  exact ⟨nI_pos' (by omega), nI_le (b := 5) (by omega) (by decide)⟩
theorem w_6 {s : Int32} (h : ¬ f_btw s 0 6 = 0) : 0 ≤ s ∧ s ≤ 18 := ⟨(btw_pl h).1, Int32.le_trans (btw_pl h).2 (by decide)⟩
theorem w_7 {x b : Int32} (hx : 0 ≤ x ∧ x ≤ 12) (h : ¬ f_btw b 0 (x - 1) = 0) : 0 ≤ 7 + b ∧ 7 + b ≤ 18 := by
  have h1 := btw_pl h
  obtain ⟨m, hm, rfl⟩ := rgN (n := 12) hx rfl
  have key : ∀ m, m ≤ 12 → nI m - 1 ≤ 11 := by decide +kernel
  obtain ⟨n, hn, rfl⟩ := rgN (n := 11) ⟨h1.1, Int32.le_trans h1.2 (key m hm)⟩ rfl
  rw [show (7 : Int32) = nI 7 from rfl, nI_add]
  exact ⟨nI_pos' (by omega), nI_le (b := 18) (by omega) (by decide)⟩
theorem w_9 {x : Int32} (hx : 0 ≤ x ∧ x ≤ 12) (h : ¬ x = 12) : 0 ≤ 7 + x ∧ 7 + x ≤ 18 := by
  obtain ⟨n, hn, e⟩ := rgN (n := 11) (n12 hx h) rfl
  rw [e, show (7 : Int32) = nI 7 from rfl, nI_add]
  exact ⟨nI_pos' (by omega), nI_le (b := 18) (by omega) (by decide)⟩
theorem ixJ0 {j : Int32} (hj : 0 ≤ j ∧ j ≤ 3) : vp_in (266 + 6 * j) 770 := by
  obtain ⟨n, hn, rfl⟩ := rgN (n := 3) hj rfl
  rw [show (266 : Int32) = nI 266 from rfl, show (6 : Int32) = nI 6 from rfl, pk_mul, nI_add]
  exact vp_n (by omega) (by decide)
theorem ixw {c w : Int32} (hc : 290 ≤ c ∧ c ≤ 767) (hw : w = 0 ∨ w = 1) : vp_in (c + w) 770 := by
  rcases hw with rfl | rfl
  · rw [Int32.add_zero]
    exact ixc hc
  · exact ixc1 hc
theorem btw_2 {s : Int32} (h : ¬ f_btw s 0 1 = 0) : (0 ≤ s ∧ s ≤ 1) ∧ vp_in s 2 := ⟨btw_pl h, btw_in h rfl⟩
theorem sp_e {j : Nat} (h : 50 - nI j = 50 - nI j) : True := trivial
set_option maxHeartbeats 4000000 in
set_option maxRecDepth 100000 in
theorem tX8_highest (l0 : Launch) (G : fG) (F : Nat) (ω : fOm) (hI : Inv ω) (s : Int32) : CT l0 G F yX8_highest cX8_highest 1 (some .int) 0 [.int s] ω (some (.int (m_hi s))) ω := by
  refine ct_met (own := RX8) (by decide +kernel) rfl (Nat.le_of_ble_eq_true rfl) (fun X hXl hX h => ?_)
  subst hXl
  refine g_iload_n h 0 dX8_highest_0 rfl ?_
  refine g_if_ne (tgt := 9) h dX8_highest_1 (by decide) (fun c1 => ?_) (fun c1 => ?_)
  · refine g_iload_n h 0 dX8_highest_9 rfl ?_
    refine g_iconst (v := 3) h dX8_highest_10 (by decide) ?_
    refine g_icmp_ne (tgt := 20) h dX8_highest_11 (by decide) (fun c2 => ?_) (fun c2 => ?_)
    · refine g_sipush (v := 200) h dX8_highest_20 (by decide) ?_
      exact e_iret h hI dX8_highest_23 (by skip; unfold m_hi; first | (simp only [if_neg c1, if_neg c2]; done) | (simp only [if_neg c1, if_neg c2]; rfl)) rfl
    · refine g_sipush (v := 1000) h dX8_highest_14 (by decide) ?_
      refine g_goto (tgt := 23) h dX8_highest_17 (by decide) ?_
      exact e_iret h hI dX8_highest_23 (by skip; unfold m_hi; first | (simp only [if_neg c1, if_pos c2]; done) | (simp only [if_neg c1, if_pos c2]; rfl)) rfl
  · refine g_bipush (v := 50) h dX8_highest_4 (by decide) ?_
    refine g_goto (tgt := 23) h dX8_highest_6 (by decide) ?_
    exact e_iret h hI dX8_highest_23 (by skip; unfold m_hi; first | (simp only [if_pos c1]; done) | (simp only [if_pos c1]; rfl)) rfl
set_option maxHeartbeats 4000000 in
set_option maxRecDepth 100000 in
theorem tX8_set (l0 : Launch) (G : fG) (F : Nat) (ω : fOm) (hI : Inv ω) (s : Int32) (v : Int32) (hK : MK ω) : CT l0 G F yX8_set cX8_set 4 (some .int) 1 [.ref (F + 647), .int s, .int v] ω (some (.int ((m_set ω s v).1))) ((m_set ω s v).2) := by
  refine ct_met (own := RX8) (by decide +kernel) rfl (Nat.le_of_ble_eq_true rfl) (fun X hXl hX h => ?_)
  subst hXl
  refine g_iload_n h 1 dX8_set_0 rfl ?_
  refine g_iconst (v := 0) h dX8_set_1 (by decide) ?_
  refine g_iconst (v := 3) h dX8_set_2 (by decide) ?_
  refine k_S_i (st := []) h hX (tX8_in (xl X) G F ω hI s 0 3) rfl miX8_in tw_761 (by decide) (by decide) rfl (Nat.le_of_ble_eq_true rfl) (by rw [hX]; exact Nat.zero_le _) (by rw [hX]; exact Nat.zero_le _) dX8_set_3 (fun v1 hv1 => ?_)
  refine g_if_eq (tgt := 31) h dX8_set_6 (by decide) (fun c2 => ?_) (fun c2 => ?_)
  · refine g_bipush (v := (-2)) h dX8_set_31 (by decide) ?_
    exact e_iret h hI dX8_set_33 (by replace hv1 := hv1.symm; subst hv1; unfold m_set; first | (simp only [if_pos c2]; done) | (simp only [if_pos c2]; rfl)) (by replace hv1 := hv1.symm; subst hv1; unfold m_set; first | (simp only [if_pos c2]; done) | (simp only [if_pos c2]; rfl))
  · refine g_iload_n h 2 dX8_set_9 rfl ?_
    refine g_iload_n h 1 dX8_set_10 rfl ?_
    refine g_iconst (v := 3) h dX8_set_11 (by decide) ?_
    have hm21_7 : ∀ m6 : Int32, m6 = (if s = 3 then 100 else 0) → Vg X (MQ (xb X) (fQ G F (fP F G (some (.int ((m_set ω s v).1))) ((m_set ω s v).2))) (xa X) (xs X) 0 0 (fA F)) G F 4 NC (cel F G ω) 0 0 21 [(0, .ref (F + 647)), (1, .int s), (2, .int v)] [.int m6, .int v] := by
      intro m6 hm6
      refine g_iload_n h 1 dX8_set_21 rfl ?_
      refine k_S_i (st := [.int m6, .int v]) h hX (tX8_highest (xl X) G F ω hI s) rfl miX8_highest tw_764 (by decide) (by decide) rfl (Nat.le_of_ble_eq_true rfl) (by rw [hX]; exact Nat.zero_le _) (by rw [hX]; exact Nat.zero_le _) dX8_set_22 (fun v8 hv8 => ?_)
      refine k_S_i (st := []) h hX (tX8_in (xl X) G F ω hI v m6 v8) rfl miX8_in tw_761 (by decide) (by decide) rfl (Nat.le_of_ble_eq_true rfl) (by rw [hX]; exact Nat.zero_le _) (by rw [hX]; exact Nat.zero_le _) dX8_set_25 (fun v9 hv9 => ?_)
      refine g_if_ne (tgt := 34) h dX8_set_28 (by decide) (fun c10 => ?_) (fun c10 => ?_)
      · refine g_aload_n h 0 dX8_set_34 rfl ?_
        refine k_V_v (st := []) h hX (tX8_keep (xl X) G F ω hI (hK)) rfl ⟨kd_lt rfl, ob_21 rfl⟩ rfl miX8_keep tw_767 (by decide) (by decide) rfl (Nat.le_of_ble_eq_true rfl) (by rw [hX]; exact Nat.zero_le _) (by rw [hX]; exact Nat.zero_le _) dX8_set_35 (fun w11 hw11 iw11 => ?_)
        refine g_aload_n h 0 dX8_set_38 rfl ?_
        refine q_8_at h rfl tw_708 dX8_set_39 ?_
        refine g_iload_n h 1 dX8_set_42 rfl ?_
        refine g_ia (q := 22) h rfl rfl (by decide) (by clear iw11; replace hv1 := hv1.symm; replace hm6 := hm6.symm; replace hv8 := hv8.symm; replace hv9 := hv9.symm; replace hw11 := hw11.symm; subst hw11 hv9 hv8 hm6 hv1; exact ix_s c2) dX8_set_43 (fun v12 hv12 => ?_)
        refine g_istore_n (loc2 := [(3, .int v12), (0, .ref (F + 647)), (1, .int s), (2, .int v)]) h dX8_set_44 (by decide) rfl ?_
        refine g_aload_n h 1 dX8_set_45 rfl ?_
        refine q_8_at h rfl tw_708 dX8_set_46 ?_
        refine g_iload_n h 2 dX8_set_49 rfl ?_
        refine g_iload_n h 3 dX8_set_50 rfl ?_
        refine g_is (q := 22) h iw11 rfl rfl (by decide) (by clear iw11; replace hv1 := hv1.symm; replace hm6 := hm6.symm; replace hv8 := hv8.symm; replace hv9 := hv9.symm; replace hw11 := hw11.symm; replace hv12 := hv12.symm; subst hv12 hw11 hv9 hv8 hm6 hv1; exact ix_s c2) dX8_set_51 (fun w13 hw13 iw13 => ?_)
        refine g_iload_n h 0 dX8_set_52 rfl ?_
        exact e_iret h iw13 dX8_set_53 (by clear iw11 iw13; replace hv1 := hv1.symm; replace hm6 := hm6.symm; replace hv8 := hv8.symm; replace hv9 := hv9.symm; replace hw11 := hw11.symm; replace hv12 := hv12.symm; replace hw13 := hw13.symm; subst hw13 hv12 hw11 hv9 hv8 hm6 hv1; unfold m_set; first | (simp only [if_neg c2, if_neg c10]; done) | (simp only [if_neg c2, if_neg c10]; rfl)) (by clear iw11 iw13; replace hv1 := hv1.symm; replace hm6 := hm6.symm; replace hv8 := hv8.symm; replace hv9 := hv9.symm; replace hw11 := hw11.symm; replace hv12 := hv12.symm; replace hw13 := hw13.symm; subst hw13 hv12 hw11 hv9 hv8 hm6 hv1; unfold m_set; first | (simp only [if_neg c2, if_neg c10]; done) | (simp only [if_neg c2, if_neg c10]; rfl))
      · refine g_bipush (v := (-2)) h dX8_set_31 (by decide) ?_
        exact e_iret h hI dX8_set_33 (by replace hv1 := hv1.symm; replace hm6 := hm6.symm; replace hv8 := hv8.symm; replace hv9 := hv9.symm; subst hv9 hv8 hm6 hv1; unfold m_set; first | (simp only [if_neg c2, if_pos c10]; done) | (simp only [if_neg c2, if_pos c10]; rfl)) (by replace hv1 := hv1.symm; replace hm6 := hm6.symm; replace hv8 := hv8.symm; replace hv9 := hv9.symm; subst hv9 hv8 hm6 hv1; unfold m_set; first | (simp only [if_neg c2, if_pos c10]; done) | (simp only [if_neg c2, if_pos c10]; rfl))
    refine g_icmp_ne (tgt := 20) h dX8_set_12 (by decide) (fun c3 => ?_) (fun c3 => ?_)
    · refine g_iconst (v := 0) h dX8_set_20 (by decide) ?_
      exact hm21_7 _ (by replace hv1 := hv1.symm; subst hv1; rw [if_neg c3])
    · refine g_bipush (v := 100) h dX8_set_15 (by decide) ?_
      refine g_goto (tgt := 21) h dX8_set_17 (by decide) ?_
      exact hm21_7 _ (by replace hv1 := hv1.symm; subst hv1; rw [if_pos c3])
set_option maxHeartbeats 4000000 in
set_option maxRecDepth 100000 in
theorem tX8_loop (l0 : Launch) (G : fG) (F : Nat) (ω : fOm) (hI : Inv ω) (pl : Int32) (hW : MW (ω 648)) (hK : MK ω) : CT l0 G F yX8_loop cX8_loop 2 (some .int) 1 [.ref (F + 647), .int pl] ω (some (.int ((m_loop ω pl).1))) ((m_loop ω pl).2) := by
  refine ct_met (own := RX8) (by decide +kernel) rfl (Nat.le_of_ble_eq_true rfl) (fun X hXl hX h => ?_)
  subst hXl
  refine g_iload_n h 1 dX8_loop_0 rfl ?_
  refine g_iconst (v := 4) h dX8_loop_1 (by decide) ?_
  refine g_bipush (v := 32) h dX8_loop_2 (by decide) ?_
  refine k_S_i (st := []) h hX (tX8_in (xl X) G F ω hI pl 4 32) rfl miX8_in tw_761 (by decide) (by decide) rfl (Nat.le_of_ble_eq_true rfl) (by rw [hX]; exact Nat.zero_le _) (by rw [hX]; exact Nat.zero_le _) dX8_loop_4 (fun v1 hv1 => ?_)
  refine g_if_ne (tgt := 13) h dX8_loop_7 (by decide) (fun c2 => ?_) (fun c2 => ?_)
  · refine g_aload_n h 0 dX8_loop_13 rfl ?_
    refine q_8_at h rfl tw_708 dX8_loop_14 ?_
    refine g_iconst (v := 5) h dX8_loop_17 (by decide) ?_
    refine g_ia (q := 22) h rfl rfl (by decide) (vp_n (j := 5) (Nat.le_of_ble_eq_true rfl) (Nat.le_of_ble_eq_true rfl)) dX8_loop_18 (fun v3 hv3 => ?_)
    replace hv3 : v3 = ω 648 5 := hv3
    refine g_iconst (v := 5) h dX8_loop_19 (by decide) ?_
    refine g_icmp_ne (tgt := 26) h dX8_loop_20 (by decide) (fun c4 => ?_) (fun c4 => ?_)
    · refine g_aload_n h 0 dX8_loop_26 rfl ?_
      refine k_V_v (st := []) h hX (tX8_keep (xl X) G F ω hI (hK)) rfl ⟨kd_lt rfl, ob_21 rfl⟩ rfl miX8_keep tw_767 (by decide) (by decide) rfl (Nat.le_of_ble_eq_true rfl) (by rw [hX]; exact Nat.zero_le _) (by rw [hX]; exact Nat.zero_le _) dX8_loop_27 (fun w5 hw5 iw5 => ?_)
      refine g_aload_n h 0 dX8_loop_30 rfl ?_
      refine q_8_at h rfl tw_708 dX8_loop_31 ?_
      refine g_bipush (v := 8) h dX8_loop_34 (by decide) ?_
      refine g_bipush (v := 6) h dX8_loop_36 (by decide) ?_
      refine g_aload_n h 0 dX8_loop_38 rfl ?_
      refine q_8_at h rfl tw_708 dX8_loop_39 ?_
      refine g_iconst (v := 5) h dX8_loop_42 (by decide) ?_
      refine g_ia (q := 22) h rfl rfl (by decide) (vp_n (j := 5) (Nat.le_of_ble_eq_true rfl) (Nat.le_of_ble_eq_true rfl)) dX8_loop_43 (fun v6 hv6 => ?_)
      replace hv6 : v6 = w5 648 5 := hv6
      refine g_imul h dX8_loop_44 (g_name fun v7 hv7 => ?_)
      refine g_iadd h dX8_loop_45 (g_name fun v8 hv8 => ?_)
      refine g_iconst (v := 0) h dX8_loop_46 (by decide) ?_
      refine g_iadd h dX8_loop_47 (g_name fun v9 hv9 => ?_)
      refine g_iload_n h 1 dX8_loop_48 rfl ?_
      refine g_is (q := 22) h iw5 rfl rfl (by decide) (by clear iw5; replace hv1 := hv1.symm; replace hv3 := hv3.symm; replace hw5 := hw5.symm; replace hv6 := hv6.symm; replace hv7 := hv7.symm; replace hv8 := hv8.symm; replace hv9 := hv9.symm; subst hv9 hv8 hv7 hv6 hw5 hv3 hv1; exact ixL (by rw [keep_648]; exact n5 hW.1 c4) (by decide)) dX8_loop_49 (fun w10 hw10 iw10 => ?_)
      refine g_aload_n h 0 dX8_loop_50 rfl ?_
      refine q_8_at h rfl tw_708 dX8_loop_51 ?_
      refine g_iconst (v := 5) h dX8_loop_54 (by decide) ?_
      refine g_dup2 h dX8_loop_55 rfl rfl ?_
      refine g_ia (q := 22) h rfl rfl (by decide) (vp_n (j := 5) (Nat.le_of_ble_eq_true rfl) (Nat.le_of_ble_eq_true rfl)) dX8_loop_56 (fun v11 hv11 => ?_)
      replace hv11 : v11 = w10 648 5 := hv11
      refine g_iconst (v := 1) h dX8_loop_57 (by decide) ?_
      refine g_iadd h dX8_loop_58 (g_name fun v12 hv12 => ?_)
      refine g_is (q := 22) h iw10 rfl rfl (by decide) (vp_n (j := 5) (Nat.le_of_ble_eq_true rfl) (Nat.le_of_ble_eq_true rfl)) dX8_loop_59 (fun w13 hw13 iw13 => ?_)
      replace hw13 : w13 = wu w10 648 5 v12 := hw13
      refine g_aload_n h 0 dX8_loop_60 rfl ?_
      refine q_8_at h rfl tw_708 dX8_loop_61 ?_
      refine g_iconst (v := 5) h dX8_loop_64 (by decide) ?_
      refine g_ia (q := 22) h rfl rfl (by decide) (vp_n (j := 5) (Nat.le_of_ble_eq_true rfl) (Nat.le_of_ble_eq_true rfl)) dX8_loop_65 (fun v14 hv14 => ?_)
      replace hv14 : v14 = w13 648 5 := hv14
      refine g_iconst (v := 1) h dX8_loop_66 (by decide) ?_
      refine g_isub h dX8_loop_67 (g_name fun v15 hv15 => ?_)
      exact e_iret h iw13 dX8_loop_68 (by clear iw5 iw10 iw13; replace hv1 := hv1.symm; replace hv3 := hv3.symm; replace hw5 := hw5.symm; replace hv6 := hv6.symm; replace hv7 := hv7.symm; replace hv8 := hv8.symm; replace hv9 := hv9.symm; replace hw10 := hw10.symm; replace hv11 := hv11.symm; replace hv12 := hv12.symm; replace hw13 := hw13.symm; replace hv14 := hv14.symm; replace hv15 := hv15.symm; subst hv15 hv14 hw13 hv12 hv11 hw10 hv9 hv8 hv7 hv6 hw5 hv3 hv1; unfold m_loop; first | (simp only [if_neg c2, if_neg c4]; done) | (simp only [if_neg c2, if_neg c4]; rfl)) (by clear iw5 iw10 iw13; replace hv1 := hv1.symm; replace hv3 := hv3.symm; replace hw5 := hw5.symm; replace hv6 := hv6.symm; replace hv7 := hv7.symm; replace hv8 := hv8.symm; replace hv9 := hv9.symm; replace hw10 := hw10.symm; replace hv11 := hv11.symm; replace hv12 := hv12.symm; replace hw13 := hw13.symm; replace hv14 := hv14.symm; replace hv15 := hv15.symm; subst hv15 hv14 hw13 hv12 hv11 hw10 hv9 hv8 hv7 hv6 hw5 hv3 hv1; unfold m_loop; first | (simp only [if_neg c2, if_neg c4]; done) | (simp only [if_neg c2, if_neg c4]; rfl))
    · refine g_bipush (v := (-4)) h dX8_loop_23 (by decide) ?_
      exact e_iret h hI dX8_loop_25 (by replace hv1 := hv1.symm; replace hv3 := hv3.symm; subst hv3 hv1; unfold m_loop; first | (simp only [if_neg c2, if_pos c4]; done) | (simp only [if_neg c2, if_pos c4]; rfl)) (by replace hv1 := hv1.symm; replace hv3 := hv3.symm; subst hv3 hv1; unfold m_loop; first | (simp only [if_neg c2, if_pos c4]; done) | (simp only [if_neg c2, if_pos c4]; rfl))
  · refine g_bipush (v := (-2)) h dX8_loop_10 (by decide) ?_
    exact e_iret h hI dX8_loop_12 (by replace hv1 := hv1.symm; subst hv1; unfold m_loop; first | (simp only [if_pos c2]; done) | (simp only [if_pos c2]; rfl)) (by replace hv1 := hv1.symm; subst hv1; unfold m_loop; first | (simp only [if_pos c2]; done) | (simp only [if_pos c2]; rfl))
set_option maxHeartbeats 4000000 in
set_option maxRecDepth 100000 in
theorem tX8_areNumbers (l0 : Launch) (G : fG) (F : Nat) (ω : fOm) (hI : Inv ω) (kind : Int32) (one : Int32) (two : Int32) : CT l0 G F yX8_areNumbers cX8_areNumbers 3 (some .boolean) 2 [.int kind, .int one, .int two] ω (some (.int (f_fits kind one two))) ω := by
  refine ct_met (own := RX8) (by decide +kernel) rfl (Nat.le_of_ble_eq_true rfl) (fun X hXl hX h => ?_)
  subst hXl
  refine g_iload_n h 0 dX8_areNumbers_0 rfl ?_
  rcases sw_4 kind with c1 | c1 | c1 | c1 | c1
  · refine g_tableIn (off := 31) (tgt := 32) h dX8_areNumbers_1 (by rw [c1]; decide) (by rw [c1]; decide) (by rw [c1]; rfl) (by decide) ?_
    refine g_iload_n h 1 dX8_areNumbers_32 rfl ?_
    refine g_iconst (v := 1) h dX8_areNumbers_33 (by decide) ?_
    refine g_sipush (v := 500) h dX8_areNumbers_34 (by decide) ?_
    refine k_S_i (st := []) h hX (tX8_in (xl X) G F ω hI one 1 500) rfl miX8_in tw_761 (by decide) (by decide) rfl (Nat.le_of_ble_eq_true rfl) (by rw [hX]; exact Nat.zero_le _) (by rw [hX]; exact Nat.zero_le _) dX8_areNumbers_37 (fun v2 hv2 => ?_)
    refine g_if_eq (tgt := 58) h dX8_areNumbers_40 (by decide) (fun c3 => ?_) (fun c3 => ?_)
    · refine g_iconst (v := 0) h dX8_areNumbers_58 (by decide) ?_
      exact e_zret h hI dX8_areNumbers_59 (nz (f_fits_01 _ _ _)) (by replace hv2 := hv2.symm; subst hv2; unfold f_fits; simp [c1, c3]) rfl
    · refine g_iload_n h 2 dX8_areNumbers_43 rfl ?_
      refine g_iconst (v := 1) h dX8_areNumbers_44 (by decide) ?_
      refine g_sipush (v := 2000) h dX8_areNumbers_45 (by decide) ?_
      refine k_S_i (st := []) h hX (tX8_in (xl X) G F ω hI two 1 2000) rfl miX8_in tw_761 (by decide) (by decide) rfl (Nat.le_of_ble_eq_true rfl) (by rw [hX]; exact Nat.zero_le _) (by rw [hX]; exact Nat.zero_le _) dX8_areNumbers_48 (fun v4 hv4 => ?_)
      refine g_if_eq (tgt := 58) h dX8_areNumbers_51 (by decide) (fun c5 => ?_) (fun c5 => ?_)
      · refine g_iconst (v := 0) h dX8_areNumbers_58 (by decide) ?_
        exact e_zret h hI dX8_areNumbers_59 (nz (f_fits_01 _ _ _)) (by replace hv2 := hv2.symm; replace hv4 := hv4.symm; subst hv4 hv2; unfold f_fits; simp [c1, c3, c5]) rfl
      · refine g_iconst (v := 1) h dX8_areNumbers_54 (by decide) ?_
        refine g_goto (tgt := 59) h dX8_areNumbers_55 (by decide) ?_
        exact e_zret h hI dX8_areNumbers_59 (nz (f_fits_01 _ _ _)) (by replace hv2 := hv2.symm; replace hv4 := hv4.symm; subst hv4 hv2; unfold f_fits; simp [c1, c3, c5]) rfl
  · refine g_tableIn (off := 59) (tgt := 60) h dX8_areNumbers_1 (by rw [c1]; decide) (by rw [c1]; decide) (by rw [c1]; rfl) (by decide) ?_
    refine g_iload_n h 1 dX8_areNumbers_60 rfl ?_
    refine g_if_ne (tgt := 72) h dX8_areNumbers_61 (by decide) (fun c6 => ?_) (fun c6 => ?_)
    · refine g_iconst (v := 0) h dX8_areNumbers_72 (by decide) ?_
      exact e_zret h hI dX8_areNumbers_73 (nz (f_fits_01 _ _ _)) (by skip; unfold f_fits; simp [c1, c6]) rfl
    · refine g_iload_n h 2 dX8_areNumbers_64 rfl ?_
      refine g_if_ne (tgt := 72) h dX8_areNumbers_65 (by decide) (fun c7 => ?_) (fun c7 => ?_)
      · refine g_iconst (v := 0) h dX8_areNumbers_72 (by decide) ?_
        exact e_zret h hI dX8_areNumbers_73 (nz (f_fits_01 _ _ _)) (by skip; unfold f_fits; simp [c1, c6, c7]) rfl
      · refine g_iconst (v := 1) h dX8_areNumbers_68 (by decide) ?_
        refine g_goto (tgt := 73) h dX8_areNumbers_69 (by decide) ?_
        exact e_zret h hI dX8_areNumbers_73 (nz (f_fits_01 _ _ _)) (by skip; unfold f_fits; simp [c1, c6, c7]) rfl
  · refine g_tableIn (off := 59) (tgt := 60) h dX8_areNumbers_1 (by rw [c1]; decide) (by rw [c1]; decide) (by rw [c1]; rfl) (by decide) ?_
    refine g_iload_n h 1 dX8_areNumbers_60 rfl ?_
    refine g_if_ne (tgt := 72) h dX8_areNumbers_61 (by decide) (fun c8 => ?_) (fun c8 => ?_)
    · refine g_iconst (v := 0) h dX8_areNumbers_72 (by decide) ?_
      exact e_zret h hI dX8_areNumbers_73 (nz (f_fits_01 _ _ _)) (by skip; unfold f_fits; simp [c1, c8]) rfl
    · refine g_iload_n h 2 dX8_areNumbers_64 rfl ?_
      refine g_if_ne (tgt := 72) h dX8_areNumbers_65 (by decide) (fun c9 => ?_) (fun c9 => ?_)
      · refine g_iconst (v := 0) h dX8_areNumbers_72 (by decide) ?_
        exact e_zret h hI dX8_areNumbers_73 (nz (f_fits_01 _ _ _)) (by skip; unfold f_fits; simp [c1, c8, c9]) rfl
      · refine g_iconst (v := 1) h dX8_areNumbers_68 (by decide) ?_
        refine g_goto (tgt := 73) h dX8_areNumbers_69 (by decide) ?_
        exact e_zret h hI dX8_areNumbers_73 (nz (f_fits_01 _ _ _)) (by skip; unfold f_fits; simp [c1, c8, c9]) rfl
  · refine g_tableIn (off := 73) (tgt := 74) h dX8_areNumbers_1 (by rw [c1]; decide) (by rw [c1]; decide) (by rw [c1]; rfl) (by decide) ?_
    refine g_iload_n h 1 dX8_areNumbers_74 rfl ?_
    refine k_S_i (st := []) h hX (tX8_isValue (xl X) G F ω hI one) rfl miX8_isValue tw_794 (by decide) (by decide) rfl (Nat.le_of_ble_eq_true rfl) (by rw [hX]; exact Nat.zero_le _) (by rw [hX]; exact Nat.zero_le _) dX8_areNumbers_75 (fun v10 hv10 => ?_)
    refine g_if_eq (tgt := 92) h dX8_areNumbers_78 (by decide) (fun c11 => ?_) (fun c11 => ?_)
    · refine g_iconst (v := 0) h dX8_areNumbers_92 (by decide) ?_
      exact e_zret h hI dX8_areNumbers_93 (nz (f_fits_01 _ _ _)) (by replace hv10 := hv10.symm; subst hv10; unfold f_fits; simp [c1, c11]) rfl
    · refine g_iload_n h 2 dX8_areNumbers_81 rfl ?_
      refine k_S_i (st := []) h hX (tX8_isValue (xl X) G F ω hI two) rfl miX8_isValue tw_794 (by decide) (by decide) rfl (Nat.le_of_ble_eq_true rfl) (by rw [hX]; exact Nat.zero_le _) (by rw [hX]; exact Nat.zero_le _) dX8_areNumbers_82 (fun v12 hv12 => ?_)
      refine g_if_eq (tgt := 92) h dX8_areNumbers_85 (by decide) (fun c13 => ?_) (fun c13 => ?_)
      · refine g_iconst (v := 0) h dX8_areNumbers_92 (by decide) ?_
        exact e_zret h hI dX8_areNumbers_93 (nz (f_fits_01 _ _ _)) (by replace hv10 := hv10.symm; replace hv12 := hv12.symm; subst hv12 hv10; unfold f_fits; simp [c1, c11, c13]) rfl
      · refine g_iconst (v := 1) h dX8_areNumbers_88 (by decide) ?_
        refine g_goto (tgt := 93) h dX8_areNumbers_89 (by decide) ?_
        exact e_zret h hI dX8_areNumbers_93 (nz (f_fits_01 _ _ _)) (by replace hv10 := hv10.symm; replace hv12 := hv12.symm; subst hv12 hv10; unfold f_fits; simp [c1, c11, c13]) rfl
  · refine g_tableOut (tgt := 94) h dX8_areNumbers_1 c1 (by decide) ?_
    obtain ⟨c14, c15, c16, c17⟩ := swo_4 c1
    refine g_iload_n h 0 dX8_areNumbers_94 rfl ?_
    refine g_iconst (v := 4) h dX8_areNumbers_95 (by decide) ?_
    refine g_icmp_ne (tgt := 114) h dX8_areNumbers_96 (by decide) (fun c18 => ?_) (fun c18 => ?_)
    · refine g_iconst (v := 0) h dX8_areNumbers_114 (by decide) ?_
      exact e_zret h hI dX8_areNumbers_115 (nz (f_fits_01 _ _ _)) (by skip; unfold f_fits; simp [c14, c15, c16, c17, c18]) rfl
    · refine g_iload_n h 1 dX8_areNumbers_99 rfl ?_
      refine k_S_i (st := []) h hX (tX8_isValue (xl X) G F ω hI one) rfl miX8_isValue tw_794 (by decide) (by decide) rfl (Nat.le_of_ble_eq_true rfl) (by rw [hX]; exact Nat.zero_le _) (by rw [hX]; exact Nat.zero_le _) dX8_areNumbers_100 (fun v19 hv19 => ?_)
      refine g_if_eq (tgt := 114) h dX8_areNumbers_103 (by decide) (fun c20 => ?_) (fun c20 => ?_)
      · refine g_iconst (v := 0) h dX8_areNumbers_114 (by decide) ?_
        exact e_zret h hI dX8_areNumbers_115 (nz (f_fits_01 _ _ _)) (by replace hv19 := hv19.symm; subst hv19; unfold f_fits; simp [c14, c15, c16, c17, c18, c20]) rfl
      · refine g_iload_n h 2 dX8_areNumbers_106 rfl ?_
        refine g_if_ne (tgt := 114) h dX8_areNumbers_107 (by decide) (fun c21 => ?_) (fun c21 => ?_)
        · refine g_iconst (v := 0) h dX8_areNumbers_114 (by decide) ?_
          exact e_zret h hI dX8_areNumbers_115 (nz (f_fits_01 _ _ _)) (by replace hv19 := hv19.symm; subst hv19; unfold f_fits; simp [c14, c15, c16, c17, c18, c20, c21]) rfl
        · refine g_iconst (v := 1) h dX8_areNumbers_110 (by decide) ?_
          refine g_goto (tgt := 115) h dX8_areNumbers_111 (by decide) ?_
          exact e_zret h hI dX8_areNumbers_115 (nz (f_fits_01 _ _ _)) (by replace hv19 := hv19.symm; subst hv19; unfold f_fits; simp [c14, c15, c16, c17, c18, c20, c21]) rfl
set_option maxHeartbeats 4000000 in
set_option maxRecDepth 100000 in
theorem tX8_make (l0 : Launch) (G : fG) (F : Nat) (ω : fOm) (hI : Inv ω) (l : Int32) (p : Int32) (k : Int32) (o : Int32) (t : Int32) (h6 : 0 ≤ ω 648 6 ∧ ω 648 6 ≤ 11) : CT l0 G F yX8_make cX8_make 7 none 1 [.ref (F + 647), .int l, .int p, .int k, .int o, .int t] ω none (m_make ω l p k o t) := by
  refine ct_met (own := RX8) (by decide +kernel) rfl (Nat.le_of_ble_eq_true rfl) (fun X hXl hX h => ?_)
  subst hXl
  refine g_aload_n h 0 dX8_make_0 rfl ?_
  refine q_8_at h rfl tw_708 dX8_make_1 ?_
  refine g_bipush (v := 6) h dX8_make_4 (by decide) ?_
  refine g_ia (q := 22) h rfl rfl (by decide) (vp_n (j := 6) (Nat.le_of_ble_eq_true rfl) (Nat.le_of_ble_eq_true rfl)) dX8_make_6 (fun v1 hv1 => ?_)
  replace hv1 : v1 = ω 648 6 := hv1
  refine g_istore (loc2 := [(6, .int v1), (0, .ref (F + 647)), (1, .int l), (2, .int p), (3, .int k), (4, .int o), (5, .int t)]) h dX8_make_7 (by decide) rfl ?_
  refine g_aload_n h 1 dX8_make_9 rfl ?_
  refine g_iload h 0 dX8_make_10 rfl ?_
  refine g_iconst (v := 0) h dX8_make_12 (by decide) ?_
  refine g_iload_n h 4 dX8_make_13 rfl ?_
  refine k_V_v (st := []) h hX (tX8_layD (xl X) G F ω hI v1 0 k (by replace hv1 := hv1.symm; subst hv1; exact h6) (by decide)) rfl ⟨kd_lt rfl, ob_21 rfl⟩ rfl miX8_layD tw_801 (by decide) (by decide) rfl (Nat.le_of_ble_eq_true rfl) (by rw [hX]; exact Nat.zero_le _) (by rw [hX]; exact Nat.zero_le _) dX8_make_14 (fun w2 hw2 iw2 => ?_)
  refine g_aload_n h 1 dX8_make_17 rfl ?_
  refine g_iload h 0 dX8_make_18 rfl ?_
  refine g_iconst (v := 1) h dX8_make_20 (by decide) ?_
  refine g_iload_n h 2 dX8_make_21 rfl ?_
  refine k_V_v (st := []) h hX (tX8_layD (xl X) G F w2 iw2 v1 1 l (by clear iw2; replace hv1 := hv1.symm; replace hw2 := hw2.symm; subst hw2 hv1; exact h6) (by decide)) rfl ⟨kd_lt rfl, ob_21 rfl⟩ rfl miX8_layD tw_801 (by decide) (by decide) rfl (Nat.le_of_ble_eq_true rfl) (by rw [hX]; exact Nat.zero_le _) (by rw [hX]; exact Nat.zero_le _) dX8_make_22 (fun w3 hw3 iw3 => ?_)
  refine g_aload_n h 1 dX8_make_25 rfl ?_
  refine g_iload h 0 dX8_make_26 rfl ?_
  refine g_iconst (v := 2) h dX8_make_28 (by decide) ?_
  refine g_iload_n h 3 dX8_make_29 rfl ?_
  refine k_V_v (st := []) h hX (tX8_layD (xl X) G F w3 iw3 v1 2 p (by clear iw2 iw3; replace hv1 := hv1.symm; replace hw2 := hw2.symm; replace hw3 := hw3.symm; subst hw3 hw2 hv1; exact h6) (by decide)) rfl ⟨kd_lt rfl, ob_21 rfl⟩ rfl miX8_layD tw_801 (by decide) (by decide) rfl (Nat.le_of_ble_eq_true rfl) (by rw [hX]; exact Nat.zero_le _) (by rw [hX]; exact Nat.zero_le _) dX8_make_30 (fun w4 hw4 iw4 => ?_)
  refine g_aload_n h 1 dX8_make_33 rfl ?_
  refine g_iload h 0 dX8_make_34 rfl ?_
  refine g_iconst (v := 3) h dX8_make_36 (by decide) ?_
  refine g_iload h 5 dX8_make_37 rfl ?_
  refine k_V_v (st := []) h hX (tX8_layD (xl X) G F w4 iw4 v1 3 o (by clear iw2 iw3 iw4; replace hv1 := hv1.symm; replace hw2 := hw2.symm; replace hw3 := hw3.symm; replace hw4 := hw4.symm; subst hw4 hw3 hw2 hv1; exact h6) (by decide)) rfl ⟨kd_lt rfl, ob_21 rfl⟩ rfl miX8_layD tw_801 (by decide) (by decide) rfl (Nat.le_of_ble_eq_true rfl) (by rw [hX]; exact Nat.zero_le _) (by rw [hX]; exact Nat.zero_le _) dX8_make_39 (fun w5 hw5 iw5 => ?_)
  refine g_aload_n h 1 dX8_make_42 rfl ?_
  refine g_iload h 0 dX8_make_43 rfl ?_
  refine g_iconst (v := 4) h dX8_make_45 (by decide) ?_
  refine g_iload h 6 dX8_make_46 rfl ?_
  refine k_V_v (st := []) h hX (tX8_layD (xl X) G F w5 iw5 v1 4 t (by clear iw2 iw3 iw4 iw5; replace hv1 := hv1.symm; replace hw2 := hw2.symm; replace hw3 := hw3.symm; replace hw4 := hw4.symm; replace hw5 := hw5.symm; subst hw5 hw4 hw3 hw2 hv1; exact h6) (by decide)) rfl ⟨kd_lt rfl, ob_21 rfl⟩ rfl miX8_layD tw_801 (by decide) (by decide) rfl (Nat.le_of_ble_eq_true rfl) (by rw [hX]; exact Nat.zero_le _) (by rw [hX]; exact Nat.zero_le _) dX8_make_48 (fun w6 hw6 iw6 => ?_)
  refine g_aload_n h 1 dX8_make_51 rfl ?_
  refine g_iload h 0 dX8_make_52 rfl ?_
  refine g_iconst (v := 5) h dX8_make_54 (by decide) ?_
  refine g_iload_n h 4 dX8_make_55 rfl ?_
  have hm65_11 : ∀ m10 : Int32, m10 = (if k = 0 then t else 0) → Vg X (MQ (xb X) (fQ G F (fP F G none (m_make ω l p k o t))) (xa X) (xs X) 0 0 (fA F)) G F 7 NC (cel F G w6) 0 0 65 [(6, .int v1), (0, .ref (F + 647)), (1, .int l), (2, .int p), (3, .int k), (4, .int o), (5, .int t)] [.int m10, .int 5, .int v1, .ref (F + 647)] := by
    intro m10 hm10
    refine k_V_v (st := []) h hX (tX8_layD (xl X) G F w6 iw6 v1 5 m10 (by clear iw2 iw3 iw4 iw5 iw6; replace hv1 := hv1.symm; replace hw2 := hw2.symm; replace hw3 := hw3.symm; replace hw4 := hw4.symm; replace hw5 := hw5.symm; replace hw6 := hw6.symm; replace hm10 := hm10.symm; subst hm10 hw6 hw5 hw4 hw3 hw2 hv1; exact h6) (by decide)) rfl ⟨kd_lt rfl, ob_21 rfl⟩ rfl miX8_layD tw_801 (by decide) (by decide) rfl (Nat.le_of_ble_eq_true rfl) (by rw [hX]; exact Nat.zero_le _) (by rw [hX]; exact Nat.zero_le _) dX8_make_65 (fun w12 hw12 iw12 => ?_)
    refine g_aload_n h 1 dX8_make_68 rfl ?_
    refine g_iload h 0 dX8_make_69 rfl ?_
    refine g_bipush (v := 6) h dX8_make_71 (by decide) ?_
    refine g_iconst (v := 0) h dX8_make_73 (by decide) ?_
    refine k_V_v (st := []) h hX (tX8_layD (xl X) G F w12 iw12 v1 6 0 (by clear iw2 iw3 iw4 iw5 iw6 iw12; replace hv1 := hv1.symm; replace hw2 := hw2.symm; replace hw3 := hw3.symm; replace hw4 := hw4.symm; replace hw5 := hw5.symm; replace hw6 := hw6.symm; replace hm10 := hm10.symm; replace hw12 := hw12.symm; subst hw12 hm10 hw6 hw5 hw4 hw3 hw2 hv1; exact h6) (by decide)) rfl ⟨kd_lt rfl, ob_21 rfl⟩ rfl miX8_layD tw_801 (by decide) (by decide) rfl (Nat.le_of_ble_eq_true rfl) (by rw [hX]; exact Nat.zero_le _) (by rw [hX]; exact Nat.zero_le _) dX8_make_74 (fun w13 hw13 iw13 => ?_)
    refine g_aload_n h 1 dX8_make_77 rfl ?_
    refine q_8_at h rfl tw_708 dX8_make_78 ?_
    refine g_bipush (v := 6) h dX8_make_81 (by decide) ?_
    refine g_dup2 h dX8_make_83 rfl rfl ?_
    refine g_ia (q := 22) h rfl rfl (by decide) (vp_n (j := 6) (Nat.le_of_ble_eq_true rfl) (Nat.le_of_ble_eq_true rfl)) dX8_make_84 (fun v14 hv14 => ?_)
    replace hv14 : v14 = w13 648 6 := hv14
    refine g_iconst (v := 1) h dX8_make_85 (by decide) ?_
    refine g_iadd h dX8_make_86 (g_name fun v15 hv15 => ?_)
    refine g_is (q := 22) h iw13 rfl rfl (by decide) (vp_n (j := 6) (Nat.le_of_ble_eq_true rfl) (Nat.le_of_ble_eq_true rfl)) dX8_make_87 (fun w16 hw16 iw16 => ?_)
    replace hw16 : w16 = wu w13 648 6 v15 := hw16
    exact e_vret h iw16 dX8_make_88 (by clear iw2 iw3 iw4 iw5 iw6 iw12 iw13 iw16; replace hv1 := hv1.symm; replace hw2 := hw2.symm; replace hw3 := hw3.symm; replace hw4 := hw4.symm; replace hw5 := hw5.symm; replace hw6 := hw6.symm; replace hm10 := hm10.symm; replace hw12 := hw12.symm; replace hw13 := hw13.symm; replace hv14 := hv14.symm; replace hv15 := hv15.symm; replace hw16 := hw16.symm; subst hw16 hv15 hv14 hw13 hw12 hm10 hw6 hw5 hw4 hw3 hw2 hv1; first | rfl | contradiction)
  refine g_if_ne (tgt := 64) h dX8_make_56 (by decide) (fun c7 => ?_) (fun c7 => ?_)
  · refine g_iconst (v := 0) h dX8_make_64 (by decide) ?_
    exact hm65_11 _ (by clear iw2 iw3 iw4 iw5 iw6; replace hv1 := hv1.symm; replace hw2 := hw2.symm; replace hw3 := hw3.symm; replace hw4 := hw4.symm; replace hw5 := hw5.symm; replace hw6 := hw6.symm; subst hw6 hw5 hw4 hw3 hw2 hv1; rw [if_neg c7])
  · refine g_iload h 6 dX8_make_59 rfl ?_
    refine g_goto (tgt := 65) h dX8_make_61 (by decide) ?_
    exact hm65_11 _ (by clear iw2 iw3 iw4 iw5 iw6; replace hv1 := hv1.symm; replace hw2 := hw2.symm; replace hw3 := hw3.symm; replace hw4 := hw4.symm; replace hw5 := hw5.symm; replace hw6 := hw6.symm; subst hw6 hw5 hw4 hw3 hw2 hv1; rw [if_pos c7])
set_option maxHeartbeats 4000000 in
set_option maxRecDepth 100000 in
theorem tX8_device (l0 : Launch) (G : fG) (F : Nat) (ω : fOm) (hI : Inv ω) (l : Int32) (p : Int32) (k : Int32) (o : Int32) (t : Int32) (hW : MW (ω 648)) (hK : MK ω) : CT l0 G F yX8_device cX8_device 6 (some .int) 3 [.ref (F + 647), .int l, .int p, .int k, .int o, .int t] ω (some (.int ((m_dev ω l p k o t).1))) ((m_dev ω l p k o t).2) := by
  refine ct_met (own := RX8) (by decide +kernel) rfl (Nat.le_of_ble_eq_true rfl) (fun X hXl hX h => ?_)
  subst hXl
  refine g_aload_n h 0 dX8_device_0 rfl ?_
  refine g_iload_n h 1 dX8_device_1 rfl ?_
  refine g_iload_n h 2 dX8_device_2 rfl ?_
  refine k_V_i (st := []) h hX (tX8_isPlace (xl X) G F ω hI l p (hW)) rfl ⟨kd_lt rfl, ob_21 rfl⟩ rfl miX8_isPlace tw_779 (by decide) (by decide) rfl (Nat.le_of_ble_eq_true rfl) (by rw [hX]; exact Nat.zero_le _) (by rw [hX]; exact Nat.zero_le _) dX8_device_3 (fun v1 hv1 => ?_)
  refine g_if_ne (tgt := 11) h dX8_device_6 (by decide) (fun c2 => ?_) (fun c2 => ?_)
  · refine g_iload_n h 3 dX8_device_11 rfl ?_
    refine g_iload h 4 dX8_device_12 rfl ?_
    refine g_iload h 5 dX8_device_14 rfl ?_
    refine k_S_i (st := []) h hX (tX8_areNumbers (xl X) G F ω hI k o t) rfl miX8_areNumbers tw_791 (by decide) (by decide) rfl (Nat.le_of_ble_eq_true rfl) (by rw [hX]; exact Nat.zero_le _) (by rw [hX]; exact Nat.zero_le _) dX8_device_16 (fun v3 hv3 => ?_)
    refine g_if_ne (tgt := 25) h dX8_device_19 (by decide) (fun c4 => ?_) (fun c4 => ?_)
    · refine g_aload_n h 0 dX8_device_25 rfl ?_
      refine q_8_at h rfl tw_708 dX8_device_26 ?_
      refine g_bipush (v := 6) h dX8_device_29 (by decide) ?_
      refine g_ia (q := 22) h rfl rfl (by decide) (vp_n (j := 6) (Nat.le_of_ble_eq_true rfl) (Nat.le_of_ble_eq_true rfl)) dX8_device_31 (fun v5 hv5 => ?_)
      replace hv5 : v5 = ω 648 6 := hv5
      refine g_bipush (v := 12) h dX8_device_32 (by decide) ?_
      refine g_icmp_ne (tgt := 40) h dX8_device_34 (by decide) (fun c6 => ?_) (fun c6 => ?_)
      · refine g_aload_n h 0 dX8_device_40 rfl ?_
        refine k_V_v (st := []) h hX (tX8_keep (xl X) G F ω hI (hK)) rfl ⟨kd_lt rfl, ob_21 rfl⟩ rfl miX8_keep tw_767 (by decide) (by decide) rfl (Nat.le_of_ble_eq_true rfl) (by rw [hX]; exact Nat.zero_le _) (by rw [hX]; exact Nat.zero_le _) dX8_device_41 (fun w7 hw7 iw7 => ?_)
        refine g_aload_n h 0 dX8_device_44 rfl ?_
        refine g_iload_n h 1 dX8_device_45 rfl ?_
        refine g_iload_n h 2 dX8_device_46 rfl ?_
        refine g_iload_n h 3 dX8_device_47 rfl ?_
        refine g_iload h 4 dX8_device_48 rfl ?_
        refine g_iload h 5 dX8_device_50 rfl ?_
        refine k_V_v (st := []) h hX (tX8_make (xl X) G F w7 iw7 l p k o t (by clear iw7; replace hv1 := hv1.symm; replace hv3 := hv3.symm; replace hv5 := hv5.symm; replace hw7 := hw7.symm; subst hw7 hv5 hv3 hv1; rw [keep_648]; exact n12 hW.2.1 c6)) rfl ⟨kd_lt rfl, ob_21 rfl⟩ rfl miX8_make tw_797 (by decide) (by decide) rfl (Nat.le_of_ble_eq_true rfl) (by rw [hX]; exact Nat.zero_le _) (by rw [hX]; exact Nat.zero_le _) dX8_device_52 (fun w8 hw8 iw8 => ?_)
        refine g_aload_n h 0 dX8_device_55 rfl ?_
        refine q_8_at h rfl tw_708 dX8_device_56 ?_
        refine g_bipush (v := 6) h dX8_device_59 (by decide) ?_
        refine g_ia (q := 22) h rfl rfl (by decide) (vp_n (j := 6) (Nat.le_of_ble_eq_true rfl) (Nat.le_of_ble_eq_true rfl)) dX8_device_61 (fun v9 hv9 => ?_)
        replace hv9 : v9 = w8 648 6 := hv9
        refine g_iconst (v := 1) h dX8_device_62 (by decide) ?_
        refine g_isub h dX8_device_63 (g_name fun v10 hv10 => ?_)
        exact e_iret h iw8 dX8_device_64 (by clear iw7 iw8; replace hv1 := hv1.symm; replace hv3 := hv3.symm; replace hv5 := hv5.symm; replace hw7 := hw7.symm; replace hw8 := hw8.symm; replace hv9 := hv9.symm; replace hv10 := hv10.symm; subst hv10 hv9 hw8 hw7 hv5 hv3 hv1; unfold m_dev; first | (simp only [if_neg c2, if_neg c4, if_neg c6]; done) | (simp only [if_neg c2, if_neg c4, if_neg c6]; rfl)) (by clear iw7 iw8; replace hv1 := hv1.symm; replace hv3 := hv3.symm; replace hv5 := hv5.symm; replace hw7 := hw7.symm; replace hw8 := hw8.symm; replace hv9 := hv9.symm; replace hv10 := hv10.symm; subst hv10 hv9 hw8 hw7 hv5 hv3 hv1; unfold m_dev; first | (simp only [if_neg c2, if_neg c4, if_neg c6]; done) | (simp only [if_neg c2, if_neg c4, if_neg c6]; rfl))
      · refine g_bipush (v := (-4)) h dX8_device_37 (by decide) ?_
        exact e_iret h hI dX8_device_39 (by replace hv1 := hv1.symm; replace hv3 := hv3.symm; replace hv5 := hv5.symm; subst hv5 hv3 hv1; unfold m_dev; first | (simp only [if_neg c2, if_neg c4, if_pos c6]; done) | (simp only [if_neg c2, if_neg c4, if_pos c6]; rfl)) (by replace hv1 := hv1.symm; replace hv3 := hv3.symm; replace hv5 := hv5.symm; subst hv5 hv3 hv1; unfold m_dev; first | (simp only [if_neg c2, if_neg c4, if_pos c6]; done) | (simp only [if_neg c2, if_neg c4, if_pos c6]; rfl))
    · refine g_bipush (v := (-2)) h dX8_device_22 (by decide) ?_
      exact e_iret h hI dX8_device_24 (by replace hv1 := hv1.symm; replace hv3 := hv3.symm; subst hv3 hv1; unfold m_dev; first | (simp only [if_neg c2, if_pos c4]; done) | (simp only [if_neg c2, if_pos c4]; rfl)) (by replace hv1 := hv1.symm; replace hv3 := hv3.symm; subst hv3 hv1; unfold m_dev; first | (simp only [if_neg c2, if_pos c4]; done) | (simp only [if_neg c2, if_pos c4]; rfl))
  · refine g_iconst (v := (-1)) h dX8_device_9 (by decide) ?_
    exact e_iret h hI dX8_device_10 (by replace hv1 := hv1.symm; subst hv1; unfold m_dev; first | (simp only [if_pos c2]; done) | (simp only [if_pos c2]; rfl)) (by replace hv1 := hv1.symm; subst hv1; unfold m_dev; first | (simp only [if_pos c2]; done) | (simp only [if_pos c2]; rfl))
set_option maxHeartbeats 4000000 in
set_option maxRecDepth 100000 in
theorem tX8_join (l0 : Launch) (G : fG) (F : Nat) (ω : fOm) (hI : Inv ω) (l : Int32) (p : Int32) (l2 : Int32) (p2 : Int32) (hW : MW (ω 648)) (hK : MK ω) : CT l0 G F yX8_join cX8_join 6 (some .int) 3 [.ref (F + 647), .int l, .int p, .int l2, .int p2] ω (some (.int ((m_join ω l p l2 p2).1))) ((m_join ω l p l2 p2).2) := by
  refine ct_met (own := RX8) (by decide +kernel) rfl (Nat.le_of_ble_eq_true rfl) (fun X hXl hX h => ?_)
  subst hXl
  refine g_aload_n h 0 dX8_join_0 rfl ?_
  refine g_iload_n h 1 dX8_join_1 rfl ?_
  refine g_iload_n h 2 dX8_join_2 rfl ?_
  refine k_V_i (st := []) h hX (tX8_isPlace (xl X) G F ω hI l p (hW)) rfl ⟨kd_lt rfl, ob_21 rfl⟩ rfl miX8_isPlace tw_779 (by decide) (by decide) rfl (Nat.le_of_ble_eq_true rfl) (by rw [hX]; exact Nat.zero_le _) (by rw [hX]; exact Nat.zero_le _) dX8_join_3 (fun v1 hv1 => ?_)
  refine g_if_eq (tgt := 19) h dX8_join_6 (by decide) (fun c2 => ?_) (fun c2 => ?_)
  · refine g_iconst (v := (-1)) h dX8_join_19 (by decide) ?_
    exact e_iret h hI dX8_join_20 (by replace hv1 := hv1.symm; subst hv1; unfold m_join; first | (simp only [if_pos c2]; done) | (simp only [if_pos c2]; rfl)) (by replace hv1 := hv1.symm; subst hv1; unfold m_join; first | (simp only [if_pos c2]; done) | (simp only [if_pos c2]; rfl))
  · refine g_aload_n h 0 dX8_join_9 rfl ?_
    refine g_iload_n h 3 dX8_join_10 rfl ?_
    refine g_iload h 4 dX8_join_11 rfl ?_
    refine k_V_i (st := []) h hX (tX8_isPlace (xl X) G F ω hI l2 p2 (hW)) rfl ⟨kd_lt rfl, ob_21 rfl⟩ rfl miX8_isPlace tw_779 (by decide) (by decide) rfl (Nat.le_of_ble_eq_true rfl) (by rw [hX]; exact Nat.zero_le _) (by rw [hX]; exact Nat.zero_le _) dX8_join_13 (fun v3 hv3 => ?_)
    refine g_if_ne (tgt := 21) h dX8_join_16 (by decide) (fun c4 => ?_) (fun c4 => ?_)
    · refine g_iload_n h 1 dX8_join_21 rfl ?_
      refine g_iload_n h 3 dX8_join_22 rfl ?_
      refine g_icmp_ne (tgt := 29) h dX8_join_23 (by decide) (fun c5 => ?_) (fun c5 => ?_)
      · refine g_aload_n h 0 dX8_join_29 rfl ?_
        refine q_8_at h rfl tw_708 dX8_join_30 ?_
        refine g_bipush (v := 7) h dX8_join_33 (by decide) ?_
        refine g_ia (q := 22) h rfl rfl (by decide) (vp_n (j := 7) (Nat.le_of_ble_eq_true rfl) (Nat.le_of_ble_eq_true rfl)) dX8_join_35 (fun v6 hv6 => ?_)
        replace hv6 : v6 = ω 648 7 := hv6
        refine g_iconst (v := 4) h dX8_join_36 (by decide) ?_
        refine g_icmp_ne (tgt := 43) h dX8_join_37 (by decide) (fun c7 => ?_) (fun c7 => ?_)
        · refine g_aload_n h 0 dX8_join_43 rfl ?_
          refine k_V_v (st := []) h hX (tX8_keep (xl X) G F ω hI (hK)) rfl ⟨kd_lt rfl, ob_21 rfl⟩ rfl miX8_keep tw_767 (by decide) (by decide) rfl (Nat.le_of_ble_eq_true rfl) (by rw [hX]; exact Nat.zero_le _) (by rw [hX]; exact Nat.zero_le _) dX8_join_44 (fun w8 hw8 iw8 => ?_)
          refine g_sipush (v := 266) h dX8_join_47 (by decide) ?_
          refine g_bipush (v := 6) h dX8_join_50 (by decide) ?_
          refine g_aload_n h 0 dX8_join_52 rfl ?_
          refine q_8_at h rfl tw_708 dX8_join_53 ?_
          refine g_bipush (v := 7) h dX8_join_56 (by decide) ?_
          refine g_ia (q := 22) h rfl rfl (by decide) (vp_n (j := 7) (Nat.le_of_ble_eq_true rfl) (Nat.le_of_ble_eq_true rfl)) dX8_join_58 (fun v9 hv9 => ?_)
          replace hv9 : v9 = w8 648 7 := hv9
          refine g_imul h dX8_join_59 (g_name fun v10 hv10 => ?_)
          refine g_iadd h dX8_join_60 (g_name fun v11 hv11 => ?_)
          refine g_istore (loc2 := [(5, .int v11), (0, .ref (F + 647)), (1, .int l), (2, .int p), (3, .int l2), (4, .int p2)]) h dX8_join_61 (by decide) rfl ?_
          refine g_aload_n h 1 dX8_join_63 rfl ?_
          refine q_8_at h rfl tw_708 dX8_join_64 ?_
          refine g_iload h 0 dX8_join_67 rfl ?_
          refine g_iload_n h 2 dX8_join_69 rfl ?_
          refine g_is (q := 22) h iw8 rfl rfl (by decide) (by clear iw8; replace hv1 := hv1.symm; replace hv3 := hv3.symm; replace hv6 := hv6.symm; replace hw8 := hw8.symm; replace hv9 := hv9.symm; replace hv10 := hv10.symm; replace hv11 := hv11.symm; subst hv11 hv10 hv9 hw8 hv6 hv3 hv1; exact ixJ0 (by rw [keep_648]; exact n4 hW.2.2.1 c7)) dX8_join_70 (fun w12 hw12 iw12 => ?_)
          refine g_aload_n h 1 dX8_join_71 rfl ?_
          refine q_8_at h rfl tw_708 dX8_join_72 ?_
          refine g_iload h 0 dX8_join_75 rfl ?_
          refine g_iconst (v := 1) h dX8_join_77 (by decide) ?_
          refine g_iadd h dX8_join_78 (g_name fun v13 hv13 => ?_)
          refine g_iload_n h 3 dX8_join_79 rfl ?_
          refine g_is (q := 22) h iw12 rfl rfl (by decide) (by clear iw8 iw12; replace hv1 := hv1.symm; replace hv3 := hv3.symm; replace hv6 := hv6.symm; replace hw8 := hw8.symm; replace hv9 := hv9.symm; replace hv10 := hv10.symm; replace hv11 := hv11.symm; replace hw12 := hw12.symm; replace hv13 := hv13.symm; subst hv13 hw12 hv11 hv10 hv9 hw8 hv6 hv3 hv1; exact ixJ (by rw [keep_648]; exact n4 hW.2.2.1 c7) (by decide)) dX8_join_80 (fun w14 hw14 iw14 => ?_)
          refine g_aload_n h 1 dX8_join_81 rfl ?_
          refine q_8_at h rfl tw_708 dX8_join_82 ?_
          refine g_iload h 0 dX8_join_85 rfl ?_
          refine g_iconst (v := 2) h dX8_join_87 (by decide) ?_
          refine g_iadd h dX8_join_88 (g_name fun v15 hv15 => ?_)
          refine g_iload_n h 4 dX8_join_89 rfl ?_
          refine g_is (q := 22) h iw14 rfl rfl (by decide) (by clear iw8 iw12 iw14; replace hv1 := hv1.symm; replace hv3 := hv3.symm; replace hv6 := hv6.symm; replace hw8 := hw8.symm; replace hv9 := hv9.symm; replace hv10 := hv10.symm; replace hv11 := hv11.symm; replace hw12 := hw12.symm; replace hv13 := hv13.symm; replace hw14 := hw14.symm; replace hv15 := hv15.symm; subst hv15 hw14 hv13 hw12 hv11 hv10 hv9 hw8 hv6 hv3 hv1; exact ixJ (by rw [keep_648]; exact n4 hW.2.2.1 c7) (by decide)) dX8_join_90 (fun w16 hw16 iw16 => ?_)
          refine g_aload_n h 1 dX8_join_91 rfl ?_
          refine q_8_at h rfl tw_708 dX8_join_92 ?_
          refine g_iload h 0 dX8_join_95 rfl ?_
          refine g_iconst (v := 3) h dX8_join_97 (by decide) ?_
          refine g_iadd h dX8_join_98 (g_name fun v17 hv17 => ?_)
          refine g_iload h 5 dX8_join_99 rfl ?_
          refine g_is (q := 22) h iw16 rfl rfl (by decide) (by clear iw8 iw12 iw14 iw16; replace hv1 := hv1.symm; replace hv3 := hv3.symm; replace hv6 := hv6.symm; replace hw8 := hw8.symm; replace hv9 := hv9.symm; replace hv10 := hv10.symm; replace hv11 := hv11.symm; replace hw12 := hw12.symm; replace hv13 := hv13.symm; replace hw14 := hw14.symm; replace hv15 := hv15.symm; replace hw16 := hw16.symm; replace hv17 := hv17.symm; subst hv17 hw16 hv15 hw14 hv13 hw12 hv11 hv10 hv9 hw8 hv6 hv3 hv1; exact ixJ (by rw [keep_648]; exact n4 hW.2.2.1 c7) (by decide)) dX8_join_101 (fun w18 hw18 iw18 => ?_)
          refine g_aload_n h 1 dX8_join_102 rfl ?_
          refine q_8_at h rfl tw_708 dX8_join_103 ?_
          refine g_iload h 0 dX8_join_106 rfl ?_
          refine g_iconst (v := 4) h dX8_join_108 (by decide) ?_
          refine g_iadd h dX8_join_109 (g_name fun v19 hv19 => ?_)
          refine g_iconst (v := 0) h dX8_join_110 (by decide) ?_
          refine g_is (q := 22) h iw18 rfl rfl (by decide) (by clear iw8 iw12 iw14 iw16 iw18; replace hv1 := hv1.symm; replace hv3 := hv3.symm; replace hv6 := hv6.symm; replace hw8 := hw8.symm; replace hv9 := hv9.symm; replace hv10 := hv10.symm; replace hv11 := hv11.symm; replace hw12 := hw12.symm; replace hv13 := hv13.symm; replace hw14 := hw14.symm; replace hv15 := hv15.symm; replace hw16 := hw16.symm; replace hv17 := hv17.symm; replace hw18 := hw18.symm; replace hv19 := hv19.symm; subst hv19 hw18 hv17 hw16 hv15 hw14 hv13 hw12 hv11 hv10 hv9 hw8 hv6 hv3 hv1; exact ixJ (by rw [keep_648]; exact n4 hW.2.2.1 c7) (by decide)) dX8_join_111 (fun w20 hw20 iw20 => ?_)
          refine g_aload_n h 1 dX8_join_112 rfl ?_
          refine q_8_at h rfl tw_708 dX8_join_113 ?_
          refine g_iload h 0 dX8_join_116 rfl ?_
          refine g_iconst (v := 5) h dX8_join_118 (by decide) ?_
          refine g_iadd h dX8_join_119 (g_name fun v21 hv21 => ?_)
          refine g_iconst (v := 0) h dX8_join_120 (by decide) ?_
          refine g_is (q := 22) h iw20 rfl rfl (by decide) (by clear iw8 iw12 iw14 iw16 iw18 iw20; replace hv1 := hv1.symm; replace hv3 := hv3.symm; replace hv6 := hv6.symm; replace hw8 := hw8.symm; replace hv9 := hv9.symm; replace hv10 := hv10.symm; replace hv11 := hv11.symm; replace hw12 := hw12.symm; replace hv13 := hv13.symm; replace hw14 := hw14.symm; replace hv15 := hv15.symm; replace hw16 := hw16.symm; replace hv17 := hv17.symm; replace hw18 := hw18.symm; replace hv19 := hv19.symm; replace hw20 := hw20.symm; replace hv21 := hv21.symm; subst hv21 hw20 hv19 hw18 hv17 hw16 hv15 hw14 hv13 hw12 hv11 hv10 hv9 hw8 hv6 hv3 hv1; exact ixJ (by rw [keep_648]; exact n4 hW.2.2.1 c7) (by decide)) dX8_join_121 (fun w22 hw22 iw22 => ?_)
          refine g_aload_n h 1 dX8_join_122 rfl ?_
          refine q_8_at h rfl tw_708 dX8_join_123 ?_
          refine g_bipush (v := 7) h dX8_join_126 (by decide) ?_
          refine g_dup2 h dX8_join_128 rfl rfl ?_
          refine g_ia (q := 22) h rfl rfl (by decide) (vp_n (j := 7) (Nat.le_of_ble_eq_true rfl) (Nat.le_of_ble_eq_true rfl)) dX8_join_129 (fun v23 hv23 => ?_)
          replace hv23 : v23 = w22 648 7 := hv23
          refine g_iconst (v := 1) h dX8_join_130 (by decide) ?_
          refine g_iadd h dX8_join_131 (g_name fun v24 hv24 => ?_)
          refine g_is (q := 22) h iw22 rfl rfl (by decide) (vp_n (j := 7) (Nat.le_of_ble_eq_true rfl) (Nat.le_of_ble_eq_true rfl)) dX8_join_132 (fun w25 hw25 iw25 => ?_)
          replace hw25 : w25 = wu w22 648 7 v24 := hw25
          refine g_aload_n h 1 dX8_join_133 rfl ?_
          refine q_8_at h rfl tw_708 dX8_join_134 ?_
          refine g_bipush (v := 7) h dX8_join_137 (by decide) ?_
          refine g_ia (q := 22) h rfl rfl (by decide) (vp_n (j := 7) (Nat.le_of_ble_eq_true rfl) (Nat.le_of_ble_eq_true rfl)) dX8_join_139 (fun v26 hv26 => ?_)
          replace hv26 : v26 = w25 648 7 := hv26
          refine g_iconst (v := 1) h dX8_join_140 (by decide) ?_
          refine g_isub h dX8_join_141 (g_name fun v27 hv27 => ?_)
          exact e_iret h iw25 dX8_join_142 (by clear iw8 iw12 iw14 iw16 iw18 iw20 iw22 iw25; replace hv1 := hv1.symm; replace hv3 := hv3.symm; replace hv6 := hv6.symm; replace hw8 := hw8.symm; replace hv9 := hv9.symm; replace hv10 := hv10.symm; replace hv11 := hv11.symm; replace hw12 := hw12.symm; replace hv13 := hv13.symm; replace hw14 := hw14.symm; replace hv15 := hv15.symm; replace hw16 := hw16.symm; replace hv17 := hv17.symm; replace hw18 := hw18.symm; replace hv19 := hv19.symm; replace hw20 := hw20.symm; replace hv21 := hv21.symm; replace hw22 := hw22.symm; replace hv23 := hv23.symm; replace hv24 := hv24.symm; replace hw25 := hw25.symm; replace hv26 := hv26.symm; replace hv27 := hv27.symm; subst hv27 hv26 hw25 hv24 hv23 hw22 hv21 hw20 hv19 hw18 hv17 hw16 hv15 hw14 hv13 hw12 hv11 hv10 hv9 hw8 hv6 hv3 hv1; unfold m_join; first | (simp only [if_neg c2, if_neg c4, if_neg c5, if_neg c7]; done) | (simp only [if_neg c2, if_neg c4, if_neg c5, if_neg c7]; rfl)) (by clear iw8 iw12 iw14 iw16 iw18 iw20 iw22 iw25; replace hv1 := hv1.symm; replace hv3 := hv3.symm; replace hv6 := hv6.symm; replace hw8 := hw8.symm; replace hv9 := hv9.symm; replace hv10 := hv10.symm; replace hv11 := hv11.symm; replace hw12 := hw12.symm; replace hv13 := hv13.symm; replace hw14 := hw14.symm; replace hv15 := hv15.symm; replace hw16 := hw16.symm; replace hv17 := hv17.symm; replace hw18 := hw18.symm; replace hv19 := hv19.symm; replace hw20 := hw20.symm; replace hv21 := hv21.symm; replace hw22 := hw22.symm; replace hv23 := hv23.symm; replace hv24 := hv24.symm; replace hw25 := hw25.symm; replace hv26 := hv26.symm; replace hv27 := hv27.symm; subst hv27 hv26 hw25 hv24 hv23 hw22 hv21 hw20 hv19 hw18 hv17 hw16 hv15 hw14 hv13 hw12 hv11 hv10 hv9 hw8 hv6 hv3 hv1; unfold m_join; first | (simp only [if_neg c2, if_neg c4, if_neg c5, if_neg c7]; done) | (simp only [if_neg c2, if_neg c4, if_neg c5, if_neg c7]; rfl))
        · refine g_bipush (v := (-4)) h dX8_join_40 (by decide) ?_
          exact e_iret h hI dX8_join_42 (by replace hv1 := hv1.symm; replace hv3 := hv3.symm; replace hv6 := hv6.symm; subst hv6 hv3 hv1; unfold m_join; first | (simp only [if_neg c2, if_neg c4, if_neg c5, if_pos c7]; done) | (simp only [if_neg c2, if_neg c4, if_neg c5, if_pos c7]; rfl)) (by replace hv1 := hv1.symm; replace hv3 := hv3.symm; replace hv6 := hv6.symm; subst hv6 hv3 hv1; unfold m_join; first | (simp only [if_neg c2, if_neg c4, if_neg c5, if_pos c7]; done) | (simp only [if_neg c2, if_neg c4, if_neg c5, if_pos c7]; rfl))
      · refine g_bipush (v := (-2)) h dX8_join_26 (by decide) ?_
        exact e_iret h hI dX8_join_28 (by replace hv1 := hv1.symm; replace hv3 := hv3.symm; subst hv3 hv1; unfold m_join; first | (simp only [if_neg c2, if_neg c4, if_pos c5]; done) | (simp only [if_neg c2, if_neg c4, if_pos c5]; rfl)) (by replace hv1 := hv1.symm; replace hv3 := hv3.symm; subst hv3 hv1; unfold m_join; first | (simp only [if_neg c2, if_neg c4, if_pos c5]; done) | (simp only [if_neg c2, if_neg c4, if_pos c5]; rfl))
    · refine g_iconst (v := (-1)) h dX8_join_19 (by decide) ?_
      exact e_iret h hI dX8_join_20 (by replace hv1 := hv1.symm; replace hv3 := hv3.symm; subst hv3 hv1; unfold m_join; first | (simp only [if_neg c2, if_pos c4]; done) | (simp only [if_neg c2, if_pos c4]; rfl)) (by replace hv1 := hv1.symm; replace hv3 := hv3.symm; subst hv3 hv1; unfold m_join; first | (simp only [if_neg c2, if_pos c4]; done) | (simp only [if_neg c2, if_pos c4]; rfl))
set_option maxHeartbeats 4000000 in
set_option maxRecDepth 100000 in
theorem tX8_tryTurn (l0 : Launch) (G : fG) (F : Nat) (ω : fOm) (hI : Inv ω) (j : Int32) (m : Int32) (b : Int32) (hW : MW (ω 648)) (hK : MK ω) : CT l0 G F yX8_tryTurn cX8_tryTurn 5 (some .int) 2 [.ref (F + 647), .int j, .int m, .int b] ω (some (.int ((m_tT ω j m b).1))) ((m_tT ω j m b).2) := by
  refine ct_met (own := RX8) (by decide +kernel) rfl (Nat.le_of_ble_eq_true rfl) (fun X hXl hX h => ?_)
  subst hXl
  refine g_iload_n h 1 dX8_tryTurn_0 rfl ?_
  refine g_iconst (v := 0) h dX8_tryTurn_1 (by decide) ?_
  refine g_aload_n h 0 dX8_tryTurn_2 rfl ?_
  refine q_8_at h rfl tw_708 dX8_tryTurn_3 ?_
  refine g_bipush (v := 7) h dX8_tryTurn_6 (by decide) ?_
  refine g_ia (q := 22) h rfl rfl (by decide) (vp_n (j := 7) (Nat.le_of_ble_eq_true rfl) (Nat.le_of_ble_eq_true rfl)) dX8_tryTurn_8 (fun v1 hv1 => ?_)
  replace hv1 : v1 = ω 648 7 := hv1
  refine g_iconst (v := 1) h dX8_tryTurn_9 (by decide) ?_
  refine g_isub h dX8_tryTurn_10 (g_name fun v2 hv2 => ?_)
  refine k_S_i (st := []) h hX (tX8_in (xl X) G F ω hI j 0 v2) rfl miX8_in tw_761 (by decide) (by decide) rfl (Nat.le_of_ble_eq_true rfl) (by rw [hX]; exact Nat.zero_le _) (by rw [hX]; exact Nat.zero_le _) dX8_tryTurn_11 (fun v3 hv3 => ?_)
  refine g_if_ne (tgt := 19) h dX8_tryTurn_14 (by decide) (fun c4 => ?_) (fun c4 => ?_)
  · refine g_iload_n h 2 dX8_tryTurn_19 rfl ?_
    refine g_iconst (v := 0) h dX8_tryTurn_20 (by decide) ?_
    refine g_iconst (v := 2) h dX8_tryTurn_21 (by decide) ?_
    refine k_S_i (st := []) h hX (tX8_in (xl X) G F ω hI m 0 2) rfl miX8_in tw_761 (by decide) (by decide) rfl (Nat.le_of_ble_eq_true rfl) (by rw [hX]; exact Nat.zero_le _) (by rw [hX]; exact Nat.zero_le _) dX8_tryTurn_22 (fun v5 hv5 => ?_)
    refine g_if_ne (tgt := 31) h dX8_tryTurn_25 (by decide) (fun c6 => ?_) (fun c6 => ?_)
    · refine g_aload_n h 0 dX8_tryTurn_31 rfl ?_
      refine g_iload_n h 3 dX8_tryTurn_32 rfl ?_
      refine k_V_v (st := []) h hX (tX8_keepIf (xl X) G F ω hI b (hK)) rfl ⟨kd_lt rfl, ob_21 rfl⟩ rfl miX8_keepIf tw_817 (by decide) (by decide) rfl (Nat.le_of_ble_eq_true rfl) (by rw [hX]; exact Nat.zero_le _) (by rw [hX]; exact Nat.zero_le _) dX8_tryTurn_33 (fun w7 hw7 iw7 => ?_)
      refine g_aload_n h 0 dX8_tryTurn_36 rfl ?_
      refine g_iload_n h 1 dX8_tryTurn_37 rfl ?_
      refine g_iconst (v := 4) h dX8_tryTurn_38 (by decide) ?_
      refine k_V_i (st := []) h hX (tX8_ofJ (xl X) G F w7 iw7 j 4 (by clear iw7; replace hv1 := hv1.symm; replace hv2 := hv2.symm; replace hv3 := hv3.symm; replace hv5 := hv5.symm; replace hw7 := hw7.symm; subst hw7 hv5 hv3 hv2 hv1; exact isJ_rg hW c4) (by decide)) rfl ⟨kd_lt rfl, ob_21 rfl⟩ rfl miX8_ofJ tw_821 (by decide) (by decide) rfl (Nat.le_of_ble_eq_true rfl) (by rw [hX]; exact Nat.zero_le _) (by rw [hX]; exact Nat.zero_le _) dX8_tryTurn_39 (fun v8 hv8 => ?_)
      refine g_istore (loc2 := [(4, .int v8), (0, .ref (F + 647)), (1, .int j), (2, .int m), (3, .int b)]) h dX8_tryTurn_42 (by decide) rfl ?_
      refine g_aload_n h 1 dX8_tryTurn_44 rfl ?_
      refine q_8_at h rfl tw_708 dX8_tryTurn_45 ?_
      refine g_sipush (v := 266) h dX8_tryTurn_48 (by decide) ?_
      refine g_bipush (v := 6) h dX8_tryTurn_51 (by decide) ?_
      refine g_iload_n h 2 dX8_tryTurn_53 rfl ?_
      refine g_imul h dX8_tryTurn_54 (g_name fun v9 hv9 => ?_)
      refine g_iadd h dX8_tryTurn_55 (g_name fun v10 hv10 => ?_)
      refine g_iconst (v := 4) h dX8_tryTurn_56 (by decide) ?_
      refine g_iadd h dX8_tryTurn_57 (g_name fun v11 hv11 => ?_)
      refine g_iload_n h 3 dX8_tryTurn_58 rfl ?_
      refine g_is (q := 22) h iw7 rfl rfl (by decide) (by clear iw7; replace hv1 := hv1.symm; replace hv2 := hv2.symm; replace hv3 := hv3.symm; replace hv5 := hv5.symm; replace hw7 := hw7.symm; replace hv8 := hv8.symm; replace hv9 := hv9.symm; replace hv10 := hv10.symm; replace hv11 := hv11.symm; subst hv11 hv10 hv9 hv8 hw7 hv5 hv3 hv2 hv1; exact ixJ (isJ_rg hW c4) (by decide)) dX8_tryTurn_59 (fun w12 hw12 iw12 => ?_)
      refine g_iload h 0 dX8_tryTurn_60 rfl ?_
      exact e_iret h iw12 dX8_tryTurn_62 (by clear iw7 iw12; replace hv1 := hv1.symm; replace hv2 := hv2.symm; replace hv3 := hv3.symm; replace hv5 := hv5.symm; replace hw7 := hw7.symm; replace hv8 := hv8.symm; replace hv9 := hv9.symm; replace hv10 := hv10.symm; replace hv11 := hv11.symm; replace hw12 := hw12.symm; subst hw12 hv11 hv10 hv9 hv8 hw7 hv5 hv3 hv2 hv1; unfold m_tT; first | (simp only [if_neg c4, if_neg c6]; done) | (simp only [if_neg c4, if_neg c6]; rfl)) (by clear iw7 iw12; replace hv1 := hv1.symm; replace hv2 := hv2.symm; replace hv3 := hv3.symm; replace hv5 := hv5.symm; replace hw7 := hw7.symm; replace hv8 := hv8.symm; replace hv9 := hv9.symm; replace hv10 := hv10.symm; replace hv11 := hv11.symm; replace hw12 := hw12.symm; subst hw12 hv11 hv10 hv9 hv8 hw7 hv5 hv3 hv2 hv1; unfold m_tT; first | (simp only [if_neg c4, if_neg c6]; done) | (simp only [if_neg c4, if_neg c6]; rfl))
    · refine g_bipush (v := (-2)) h dX8_tryTurn_28 (by decide) ?_
      exact e_iret h hI dX8_tryTurn_30 (by replace hv1 := hv1.symm; replace hv2 := hv2.symm; replace hv3 := hv3.symm; replace hv5 := hv5.symm; subst hv5 hv3 hv2 hv1; unfold m_tT; first | (simp only [if_neg c4, if_pos c6]; done) | (simp only [if_neg c4, if_pos c6]; rfl)) (by replace hv1 := hv1.symm; replace hv2 := hv2.symm; replace hv3 := hv3.symm; replace hv5 := hv5.symm; subst hv5 hv3 hv2 hv1; unfold m_tT; first | (simp only [if_neg c4, if_pos c6]; done) | (simp only [if_neg c4, if_pos c6]; rfl))
  · refine g_iconst (v := (-1)) h dX8_tryTurn_17 (by decide) ?_
    exact e_iret h hI dX8_tryTurn_18 (by replace hv1 := hv1.symm; replace hv2 := hv2.symm; replace hv3 := hv3.symm; subst hv3 hv2 hv1; unfold m_tT; first | (simp only [if_pos c4]; done) | (simp only [if_pos c4]; rfl)) (by replace hv1 := hv1.symm; replace hv2 := hv2.symm; replace hv3 := hv3.symm; subst hv3 hv2 hv1; unfold m_tT; first | (simp only [if_pos c4]; done) | (simp only [if_pos c4]; rfl))
set_option maxHeartbeats 4000000 in
set_option maxRecDepth 100000 in
theorem tX8_turn (l0 : Launch) (G : fG) (F : Nat) (ω : fOm) (hI : Inv ω) (j : Int32) (m : Int32) (hW : MW (ω 648)) (hK : MK ω) : CT l0 G F yX8_turn cX8_turn 3 (some .int) 3 [.ref (F + 647), .int j, .int m] ω (some (.int ((m_tT ω j m 1).1))) ((m_tT ω j m 1).2) := by
  refine ct_met (own := RX8) (by decide +kernel) rfl (Nat.le_of_ble_eq_true rfl) (fun X hXl hX h => ?_)
  subst hXl
  refine g_aload_n h 0 dX8_turn_0 rfl ?_
  refine g_iload_n h 1 dX8_turn_1 rfl ?_
  refine g_iload_n h 2 dX8_turn_2 rfl ?_
  refine g_iconst (v := 1) h dX8_turn_3 (by decide) ?_
  refine k_V_j (st := []) h hX (tX8_tryTurn (xl X) G F ω hI j m 1 (hW) (hK)) rfl ⟨kd_lt rfl, ob_21 rfl⟩ rfl miX8_tryTurn tw_813 (by decide) (by decide) rfl (Nat.le_of_ble_eq_true rfl) (by rw [hX]; exact Nat.zero_le _) (by rw [hX]; exact Nat.zero_le _) dX8_turn_4 (fun v1 w2 hv1 hw2 iw2 => ?_)
  exact e_iret h iw2 dX8_turn_7 (by clear iw2; replace hv1 := hv1.symm; replace hw2 := hw2.symm; subst hw2 hv1; rfl) (by clear iw2; replace hv1 := hv1.symm; replace hw2 := hw2.symm; subst hw2 hv1; rfl)
set_option maxHeartbeats 4000000 in
set_option maxRecDepth 100000 in
theorem tX8_tryFeed (l0 : Launch) (G : fG) (F : Nat) (ω : fOm) (hI : Inv ω) (d : Int32) (v : Int32) (b : Int32) (hW : MW (ω 648)) (hK : MK ω) : CT l0 G F yX8_tryFeed cX8_tryFeed 4 (some .int) 2 [.ref (F + 647), .int d, .int v, .int b] ω (some (.int ((m_tF ω d v b).1))) ((m_tF ω d v b).2) := by
  refine ct_met (own := RX8) (by decide +kernel) rfl (Nat.le_of_ble_eq_true rfl) (fun X hXl hX h => ?_)
  subst hXl
  refine g_aload_n h 0 dX8_tryFeed_0 rfl ?_
  refine g_iload_n h 1 dX8_tryFeed_1 rfl ?_
  refine k_V_i (st := []) h hX (tX8_isDevice (xl X) G F ω hI d) rfl ⟨kd_lt rfl, ob_21 rfl⟩ rfl miX8_isDevice tw_833 (by decide) (by decide) rfl (Nat.le_of_ble_eq_true rfl) (by rw [hX]; exact Nat.zero_le _) (by rw [hX]; exact Nat.zero_le _) dX8_tryFeed_2 (fun v1 hv1 => ?_)
  refine g_if_eq (tgt := 18) h dX8_tryFeed_5 (by decide) (fun c2 => ?_) (fun c2 => ?_)
  · refine g_iconst (v := (-1)) h dX8_tryFeed_18 (by decide) ?_
    exact e_iret h hI dX8_tryFeed_19 (by replace hv1 := hv1.symm; subst hv1; unfold m_tF; first | (simp only [if_pos c2]; done) | (simp only [if_pos c2]; rfl)) (by replace hv1 := hv1.symm; subst hv1; unfold m_tF; first | (simp only [if_pos c2]; done) | (simp only [if_pos c2]; rfl))
  · refine g_aload_n h 0 dX8_tryFeed_8 rfl ?_
    refine g_iload_n h 1 dX8_tryFeed_9 rfl ?_
    refine g_iconst (v := 0) h dX8_tryFeed_10 (by decide) ?_
    refine k_V_i (st := []) h hX (tX8_ofD (xl X) G F ω hI d 0 (by replace hv1 := hv1.symm; subst hv1; exact (isD_rg hW c2)) (by decide)) rfl ⟨kd_lt rfl, ob_21 rfl⟩ rfl miX8_ofD tw_837 (by decide) (by decide) rfl (Nat.le_of_ble_eq_true rfl) (by rw [hX]; exact Nat.zero_le _) (by rw [hX]; exact Nat.zero_le _) dX8_tryFeed_11 (fun v3 hv3 => ?_)
    refine g_iconst (v := 2) h dX8_tryFeed_14 (by decide) ?_
    refine g_icmp_eq (tgt := 20) h dX8_tryFeed_15 (by decide) (fun c4 => ?_) (fun c4 => ?_)
    · refine g_iload_n h 2 dX8_tryFeed_20 rfl ?_
      refine k_S_i (st := []) h hX (tX8_isValue (xl X) G F ω hI v) rfl miX8_isValue tw_794 (by decide) (by decide) rfl (Nat.le_of_ble_eq_true rfl) (by rw [hX]; exact Nat.zero_le _) (by rw [hX]; exact Nat.zero_le _) dX8_tryFeed_21 (fun v5 hv5 => ?_)
      refine g_if_ne (tgt := 30) h dX8_tryFeed_24 (by decide) (fun c6 => ?_) (fun c6 => ?_)
      · refine g_aload_n h 0 dX8_tryFeed_30 rfl ?_
        refine g_iload_n h 1 dX8_tryFeed_31 rfl ?_
        refine g_iconst (v := 5) h dX8_tryFeed_32 (by decide) ?_
        refine k_V_i (st := []) h hX (tX8_ofD (xl X) G F ω hI d 5 (by replace hv1 := hv1.symm; replace hv3 := hv3.symm; replace hv5 := hv5.symm; subst hv5 hv3 hv1; exact (isD_rg hW c2)) (by decide)) rfl ⟨kd_lt rfl, ob_21 rfl⟩ rfl miX8_ofD tw_837 (by decide) (by decide) rfl (Nat.le_of_ble_eq_true rfl) (by rw [hX]; exact Nat.zero_le _) (by rw [hX]; exact Nat.zero_le _) dX8_tryFeed_33 (fun v7 hv7 => ?_)
        refine g_bipush (v := 12) h dX8_tryFeed_36 (by decide) ?_
        refine g_icmp_ne (tgt := 44) h dX8_tryFeed_38 (by decide) (fun c8 => ?_) (fun c8 => ?_)
        · refine g_aload_n h 0 dX8_tryFeed_44 rfl ?_
          refine g_iload_n h 3 dX8_tryFeed_45 rfl ?_
          refine k_V_v (st := []) h hX (tX8_keepIf (xl X) G F ω hI b (hK)) rfl ⟨kd_lt rfl, ob_21 rfl⟩ rfl miX8_keepIf tw_817 (by decide) (by decide) rfl (Nat.le_of_ble_eq_true rfl) (by rw [hX]; exact Nat.zero_le _) (by rw [hX]; exact Nat.zero_le _) dX8_tryFeed_46 (fun w9 hw9 iw9 => ?_)
          refine g_aload_n h 0 dX8_tryFeed_49 rfl ?_
          refine g_iload_n h 1 dX8_tryFeed_50 rfl ?_
          refine g_bipush (v := 7) h dX8_tryFeed_51 (by decide) ?_
          refine g_aload_n h 0 dX8_tryFeed_53 rfl ?_
          refine g_iload_n h 1 dX8_tryFeed_54 rfl ?_
          refine g_iconst (v := 5) h dX8_tryFeed_55 (by decide) ?_
          refine k_V_i (st := [.int 7, .int d, .ref (F + 647)]) h hX (tX8_ofD (xl X) G F w9 iw9 d 5 (by clear iw9; replace hv1 := hv1.symm; replace hv3 := hv3.symm; replace hv5 := hv5.symm; replace hv7 := hv7.symm; replace hw9 := hw9.symm; subst hw9 hv7 hv5 hv3 hv1; exact (isD_rg hW c2)) (by decide)) rfl ⟨kd_lt rfl, ob_21 rfl⟩ rfl miX8_ofD tw_837 (by decide) (by decide) rfl (Nat.le_of_ble_eq_true rfl) (by rw [hX]; exact Nat.zero_le _) (by rw [hX]; exact Nat.zero_le _) dX8_tryFeed_56 (fun v10 hv10 => ?_)
          refine g_iadd h dX8_tryFeed_59 (g_name fun v11 hv11 => ?_)
          refine g_iload_n h 2 dX8_tryFeed_60 rfl ?_
          refine k_V_v (st := []) h hX (tX8_layD (xl X) G F w9 iw9 d v11 v (by clear iw9; replace hv1 := hv1.symm; replace hv3 := hv3.symm; replace hv5 := hv5.symm; replace hv7 := hv7.symm; replace hw9 := hw9.symm; replace hv10 := hv10.symm; replace hv11 := hv11.symm; subst hv11 hv10 hw9 hv7 hv5 hv3 hv1; exact (isD_rg hW c2)) (by clear iw9; replace hv1 := hv1.symm; replace hv3 := hv3.symm; replace hv5 := hv5.symm; replace hv7 := hv7.symm; replace hw9 := hw9.symm; replace hv10 := hv10.symm; replace hv11 := hv11.symm; subst hv11 hv10 hw9 hv7 hv5 hv3 hv1; rw [kIf_648]; exact w_9 (hW.D5 (isD_rg hW c2) (Or.inr c4)) c8)) rfl ⟨kd_lt rfl, ob_21 rfl⟩ rfl miX8_layD tw_801 (by decide) (by decide) rfl (Nat.le_of_ble_eq_true rfl) (by rw [hX]; exact Nat.zero_le _) (by rw [hX]; exact Nat.zero_le _) dX8_tryFeed_61 (fun w12 hw12 iw12 => ?_)
          refine g_aload_n h 0 dX8_tryFeed_64 rfl ?_
          refine g_iload_n h 1 dX8_tryFeed_65 rfl ?_
          refine g_iconst (v := 5) h dX8_tryFeed_66 (by decide) ?_
          refine g_aload_n h 0 dX8_tryFeed_67 rfl ?_
          refine g_iload_n h 1 dX8_tryFeed_68 rfl ?_
          refine g_iconst (v := 5) h dX8_tryFeed_69 (by decide) ?_
          refine k_V_i (st := [.int 5, .int d, .ref (F + 647)]) h hX (tX8_ofD (xl X) G F w12 iw12 d 5 (by clear iw9 iw12; replace hv1 := hv1.symm; replace hv3 := hv3.symm; replace hv5 := hv5.symm; replace hv7 := hv7.symm; replace hw9 := hw9.symm; replace hv10 := hv10.symm; replace hv11 := hv11.symm; replace hw12 := hw12.symm; subst hw12 hv11 hv10 hw9 hv7 hv5 hv3 hv1; exact (isD_rg hW c2)) (by decide)) rfl ⟨kd_lt rfl, ob_21 rfl⟩ rfl miX8_ofD tw_837 (by decide) (by decide) rfl (Nat.le_of_ble_eq_true rfl) (by rw [hX]; exact Nat.zero_le _) (by rw [hX]; exact Nat.zero_le _) dX8_tryFeed_70 (fun v13 hv13 => ?_)
          refine g_iconst (v := 1) h dX8_tryFeed_73 (by decide) ?_
          refine g_iadd h dX8_tryFeed_74 (g_name fun v14 hv14 => ?_)
          refine k_V_v (st := []) h hX (tX8_layD (xl X) G F w12 iw12 d 5 v14 (by clear iw9 iw12; replace hv1 := hv1.symm; replace hv3 := hv3.symm; replace hv5 := hv5.symm; replace hv7 := hv7.symm; replace hw9 := hw9.symm; replace hv10 := hv10.symm; replace hv11 := hv11.symm; replace hw12 := hw12.symm; replace hv13 := hv13.symm; replace hv14 := hv14.symm; subst hv14 hv13 hw12 hv11 hv10 hw9 hv7 hv5 hv3 hv1; exact (isD_rg hW c2)) (by decide)) rfl ⟨kd_lt rfl, ob_21 rfl⟩ rfl miX8_layD tw_801 (by decide) (by decide) rfl (Nat.le_of_ble_eq_true rfl) (by rw [hX]; exact Nat.zero_le _) (by rw [hX]; exact Nat.zero_le _) dX8_tryFeed_75 (fun w15 hw15 iw15 => ?_)
          refine g_aload_n h 0 dX8_tryFeed_78 rfl ?_
          refine g_iload_n h 1 dX8_tryFeed_79 rfl ?_
          refine g_iconst (v := 5) h dX8_tryFeed_80 (by decide) ?_
          refine k_V_i (st := []) h hX (tX8_ofD (xl X) G F w15 iw15 d 5 (by clear iw9 iw12 iw15; replace hv1 := hv1.symm; replace hv3 := hv3.symm; replace hv5 := hv5.symm; replace hv7 := hv7.symm; replace hw9 := hw9.symm; replace hv10 := hv10.symm; replace hv11 := hv11.symm; replace hw12 := hw12.symm; replace hv13 := hv13.symm; replace hv14 := hv14.symm; replace hw15 := hw15.symm; subst hw15 hv14 hv13 hw12 hv11 hv10 hw9 hv7 hv5 hv3 hv1; exact (isD_rg hW c2)) (by decide)) rfl ⟨kd_lt rfl, ob_21 rfl⟩ rfl miX8_ofD tw_837 (by decide) (by decide) rfl (Nat.le_of_ble_eq_true rfl) (by rw [hX]; exact Nat.zero_le _) (by rw [hX]; exact Nat.zero_le _) dX8_tryFeed_81 (fun v16 hv16 => ?_)
          exact e_iret h iw15 dX8_tryFeed_84 (by clear iw9 iw12 iw15; replace hv1 := hv1.symm; replace hv3 := hv3.symm; replace hv5 := hv5.symm; replace hv7 := hv7.symm; replace hw9 := hw9.symm; replace hv10 := hv10.symm; replace hv11 := hv11.symm; replace hw12 := hw12.symm; replace hv13 := hv13.symm; replace hv14 := hv14.symm; replace hw15 := hw15.symm; replace hv16 := hv16.symm; subst hv16 hw15 hv14 hv13 hw12 hv11 hv10 hw9 hv7 hv5 hv3 hv1; unfold m_tF; first | (simp only [if_neg c2, if_pos c4, if_neg c6, if_neg c8]; done) | (simp only [if_neg c2, if_pos c4, if_neg c6, if_neg c8]; rfl)) (by clear iw9 iw12 iw15; replace hv1 := hv1.symm; replace hv3 := hv3.symm; replace hv5 := hv5.symm; replace hv7 := hv7.symm; replace hw9 := hw9.symm; replace hv10 := hv10.symm; replace hv11 := hv11.symm; replace hw12 := hw12.symm; replace hv13 := hv13.symm; replace hv14 := hv14.symm; replace hw15 := hw15.symm; replace hv16 := hv16.symm; subst hv16 hw15 hv14 hv13 hw12 hv11 hv10 hw9 hv7 hv5 hv3 hv1; unfold m_tF; first | (simp only [if_neg c2, if_pos c4, if_neg c6, if_neg c8]; done) | (simp only [if_neg c2, if_pos c4, if_neg c6, if_neg c8]; rfl))
        · refine g_bipush (v := (-4)) h dX8_tryFeed_41 (by decide) ?_
          exact e_iret h hI dX8_tryFeed_43 (by replace hv1 := hv1.symm; replace hv3 := hv3.symm; replace hv5 := hv5.symm; replace hv7 := hv7.symm; subst hv7 hv5 hv3 hv1; unfold m_tF; first | (simp only [if_neg c2, if_pos c4, if_neg c6, if_pos c8]; done) | (simp only [if_neg c2, if_pos c4, if_neg c6, if_pos c8]; rfl)) (by replace hv1 := hv1.symm; replace hv3 := hv3.symm; replace hv5 := hv5.symm; replace hv7 := hv7.symm; subst hv7 hv5 hv3 hv1; unfold m_tF; first | (simp only [if_neg c2, if_pos c4, if_neg c6, if_pos c8]; done) | (simp only [if_neg c2, if_pos c4, if_neg c6, if_pos c8]; rfl))
      · refine g_bipush (v := (-2)) h dX8_tryFeed_27 (by decide) ?_
        exact e_iret h hI dX8_tryFeed_29 (by replace hv1 := hv1.symm; replace hv3 := hv3.symm; replace hv5 := hv5.symm; subst hv5 hv3 hv1; unfold m_tF; first | (simp only [if_neg c2, if_pos c4, if_pos c6]; done) | (simp only [if_neg c2, if_pos c4, if_pos c6]; rfl)) (by replace hv1 := hv1.symm; replace hv3 := hv3.symm; replace hv5 := hv5.symm; subst hv5 hv3 hv1; unfold m_tF; first | (simp only [if_neg c2, if_pos c4, if_pos c6]; done) | (simp only [if_neg c2, if_pos c4, if_pos c6]; rfl))
    · refine g_iconst (v := (-1)) h dX8_tryFeed_18 (by decide) ?_
      exact e_iret h hI dX8_tryFeed_19 (by replace hv1 := hv1.symm; replace hv3 := hv3.symm; subst hv3 hv1; unfold m_tF; first | (simp only [if_neg c2, if_neg c4]; done) | (simp only [if_neg c2, if_neg c4]; rfl)) (by replace hv1 := hv1.symm; replace hv3 := hv3.symm; subst hv3 hv1; unfold m_tF; first | (simp only [if_neg c2, if_neg c4]; done) | (simp only [if_neg c2, if_neg c4]; rfl))
set_option maxHeartbeats 4000000 in
set_option maxRecDepth 100000 in
theorem tX8_feed (l0 : Launch) (G : fG) (F : Nat) (ω : fOm) (hI : Inv ω) (d : Int32) (v : Int32) (hW : MW (ω 648)) (hK : MK ω) : CT l0 G F yX8_feed cX8_feed 3 (some .int) 3 [.ref (F + 647), .int d, .int v] ω (some (.int ((m_tF ω d v 1).1))) ((m_tF ω d v 1).2) := by
  refine ct_met (own := RX8) (by decide +kernel) rfl (Nat.le_of_ble_eq_true rfl) (fun X hXl hX h => ?_)
  subst hXl
  refine g_aload_n h 0 dX8_feed_0 rfl ?_
  refine g_iload_n h 1 dX8_feed_1 rfl ?_
  refine g_iload_n h 2 dX8_feed_2 rfl ?_
  refine g_iconst (v := 1) h dX8_feed_3 (by decide) ?_
  refine k_V_j (st := []) h hX (tX8_tryFeed (xl X) G F ω hI d v 1 (hW) (hK)) rfl ⟨kd_lt rfl, ob_21 rfl⟩ rfl miX8_tryFeed tw_829 (by decide) (by decide) rfl (Nat.le_of_ble_eq_true rfl) (by rw [hX]; exact Nat.zero_le _) (by rw [hX]; exact Nat.zero_le _) dX8_feed_4 (fun v1 w2 hv1 hw2 iw2 => ?_)
  exact e_iret h iw2 dX8_feed_7 (by clear iw2; replace hv1 := hv1.symm; replace hw2 := hw2.symm; subst hw2 hv1; rfl) (by clear iw2; replace hv1 := hv1.symm; replace hw2 := hw2.symm; subst hw2 hv1; rfl)
set_option maxHeartbeats 4000000 in
set_option maxRecDepth 100000 in
theorem tX8_flashes (l0 : Launch) (G : fG) (F : Nat) (ω : fOm) (hI : Inv ω) (l : Int32) (hl : 0 ≤ l ∧ l ≤ 4) (hW : MW (ω 648)) : CT l0 G F yX8_flashes cX8_flashes 4 (some .int) 1 [.ref (F + 647), .int l] ω (some (.int (m_flashes ω l))) ω := by
  refine ct_met (own := RX8) (by decide +kernel) rfl (Nat.le_of_ble_eq_true rfl) (fun X hXl hX h => ?_)
  subst hXl
  refine g_iconst (v := 0) h dX8_flashes_0 (by decide) ?_
  refine g_istore_n (loc2 := [(2, .int 0), (0, .ref (F + 647)), (1, .int l)]) h dX8_flashes_1 (by decide) rfl ?_
  refine g_iconst (v := 0) h dX8_flashes_2 (by decide) ?_
  refine g_istore_n (loc2 := [(3, .int 0), (2, .int 0), (0, .ref (F + 647)), (1, .int l)]) h dX8_flashes_3 (by decide) rfl ?_
  have e2 : 0 = nI 0 := by skip; first | rfl | exact nI_0.symm | exact nI_0 | decide
  have e3 : 0 = m_fl ω l 0 := by skip; first | rfl | exact nI_0.symm | exact nI_0 | decide
  refine g_lt (ω2 := ω) (loc2 := [(3, .int (nI 0)), (2, .int (m_fl ω l 0)), (0, .ref (F + 647)), (1, .int l)]) rfl (lc_i e2 (lc_i e3 rfl)) rfl ?_
  refine g_loop3 (hd := 4) ((ω 648 (iL l 0)).toNatClampNeg) (fun j1 => Inv ω) (fun j1 => [(3, .int (nI j1)), (2, .int (m_fl ω l j1)), (0, .ref (F + 647)), (1, .int l)]) (fun j1 => cel F G ω) hI (fun j1 hj7 hP5 ih6 => ?_)
  (try dsimp only)
  have iv8 := hP5
  refine g_iload_n h 0 dX8_flashes_4 rfl ?_
  refine g_aload_n h 2 dX8_flashes_5 rfl ?_
  refine g_iload_n h 3 dX8_flashes_6 rfl ?_
  refine g_iconst (v := 0) h dX8_flashes_7 (by decide) ?_
  refine k_V_i (st := [.int (nI j1)]) h hX (tX8_ofL (xl X) G F ω iv8 l 0 (hl) (by decide)) rfl ⟨kd_lt rfl, ob_21 rfl⟩ rfl miX8_ofL tw_787 (by decide) (by decide) rfl (Nat.le_of_ble_eq_true rfl) (by rw [hX]; exact Nat.zero_le _) (by rw [hX]; exact Nat.zero_le _) dX8_flashes_8 (fun v9 hv9 => ?_)
  refine g_icmp_ge (tgt := 41) h dX8_flashes_11 (by decide) (fun c10 => ?_) (fun c10 => ?_)
  · have hN11 : j1 = ((ω 648 (iL l 0)).toNatClampNeg) := by clear ih6; replace hv9 := hv9.symm; subst hv9; exact lp_ge (hW.L hl).1 c10 hj7
    refine g_iload_n h 1 dX8_flashes_41 rfl ?_
    exact e_iret h iv8 dX8_flashes_42 (by clear ih6; replace hv9 := hv9.symm; subst hv9; rw [hN11]; rfl) rfl
  · have hlt12 : j1 < ((ω 648 (iL l 0)).toNatClampNeg) := by clear ih6; replace hv9 := hv9.symm; subst hv9; exact lp_lt (hW.L hl).1 c10 hj7
    refine g_iload_n h 1 dX8_flashes_14 rfl ?_
    refine g_aload_n h 2 dX8_flashes_15 rfl ?_
    refine q_8_at h rfl tw_708 dX8_flashes_16 ?_
    refine g_iload_n h 3 dX8_flashes_19 rfl ?_
    refine g_iload_n h 0 dX8_flashes_20 rfl ?_
    refine k_S_i (st := [.ref (F + 648), .int (m_fl ω l j1)]) h hX (tX8_cell (xl X) G F ω iv8 l (nI j1)) rfl miX8_cell tw_849 (by decide) (by decide) rfl (Nat.le_of_ble_eq_true rfl) (by rw [hX]; exact Nat.zero_le _) (by rw [hX]; exact Nat.zero_le _) dX8_flashes_21 (fun v13 hv13 => ?_)
    refine g_ia (q := 22) h rfl rfl (by decide) (by clear ih6; replace hv9 := hv9.symm; replace hv13 := hv13.symm; subst hv13 hv9; exact ixc (mc_rg hl (nj_rg (Nat.lt_of_lt_of_le hlt12 (tn_le (n := 32) (hW.L hl) rfl))))) dX8_flashes_24 (fun v14 hv14 => ?_)
    have hm33_19 : ∀ m18 : Int32, m18 = (if v14 < 0 then 0 else 1) → Vg X (MQ (xb X) (fQ G F (fP F G (some (.int (m_flashes ω l))) ω)) (xa X) (xs X) 0 0 (fA F)) G F 4 NC (cel F G ω) 0 0 33 [(3, .int (nI j1)), (2, .int (m_fl ω l j1)), (0, .ref (F + 647)), (1, .int l)] [.int m18, .int (m_fl ω l j1)] := by
      intro m18 hm18
      refine g_iadd h dX8_flashes_33 (g_name fun v20 hv20 => ?_)
      refine g_istore_n (loc2 := [(2, .int v20), (3, .int (nI j1)), (0, .ref (F + 647)), (1, .int l)]) h dX8_flashes_34 (by decide) rfl ?_
      obtain ⟨v21, hv21⟩ : ∃ z : Int32, z = (nI j1) + 1 := ⟨_, rfl⟩
      refine g_iinc (v := v21) (loc2 := [(3, .int v21), (2, .int v20), (0, .ref (F + 647)), (1, .int l)]) h 1 dX8_flashes_35 rfl (by rw [hv21]; rfl) (by decide) rfl ?_
      refine g_goto (tgt := 4) h dX8_flashes_38 (by decide) ?_
      have e22 : v21 = nI (j1 + 1) := by clear ih6; replace hv9 := hv9.symm; replace hv13 := hv13.symm; replace hv14 := hv14.symm; replace hm18 := hm18.symm; replace hv20 := hv20.symm; replace hv21 := hv21.symm; subst hv21 hv20 hm18 hv14 hv13 hv9; first | rfl | exact nI_1 _ | (rw [nI_succ])
      have e23 : v20 = m_fl ω l (j1 + 1) := by clear ih6; replace hv9 := hv9.symm; replace hv13 := hv13.symm; replace hv14 := hv14.symm; replace hm18 := hm18.symm; replace hv20 := hv20.symm; replace hv21 := hv21.symm; subst hv21 hv20 hm18 hv14 hv13 hv9; rfl
      exact g_lt rfl (lc_i e22 (lc_i e23 rfl)) rfl (ih6 hlt12 iv8)
    refine g_if_lt (tgt := 32) h dX8_flashes_25 (by decide) (fun c15 => ?_) (fun c15 => ?_)
    · refine g_iconst (v := 0) h dX8_flashes_32 (by decide) ?_
      exact hm33_19 _ (by clear ih6; replace hv9 := hv9.symm; replace hv13 := hv13.symm; replace hv14 := hv14.symm; subst hv14 hv13 hv9; rw [if_pos c15])
    · refine g_iconst (v := 1) h dX8_flashes_28 (by decide) ?_
      refine g_goto (tgt := 33) h dX8_flashes_29 (by decide) ?_
      exact hm33_19 _ (by clear ih6; replace hv9 := hv9.symm; replace hv13 := hv13.symm; replace hv14 := hv14.symm; subst hv14 hv13 hv9; rw [if_neg c15])
set_option maxHeartbeats 4000000 in
set_option maxRecDepth 100000 in
theorem tX8_tryLight (l0 : Launch) (G : fG) (F : Nat) (ω : fOm) (hI : Inv ω) (l : Int32) (p : Int32) (v : Int32) (b : Int32) (hW : MW (ω 648)) (hK : MK ω) : CT l0 G F yX8_tryLight cX8_tryLight 5 (some .int) 3 [.ref (F + 647), .int l, .int p, .int v, .int b] ω (some (.int ((m_tL ω l p v b).1))) ((m_tL ω l p v b).2) := by
  refine ct_met (own := RX8) (by decide +kernel) rfl (Nat.le_of_ble_eq_true rfl) (fun X hXl hX h => ?_)
  subst hXl
  refine g_aload_n h 0 dX8_tryLight_0 rfl ?_
  refine g_iload_n h 1 dX8_tryLight_1 rfl ?_
  refine g_iload_n h 2 dX8_tryLight_2 rfl ?_
  refine k_V_i (st := []) h hX (tX8_isPlace (xl X) G F ω hI l p (hW)) rfl ⟨kd_lt rfl, ob_21 rfl⟩ rfl miX8_isPlace tw_779 (by decide) (by decide) rfl (Nat.le_of_ble_eq_true rfl) (by rw [hX]; exact Nat.zero_le _) (by rw [hX]; exact Nat.zero_le _) dX8_tryLight_3 (fun v1 hv1 => ?_)
  refine g_if_ne (tgt := 11) h dX8_tryLight_6 (by decide) (fun c2 => ?_) (fun c2 => ?_)
  · refine g_iload_n h 3 dX8_tryLight_11 rfl ?_
    refine k_S_i (st := []) h hX (tX8_isValue (xl X) G F ω hI v) rfl miX8_isValue tw_794 (by decide) (by decide) rfl (Nat.le_of_ble_eq_true rfl) (by rw [hX]; exact Nat.zero_le _) (by rw [hX]; exact Nat.zero_le _) dX8_tryLight_12 (fun v3 hv3 => ?_)
    refine g_if_ne (tgt := 21) h dX8_tryLight_15 (by decide) (fun c4 => ?_) (fun c4 => ?_)
    · refine g_aload_n h 0 dX8_tryLight_21 rfl ?_
      refine q_8_at h rfl tw_708 dX8_tryLight_22 ?_
      refine g_iload_n h 1 dX8_tryLight_25 rfl ?_
      refine g_iload_n h 2 dX8_tryLight_26 rfl ?_
      refine k_S_i (st := [.ref (F + 648)]) h hX (tX8_cell (xl X) G F ω hI l p) rfl miX8_cell tw_849 (by decide) (by decide) rfl (Nat.le_of_ble_eq_true rfl) (by rw [hX]; exact Nat.zero_le _) (by rw [hX]; exact Nat.zero_le _) dX8_tryLight_27 (fun v5 hv5 => ?_)
      refine g_ia (q := 22) h rfl rfl (by decide) (by replace hv1 := hv1.symm; replace hv3 := hv3.symm; replace hv5 := hv5.symm; subst hv5 hv3 hv1; exact ixc (mc_rg (isP_rg hW c2).1 (isP_rg hW c2).2)) dX8_tryLight_30 (fun v6 hv6 => ?_)
      refine g_if_lt (tgt := 37) h dX8_tryLight_31 (by decide) (fun c7 => ?_) (fun c7 => ?_)
      · refine g_aload_n h 0 dX8_tryLight_37 rfl ?_
        refine g_iload h 4 dX8_tryLight_38 rfl ?_
        refine k_V_v (st := []) h hX (tX8_keepIf (xl X) G F ω hI b (hK)) rfl ⟨kd_lt rfl, ob_21 rfl⟩ rfl miX8_keepIf tw_817 (by decide) (by decide) rfl (Nat.le_of_ble_eq_true rfl) (by rw [hX]; exact Nat.zero_le _) (by rw [hX]; exact Nat.zero_le _) dX8_tryLight_40 (fun w8 hw8 iw8 => ?_)
        refine g_aload_n h 0 dX8_tryLight_43 rfl ?_
        refine g_iload_n h 1 dX8_tryLight_44 rfl ?_
        refine g_iload_n h 1 dX8_tryLight_45 rfl ?_
        refine g_iload_n h 2 dX8_tryLight_46 rfl ?_
        refine k_S_i (st := [.int l, .ref (F + 647)]) h hX (tX8_cell (xl X) G F w8 iw8 l p) rfl miX8_cell tw_849 (by decide) (by decide) rfl (Nat.le_of_ble_eq_true rfl) (by rw [hX]; exact Nat.zero_le _) (by rw [hX]; exact Nat.zero_le _) dX8_tryLight_47 (fun v9 hv9 => ?_)
        refine g_iload_n h 3 dX8_tryLight_50 rfl ?_
        refine k_V_v (st := []) h hX (tX8_shine (xl X) G F w8 iw8 l v9 v (by clear iw8; replace hv1 := hv1.symm; replace hv3 := hv3.symm; replace hv5 := hv5.symm; replace hv6 := hv6.symm; replace hw8 := hw8.symm; replace hv9 := hv9.symm; subst hv9 hw8 hv6 hv5 hv3 hv1; exact (isP_rg hW c2).1) (by clear iw8; replace hv1 := hv1.symm; replace hv3 := hv3.symm; replace hv5 := hv5.symm; replace hv6 := hv6.symm; replace hw8 := hw8.symm; replace hv9 := hv9.symm; subst hv9 hw8 hv6 hv5 hv3 hv1; exact mc_rg (isP_rg hW c2).1 (isP_rg hW c2).2)) rfl ⟨kd_lt rfl, ob_21 rfl⟩ rfl miX8_shine tw_852 (by decide) (by decide) rfl (Nat.le_of_ble_eq_true rfl) (by rw [hX]; exact Nat.zero_le _) (by rw [hX]; exact Nat.zero_le _) dX8_tryLight_51 (fun w10 hw10 iw10 => ?_)
        refine g_aload_n h 0 dX8_tryLight_54 rfl ?_
        refine g_iload_n h 1 dX8_tryLight_55 rfl ?_
        refine k_V_i (st := []) h hX (tX8_flashes (xl X) G F w10 iw10 l (by clear iw8 iw10; replace hv1 := hv1.symm; replace hv3 := hv3.symm; replace hv5 := hv5.symm; replace hv6 := hv6.symm; replace hw8 := hw8.symm; replace hv9 := hv9.symm; replace hw10 := hw10.symm; subst hw10 hv9 hw8 hv6 hv5 hv3 hv1; exact (isP_rg hW c2).1) (by clear iw8 iw10; replace hv1 := hv1.symm; replace hv3 := hv3.symm; replace hv5 := hv5.symm; replace hv6 := hv6.symm; replace hw8 := hw8.symm; replace hv9 := hv9.symm; replace hw10 := hw10.symm; subst hw10 hv9 hw8 hv6 hv5 hv3 hv1; exact (shine_K KP.rf (isP_rg hW c2).1 (mc_rg (isP_rg hW c2).1 (isP_rg hW c2).2)).mw (by rw [kIf_648]; exact hW))) rfl ⟨kd_lt rfl, ob_21 rfl⟩ rfl miX8_flashes tw_860 (by decide) (by decide) rfl (Nat.le_of_ble_eq_true rfl) (by rw [hX]; exact Nat.zero_le _) (by rw [hX]; exact Nat.zero_le _) dX8_tryLight_56 (fun v11 hv11 => ?_)
        exact e_iret h iw10 dX8_tryLight_59 (by clear iw8 iw10; replace hv1 := hv1.symm; replace hv3 := hv3.symm; replace hv5 := hv5.symm; replace hv6 := hv6.symm; replace hw8 := hw8.symm; replace hv9 := hv9.symm; replace hw10 := hw10.symm; replace hv11 := hv11.symm; subst hv11 hw10 hv9 hw8 hv6 hv5 hv3 hv1; unfold m_tL; first | (simp only [if_neg c2, if_neg c4, if_pos c7]; done) | (simp only [if_neg c2, if_neg c4, if_pos c7]; rfl)) (by clear iw8 iw10; replace hv1 := hv1.symm; replace hv3 := hv3.symm; replace hv5 := hv5.symm; replace hv6 := hv6.symm; replace hw8 := hw8.symm; replace hv9 := hv9.symm; replace hw10 := hw10.symm; replace hv11 := hv11.symm; subst hv11 hw10 hv9 hw8 hv6 hv5 hv3 hv1; unfold m_tL; first | (simp only [if_neg c2, if_neg c4, if_pos c7]; done) | (simp only [if_neg c2, if_neg c4, if_pos c7]; rfl))
      · refine g_bipush (v := (-5)) h dX8_tryLight_34 (by decide) ?_
        exact e_iret h hI dX8_tryLight_36 (by replace hv1 := hv1.symm; replace hv3 := hv3.symm; replace hv5 := hv5.symm; replace hv6 := hv6.symm; subst hv6 hv5 hv3 hv1; unfold m_tL; first | (simp only [if_neg c2, if_neg c4, if_neg c7]; done) | (simp only [if_neg c2, if_neg c4, if_neg c7]; rfl)) (by replace hv1 := hv1.symm; replace hv3 := hv3.symm; replace hv5 := hv5.symm; replace hv6 := hv6.symm; subst hv6 hv5 hv3 hv1; unfold m_tL; first | (simp only [if_neg c2, if_neg c4, if_neg c7]; done) | (simp only [if_neg c2, if_neg c4, if_neg c7]; rfl))
    · refine g_bipush (v := (-2)) h dX8_tryLight_18 (by decide) ?_
      exact e_iret h hI dX8_tryLight_20 (by replace hv1 := hv1.symm; replace hv3 := hv3.symm; subst hv3 hv1; unfold m_tL; first | (simp only [if_neg c2, if_pos c4]; done) | (simp only [if_neg c2, if_pos c4]; rfl)) (by replace hv1 := hv1.symm; replace hv3 := hv3.symm; subst hv3 hv1; unfold m_tL; first | (simp only [if_neg c2, if_pos c4]; done) | (simp only [if_neg c2, if_pos c4]; rfl))
  · refine g_iconst (v := (-1)) h dX8_tryLight_9 (by decide) ?_
    exact e_iret h hI dX8_tryLight_10 (by replace hv1 := hv1.symm; subst hv1; unfold m_tL; first | (simp only [if_pos c2]; done) | (simp only [if_pos c2]; rfl)) (by replace hv1 := hv1.symm; subst hv1; unfold m_tL; first | (simp only [if_pos c2]; done) | (simp only [if_pos c2]; rfl))
set_option maxHeartbeats 4000000 in
set_option maxRecDepth 100000 in
theorem tX8_light (l0 : Launch) (G : fG) (F : Nat) (ω : fOm) (hI : Inv ω) (l : Int32) (p : Int32) (v : Int32) (hW : MW (ω 648)) (hK : MK ω) : CT l0 G F yX8_light cX8_light 4 (some .int) 4 [.ref (F + 647), .int l, .int p, .int v] ω (some (.int ((m_tL ω l p v 1).1))) ((m_tL ω l p v 1).2) := by
  refine ct_met (own := RX8) (by decide +kernel) rfl (Nat.le_of_ble_eq_true rfl) (fun X hXl hX h => ?_)
  subst hXl
  refine g_aload_n h 0 dX8_light_0 rfl ?_
  refine g_iload_n h 1 dX8_light_1 rfl ?_
  refine g_iload_n h 2 dX8_light_2 rfl ?_
  refine g_iload_n h 3 dX8_light_3 rfl ?_
  refine g_iconst (v := 1) h dX8_light_4 (by decide) ?_
  refine k_V_j (st := []) h hX (tX8_tryLight (xl X) G F ω hI l p v 1 (hW) (hK)) rfl ⟨kd_lt rfl, ob_21 rfl⟩ rfl miX8_tryLight tw_845 (by decide) (by decide) rfl (Nat.le_of_ble_eq_true rfl) (by rw [hX]; exact Nat.zero_le _) (by rw [hX]; exact Nat.zero_le _) dX8_light_5 (fun v1 w2 hv1 hw2 iw2 => ?_)
  exact e_iret h iw2 dX8_light_8 (by clear iw2; replace hv1 := hv1.symm; replace hw2 := hw2.symm; subst hw2 hv1; rfl) (by clear iw2; replace hv1 := hv1.symm; replace hw2 := hw2.symm; subst hw2 hv1; rfl)
set_option maxHeartbeats 4000000 in
set_option maxRecDepth 100000 in
theorem tX8_tryTicks (l0 : Launch) (G : fG) (F : Nat) (ω : fOm) (hI : Inv ω) (t : Int32) (b : Int32) (hW : MW (ω 648)) (hK : MK ω) : CT l0 G F yX8_tryTicks cX8_tryTicks 3 (some .int) 6 [.ref (F + 647), .int t, .int b] ω (some (.int ((m_tK ω t b).1))) ((m_tK ω t b).2) := by
  refine ct_met (own := RX8) (by decide +kernel) rfl (Nat.le_of_ble_eq_true rfl) (fun X hXl hX h => ?_)
  subst hXl
  refine g_iload_n h 1 dX8_tryTicks_0 rfl ?_
  refine g_iconst (v := 1) h dX8_tryTicks_1 (by decide) ?_
  refine g_sipush (v := 200) h dX8_tryTicks_2 (by decide) ?_
  refine k_S_i (st := []) h hX (tX8_in (xl X) G F ω hI t 1 200) rfl miX8_in tw_761 (by decide) (by decide) rfl (Nat.le_of_ble_eq_true rfl) (by rw [hX]; exact Nat.zero_le _) (by rw [hX]; exact Nat.zero_le _) dX8_tryTicks_5 (fun v1 hv1 => ?_)
  refine g_if_ne (tgt := 14) h dX8_tryTicks_8 (by decide) (fun c2 => ?_) (fun c2 => ?_)
  · refine g_aload_n h 0 dX8_tryTicks_14 rfl ?_
    refine g_iload_n h 2 dX8_tryTicks_15 rfl ?_
    refine k_V_v (st := []) h hX (tX8_keepIf (xl X) G F ω hI b (hK)) rfl ⟨kd_lt rfl, ob_21 rfl⟩ rfl miX8_keepIf tw_817 (by decide) (by decide) rfl (Nat.le_of_ble_eq_true rfl) (by rw [hX]; exact Nat.zero_le _) (by rw [hX]; exact Nat.zero_le _) dX8_tryTicks_16 (fun w3 hw3 iw3 => ?_)
    refine g_aload_n h 0 dX8_tryTicks_19 rfl ?_
    refine g_iload_n h 1 dX8_tryTicks_20 rfl ?_
    refine k_V_v (st := []) h hX (tX8_passAll (xl X) G F w3 iw3 t (by clear iw3; replace hv1 := hv1.symm; replace hw3 := hw3.symm; subst hw3 hv1; rw [kIf_648]; exact hW) (by clear iw3; replace hv1 := hv1.symm; replace hw3 := hw3.symm; subst hw3 hv1; exact btwT c2)) rfl ⟨kd_lt rfl, ob_21 rfl⟩ rfl miX8_passAll tw_872 (by decide) (by decide) rfl (Nat.le_of_ble_eq_true rfl) (by rw [hX]; exact Nat.zero_le _) (by rw [hX]; exact Nat.zero_le _) dX8_tryTicks_21 (fun w4 hw4 iw4 => ?_)
    refine g_aload_n h 0 dX8_tryTicks_24 rfl ?_
    refine q_8_at h rfl tw_708 dX8_tryTicks_25 ?_
    refine g_iconst (v := 4) h dX8_tryTicks_28 (by decide) ?_
    refine g_ia (q := 22) h rfl rfl (by decide) (vp_n (j := 4) (Nat.le_of_ble_eq_true rfl) (Nat.le_of_ble_eq_true rfl)) dX8_tryTicks_29 (fun v5 hv5 => ?_)
    replace hv5 : v5 = w4 648 4 := hv5
    exact e_iret h iw4 dX8_tryTicks_30 (by clear iw3 iw4; replace hv1 := hv1.symm; replace hw3 := hw3.symm; replace hw4 := hw4.symm; replace hv5 := hv5.symm; subst hv5 hw4 hw3 hv1; unfold m_tK; first | (simp only [if_neg c2]; done) | (simp only [if_neg c2]; rfl)) (by clear iw3 iw4; replace hv1 := hv1.symm; replace hw3 := hw3.symm; replace hw4 := hw4.symm; replace hv5 := hv5.symm; subst hv5 hw4 hw3 hv1; unfold m_tK; first | (simp only [if_neg c2]; done) | (simp only [if_neg c2]; rfl))
  · refine g_bipush (v := (-2)) h dX8_tryTicks_11 (by decide) ?_
    exact e_iret h hI dX8_tryTicks_13 (by replace hv1 := hv1.symm; subst hv1; unfold m_tK; first | (simp only [if_pos c2]; done) | (simp only [if_pos c2]; rfl)) (by replace hv1 := hv1.symm; subst hv1; unfold m_tK; first | (simp only [if_pos c2]; done) | (simp only [if_pos c2]; rfl))
set_option maxHeartbeats 4000000 in
set_option maxRecDepth 100000 in
theorem tX8_ticks (l0 : Launch) (G : fG) (F : Nat) (ω : fOm) (hI : Inv ω) (t : Int32) (hW : MW (ω 648)) (hK : MK ω) : CT l0 G F yX8_ticks cX8_ticks 2 (some .int) 7 [.ref (F + 647), .int t] ω (some (.int ((m_tK ω t 1).1))) ((m_tK ω t 1).2) := by
  refine ct_met (own := RX8) (by decide +kernel) rfl (Nat.le_of_ble_eq_true rfl) (fun X hXl hX h => ?_)
  subst hXl
  refine g_aload_n h 0 dX8_ticks_0 rfl ?_
  refine g_iload_n h 1 dX8_ticks_1 rfl ?_
  refine g_iconst (v := 1) h dX8_ticks_2 (by decide) ?_
  refine k_V_j (st := []) h hX (tX8_tryTicks (xl X) G F ω hI t 1 (hW) (hK)) rfl ⟨kd_lt rfl, ob_21 rfl⟩ rfl miX8_tryTicks tw_868 (by decide) (by decide) rfl (Nat.le_of_ble_eq_true rfl) (by rw [hX]; exact Nat.zero_le _) (by rw [hX]; exact Nat.zero_le _) dX8_ticks_3 (fun v1 w2 hv1 hw2 iw2 => ?_)
  exact e_iret h iw2 dX8_ticks_6 (by clear iw2; replace hv1 := hv1.symm; replace hw2 := hw2.symm; subst hw2 hv1; rfl) (by clear iw2; replace hv1 := hv1.symm; replace hw2 := hw2.symm; subst hw2 hv1; rfl)
set_option maxHeartbeats 4000000 in
set_option maxRecDepth 100000 in
theorem tX8_at (l0 : Launch) (G : fG) (F : Nat) (ω : fOm) (hI : Inv ω) (l : Int32) (p : Int32) (wh : Int32) (hW : MW (ω 648)) : CT l0 G F yX8_at cX8_at 5 (some .int) 3 [.ref (F + 647), .int l, .int p, .int wh] ω (some (.int (m_at ω l p wh))) ω := by
  refine ct_met (own := RX8) (by decide +kernel) rfl (Nat.le_of_ble_eq_true rfl) (fun X hXl hX h => ?_)
  subst hXl
  refine g_aload_n h 0 dX8_at_0 rfl ?_
  refine g_iload_n h 1 dX8_at_1 rfl ?_
  refine g_iload_n h 2 dX8_at_2 rfl ?_
  refine k_V_i (st := []) h hX (tX8_isPlace (xl X) G F ω hI l p (hW)) rfl ⟨kd_lt rfl, ob_21 rfl⟩ rfl miX8_isPlace tw_779 (by decide) (by decide) rfl (Nat.le_of_ble_eq_true rfl) (by rw [hX]; exact Nat.zero_le _) (by rw [hX]; exact Nat.zero_le _) dX8_at_3 (fun v1 hv1 => ?_)
  refine g_if_ne (tgt := 11) h dX8_at_6 (by decide) (fun c2 => ?_) (fun c2 => ?_)
  · refine g_iload_n h 1 dX8_at_11 rfl ?_
    refine g_iload_n h 2 dX8_at_12 rfl ?_
    refine k_S_i (st := []) h hX (tX8_cell (xl X) G F ω hI l p) rfl miX8_cell tw_849 (by decide) (by decide) rfl (Nat.le_of_ble_eq_true rfl) (by rw [hX]; exact Nat.zero_le _) (by rw [hX]; exact Nat.zero_le _) dX8_at_13 (fun v3 hv3 => ?_)
    refine g_istore (loc2 := [(4, .int v3), (0, .ref (F + 647)), (1, .int l), (2, .int p), (3, .int wh)]) h dX8_at_16 (by decide) rfl ?_
    refine g_iload_n h 4 dX8_at_18 rfl ?_
    rcases sw_4 wh with c4 | c4 | c4 | c4 | c4
    · refine g_tableIn (off := 29) (tgt := 48) h dX8_at_19 (by rw [c4]; decide) (by rw [c4]; decide) (by rw [c4]; rfl) (by decide) ?_
      refine g_aload_n h 1 dX8_at_48 rfl ?_
      refine q_8_at h rfl tw_708 dX8_at_49 ?_
      refine g_iload h 0 dX8_at_52 rfl ?_
      refine g_iload_n h 4 dX8_at_54 rfl ?_
      refine g_iadd h dX8_at_55 (g_name fun v5 hv5 => ?_)
      refine g_ia (q := 22) h rfl rfl (by decide) (by replace hv1 := hv1.symm; replace hv3 := hv3.symm; replace hv5 := hv5.symm; subst hv5 hv3 hv1; exact ixw (mc_rg (isP_rg hW c2).1 (isP_rg hW c2).2) (Or.inl c4)) dX8_at_56 (fun v6 hv6 => ?_)
      exact e_iret h hI dX8_at_57 (by replace hv1 := hv1.symm; replace hv3 := hv3.symm; replace hv5 := hv5.symm; replace hv6 := hv6.symm; subst hv6 hv5 hv3 hv1; unfold m_at; simp [c2, c4]) rfl
    · refine g_tableIn (off := 29) (tgt := 48) h dX8_at_19 (by rw [c4]; decide) (by rw [c4]; decide) (by rw [c4]; rfl) (by decide) ?_
      refine g_aload_n h 1 dX8_at_48 rfl ?_
      refine q_8_at h rfl tw_708 dX8_at_49 ?_
      refine g_iload h 0 dX8_at_52 rfl ?_
      refine g_iload_n h 4 dX8_at_54 rfl ?_
      refine g_iadd h dX8_at_55 (g_name fun v7 hv7 => ?_)
      refine g_ia (q := 22) h rfl rfl (by decide) (by replace hv1 := hv1.symm; replace hv3 := hv3.symm; replace hv7 := hv7.symm; subst hv7 hv3 hv1; exact ixw (mc_rg (isP_rg hW c2).1 (isP_rg hW c2).2) (Or.inr c4)) dX8_at_56 (fun v8 hv8 => ?_)
      exact e_iret h hI dX8_at_57 (by replace hv1 := hv1.symm; replace hv3 := hv3.symm; replace hv7 := hv7.symm; replace hv8 := hv8.symm; subst hv8 hv7 hv3 hv1; unfold m_at; simp [c2, c4]) rfl
    · refine g_tableIn (off := 39) (tgt := 58) h dX8_at_19 (by rw [c4]; decide) (by rw [c4]; decide) (by rw [c4]; rfl) (by decide) ?_
      refine g_aload_n h 1 dX8_at_58 rfl ?_
      refine q_8_at h rfl tw_708 dX8_at_59 ?_
      refine g_iload h 0 dX8_at_62 rfl ?_
      refine g_ia (q := 22) h rfl rfl (by decide) (by replace hv1 := hv1.symm; replace hv3 := hv3.symm; subst hv3 hv1; exact ixc (mc_rg (isP_rg hW c2).1 (isP_rg hW c2).2)) dX8_at_64 (fun v9 hv9 => ?_)
      refine g_if_lt (tgt := 87) h dX8_at_65 (by decide) (fun c10 => ?_) (fun c10 => ?_)
      · refine g_bipush (v := (-6)) h dX8_at_87 (by decide) ?_
        exact e_iret h hI dX8_at_89 (by replace hv1 := hv1.symm; replace hv3 := hv3.symm; replace hv9 := hv9.symm; subst hv9 hv3 hv1; unfold m_at; simp [c2, c4, c10]) rfl
      · refine g_aload_n h 1 dX8_at_68 rfl ?_
        refine q_8_at h rfl tw_708 dX8_at_69 ?_
        refine g_iconst (v := 4) h dX8_at_72 (by decide) ?_
        refine g_ia (q := 22) h rfl rfl (by decide) (vp_n (j := 4) (Nat.le_of_ble_eq_true rfl) (Nat.le_of_ble_eq_true rfl)) dX8_at_73 (fun v11 hv11 => ?_)
        replace hv11 : v11 = ω 648 4 := hv11
        refine g_aload_n h 1 dX8_at_74 rfl ?_
        refine q_8_at h rfl tw_708 dX8_at_75 ?_
        refine g_iload h 0 dX8_at_78 rfl ?_
        refine g_iconst (v := 2) h dX8_at_80 (by decide) ?_
        refine g_iadd h dX8_at_81 (g_name fun v12 hv12 => ?_)
        refine g_ia (q := 22) h rfl rfl (by decide) (by replace hv1 := hv1.symm; replace hv3 := hv3.symm; replace hv9 := hv9.symm; replace hv11 := hv11.symm; replace hv12 := hv12.symm; subst hv12 hv11 hv9 hv3 hv1; exact ixc2 (mc_rg (isP_rg hW c2).1 (isP_rg hW c2).2)) dX8_at_82 (fun v13 hv13 => ?_)
        refine g_isub h dX8_at_83 (g_name fun v14 hv14 => ?_)
        refine g_goto (tgt := 89) h dX8_at_84 (by decide) ?_
        exact e_iret h hI dX8_at_89 (by replace hv1 := hv1.symm; replace hv3 := hv3.symm; replace hv9 := hv9.symm; replace hv11 := hv11.symm; replace hv12 := hv12.symm; replace hv13 := hv13.symm; replace hv14 := hv14.symm; subst hv14 hv13 hv12 hv11 hv9 hv3 hv1; unfold m_at; simp [c2, c4, c10]) rfl
    · refine g_tableIn (off := 71) (tgt := 90) h dX8_at_19 (by rw [c4]; decide) (by rw [c4]; decide) (by rw [c4]; rfl) (by decide) ?_
      refine g_aload_n h 1 dX8_at_90 rfl ?_
      refine g_iload_n h 2 dX8_at_91 rfl ?_
      refine g_iconst (v := 0) h dX8_at_92 (by decide) ?_
      refine k_V_i (st := []) h hX (tX8_ofL (xl X) G F ω hI l 0 (by replace hv1 := hv1.symm; replace hv3 := hv3.symm; subst hv3 hv1; exact (isP_rg hW c2).1) (by decide)) rfl ⟨kd_lt rfl, ob_21 rfl⟩ rfl miX8_ofL tw_787 (by decide) (by decide) rfl (Nat.le_of_ble_eq_true rfl) (by rw [hX]; exact Nat.zero_le _) (by rw [hX]; exact Nat.zero_le _) dX8_at_93 (fun v15 hv15 => ?_)
      refine g_iload_n h 3 dX8_at_96 rfl ?_
      refine g_isub h dX8_at_97 (g_name fun v16 hv16 => ?_)
      exact e_iret h hI dX8_at_98 (by replace hv1 := hv1.symm; replace hv3 := hv3.symm; replace hv15 := hv15.symm; replace hv16 := hv16.symm; subst hv16 hv15 hv3 hv1; unfold m_at; simp [c2, c4]) rfl
    · refine g_tableOut (tgt := 99) h dX8_at_19 c4 (by decide) ?_
      obtain ⟨c17, c18, c19, c20⟩ := swo_4 c4
      refine g_bipush (v := (-2)) h dX8_at_99 (by decide) ?_
      exact e_iret h hI dX8_at_101 (by replace hv1 := hv1.symm; replace hv3 := hv3.symm; subst hv3 hv1; unfold m_at; simp [c2, c17, c18, c19, c20]) rfl
  · refine g_iconst (v := (-1)) h dX8_at_9 (by decide) ?_
    exact e_iret h hI dX8_at_10 (by replace hv1 := hv1.symm; subst hv1; unfold m_at; simp [c2]) rfl
set_option maxHeartbeats 4000000 in
set_option maxRecDepth 100000 in
theorem tX8_strengths (l0 : Launch) (G : fG) (F : Nat) (ω : fOm) (hI : Inv ω) (l : Int32) (hl : 0 ≤ l ∧ l ≤ 4) (hW : MW (ω 648)) : CT l0 G F yX8_strengths cX8_strengths 4 (some .int) 1 [.ref (F + 647), .int l] ω (some (.int (m_strengths ω l))) ω := by
  refine ct_met (own := RX8) (by decide +kernel) rfl (Nat.le_of_ble_eq_true rfl) (fun X hXl hX h => ?_)
  subst hXl
  refine g_iconst (v := 0) h dX8_strengths_0 (by decide) ?_
  refine g_istore_n (loc2 := [(2, .int 0), (0, .ref (F + 647)), (1, .int l)]) h dX8_strengths_1 (by decide) rfl ?_
  refine g_iconst (v := 0) h dX8_strengths_2 (by decide) ?_
  refine g_istore_n (loc2 := [(3, .int 0), (2, .int 0), (0, .ref (F + 647)), (1, .int l)]) h dX8_strengths_3 (by decide) rfl ?_
  have e2 : 0 = nI 0 := by skip; first | rfl | exact nI_0.symm | exact nI_0 | decide
  have e3 : 0 = m_sm ω l 0 := by skip; first | rfl | exact nI_0.symm | exact nI_0 | decide
  refine g_lt (ω2 := ω) (loc2 := [(3, .int (nI 0)), (2, .int (m_sm ω l 0)), (0, .ref (F + 647)), (1, .int l)]) rfl (lc_i e2 (lc_i e3 rfl)) rfl ?_
  refine g_loop3 (hd := 4) ((ω 648 (iL l 0)).toNatClampNeg) (fun j1 => Inv ω) (fun j1 => [(3, .int (nI j1)), (2, .int (m_sm ω l j1)), (0, .ref (F + 647)), (1, .int l)]) (fun j1 => cel F G ω) hI (fun j1 hj7 hP5 ih6 => ?_)
  (try dsimp only)
  have iv8 := hP5
  refine g_iload_n h 0 dX8_strengths_4 rfl ?_
  refine g_aload_n h 2 dX8_strengths_5 rfl ?_
  refine g_iload_n h 3 dX8_strengths_6 rfl ?_
  refine g_iconst (v := 0) h dX8_strengths_7 (by decide) ?_
  refine k_V_i (st := [.int (nI j1)]) h hX (tX8_ofL (xl X) G F ω iv8 l 0 (hl) (by decide)) rfl ⟨kd_lt rfl, ob_21 rfl⟩ rfl miX8_ofL tw_787 (by decide) (by decide) rfl (Nat.le_of_ble_eq_true rfl) (by rw [hX]; exact Nat.zero_le _) (by rw [hX]; exact Nat.zero_le _) dX8_strengths_8 (fun v9 hv9 => ?_)
  refine g_icmp_ge (tgt := 35) h dX8_strengths_11 (by decide) (fun c10 => ?_) (fun c10 => ?_)
  · have hN11 : j1 = ((ω 648 (iL l 0)).toNatClampNeg) := by clear ih6; replace hv9 := hv9.symm; subst hv9; exact lp_ge (hW.L hl).1 c10 hj7
    refine g_iload_n h 1 dX8_strengths_35 rfl ?_
    exact e_iret h iv8 dX8_strengths_36 (by clear ih6; replace hv9 := hv9.symm; subst hv9; rw [hN11]; rfl) rfl
  · have hlt12 : j1 < ((ω 648 (iL l 0)).toNatClampNeg) := by clear ih6; replace hv9 := hv9.symm; subst hv9; exact lp_lt (hW.L hl).1 c10 hj7
    refine g_iload_n h 1 dX8_strengths_14 rfl ?_
    refine g_aload_n h 2 dX8_strengths_15 rfl ?_
    refine q_8_at h rfl tw_708 dX8_strengths_16 ?_
    refine g_iload_n h 3 dX8_strengths_19 rfl ?_
    refine g_iload_n h 0 dX8_strengths_20 rfl ?_
    refine k_S_i (st := [.ref (F + 648), .int (m_sm ω l j1)]) h hX (tX8_cell (xl X) G F ω iv8 l (nI j1)) rfl miX8_cell tw_849 (by decide) (by decide) rfl (Nat.le_of_ble_eq_true rfl) (by rw [hX]; exact Nat.zero_le _) (by rw [hX]; exact Nat.zero_le _) dX8_strengths_21 (fun v13 hv13 => ?_)
    refine g_iconst (v := 1) h dX8_strengths_24 (by decide) ?_
    refine g_iadd h dX8_strengths_25 (g_name fun v14 hv14 => ?_)
    refine g_ia (q := 22) h rfl rfl (by decide) (by clear ih6; replace hv9 := hv9.symm; replace hv13 := hv13.symm; replace hv14 := hv14.symm; subst hv14 hv13 hv9; exact ixc1 (mc_rg hl (nj_rg (Nat.lt_of_lt_of_le hlt12 (tn_le (n := 32) (hW.L hl) rfl))))) dX8_strengths_26 (fun v15 hv15 => ?_)
    refine g_iadd h dX8_strengths_27 (g_name fun v16 hv16 => ?_)
    refine g_istore_n (loc2 := [(2, .int v16), (3, .int (nI j1)), (0, .ref (F + 647)), (1, .int l)]) h dX8_strengths_28 (by decide) rfl ?_
    obtain ⟨v17, hv17⟩ : ∃ z : Int32, z = (nI j1) + 1 := ⟨_, rfl⟩
    refine g_iinc (v := v17) (loc2 := [(3, .int v17), (2, .int v16), (0, .ref (F + 647)), (1, .int l)]) h 1 dX8_strengths_29 rfl (by rw [hv17]; rfl) (by decide) rfl ?_
    refine g_goto (tgt := 4) h dX8_strengths_32 (by decide) ?_
    have e18 : v17 = nI (j1 + 1) := by clear ih6; replace hv9 := hv9.symm; replace hv13 := hv13.symm; replace hv14 := hv14.symm; replace hv15 := hv15.symm; replace hv16 := hv16.symm; replace hv17 := hv17.symm; subst hv17 hv16 hv15 hv14 hv13 hv9; first | rfl | exact nI_1 _ | (rw [nI_succ])
    have e19 : v16 = m_sm ω l (j1 + 1) := by clear ih6; replace hv9 := hv9.symm; replace hv13 := hv13.symm; replace hv14 := hv14.symm; replace hv15 := hv15.symm; replace hv16 := hv16.symm; replace hv17 := hv17.symm; subst hv17 hv16 hv15 hv14 hv13 hv9; rfl
    exact g_lt rfl (lc_i e18 (lc_i e19 rfl)) rfl (ih6 hlt12 iv8)
set_option maxHeartbeats 4000000 in
set_option maxRecDepth 100000 in
theorem tX8_faintest (l0 : Launch) (G : fG) (F : Nat) (ω : fOm) (hI : Inv ω) (l : Int32) (hl : 0 ≤ l ∧ l ≤ 4) (hW : MW (ω 648)) : CT l0 G F yX8_faintest cX8_faintest 5 (some .int) 1 [.ref (F + 647), .int l] ω (some (.int (m_faintest ω l))) ω := by
  refine ct_met (own := RX8) (by decide +kernel) rfl (Nat.le_of_ble_eq_true rfl) (fun X hXl hX h => ?_)
  subst hXl
  refine g_iconst (v := 0) h dX8_faintest_0 (by decide) ?_
  refine g_istore_n (loc2 := [(2, .int 0), (0, .ref (F + 647)), (1, .int l)]) h dX8_faintest_1 (by decide) rfl ?_
  refine g_iconst (v := 0) h dX8_faintest_2 (by decide) ?_
  refine g_istore_n (loc2 := [(3, .int 0), (2, .int 0), (0, .ref (F + 647)), (1, .int l)]) h dX8_faintest_3 (by decide) rfl ?_
  have e2 : 0 = nI 0 := by skip; first | rfl | exact nI_0.symm | exact nI_0 | decide
  have e3 : 0 = m_fn ω l 0 := by skip; first | rfl | exact nI_0.symm | exact nI_0 | decide
  refine g_lt (ω2 := ω) (loc2 := [(3, .int (nI 0)), (2, .int (m_fn ω l 0)), (0, .ref (F + 647)), (1, .int l)]) rfl (lc_i e2 (lc_i e3 rfl)) rfl ?_
  refine g_loop3 (hd := 4) ((ω 648 (iL l 0)).toNatClampNeg) (fun j1 => Inv ω) (fun j1 => [(3, .int (nI j1)), (2, .int (m_fn ω l j1)), (0, .ref (F + 647)), (1, .int l)]) (fun j1 => cel F G ω) hI (fun j1 hj7 hP5 ih6 => ?_)
  (try dsimp only)
  have iv8 := hP5
  refine g_iload_n h 0 dX8_faintest_4 rfl ?_
  refine g_aload_n h 2 dX8_faintest_5 rfl ?_
  refine g_iload_n h 3 dX8_faintest_6 rfl ?_
  refine g_iconst (v := 0) h dX8_faintest_7 (by decide) ?_
  refine k_V_i (st := [.int (nI j1)]) h hX (tX8_ofL (xl X) G F ω iv8 l 0 (hl) (by decide)) rfl ⟨kd_lt rfl, ob_21 rfl⟩ rfl miX8_ofL tw_787 (by decide) (by decide) rfl (Nat.le_of_ble_eq_true rfl) (by rw [hX]; exact Nat.zero_le _) (by rw [hX]; exact Nat.zero_le _) dX8_faintest_8 (fun v9 hv9 => ?_)
  refine g_icmp_ge (tgt := 56) h dX8_faintest_11 (by decide) (fun c10 => ?_) (fun c10 => ?_)
  · have hN11 : j1 = ((ω 648 (iL l 0)).toNatClampNeg) := by clear ih6; replace hv9 := hv9.symm; subst hv9; exact lp_ge (hW.L hl).1 c10 hj7
    refine g_iload_n h 1 dX8_faintest_56 rfl ?_
    exact e_iret h iv8 dX8_faintest_57 (by clear ih6; replace hv9 := hv9.symm; subst hv9; rw [hN11]; rfl) rfl
  · have hlt12 : j1 < ((ω 648 (iL l 0)).toNatClampNeg) := by clear ih6; replace hv9 := hv9.symm; subst hv9; exact lp_lt (hW.L hl).1 c10 hj7
    refine g_aload_n h 2 dX8_faintest_14 rfl ?_
    refine q_8_at h rfl tw_708 dX8_faintest_15 ?_
    refine g_iload_n h 3 dX8_faintest_18 rfl ?_
    refine g_iload_n h 0 dX8_faintest_19 rfl ?_
    refine k_S_i (st := [.ref (F + 648)]) h hX (tX8_cell (xl X) G F ω iv8 l (nI j1)) rfl miX8_cell tw_849 (by decide) (by decide) rfl (Nat.le_of_ble_eq_true rfl) (by rw [hX]; exact Nat.zero_le _) (by rw [hX]; exact Nat.zero_le _) dX8_faintest_20 (fun v13 hv13 => ?_)
    refine g_iconst (v := 1) h dX8_faintest_23 (by decide) ?_
    refine g_iadd h dX8_faintest_24 (g_name fun v14 hv14 => ?_)
    refine g_ia (q := 22) h rfl rfl (by decide) (by clear ih6; replace hv9 := hv9.symm; replace hv13 := hv13.symm; replace hv14 := hv14.symm; subst hv14 hv13 hv9; exact ixc1 (mc_rg hl (nj_rg (Nat.lt_of_lt_of_le hlt12 (tn_le (n := 32) (hW.L hl) rfl))))) dX8_faintest_25 (fun v15 hv15 => ?_)
    refine g_istore (loc2 := [(4, .int v15), (3, .int (nI j1)), (2, .int (m_fn ω l j1)), (0, .ref (F + 647)), (1, .int l)]) h dX8_faintest_26 (by decide) rfl ?_
    refine g_iload h 0 dX8_faintest_28 rfl ?_
    have hm49_24 : ∀ m23 : Int32, m23 = (if v15 ≤ 0 then m_fn ω l j1 else (if (m_fn ω l j1) = 0 then v15 else (if (m_fn ω l j1) ≤ v15 then m_fn ω l j1 else v15))) → Vg X (MQ (xb X) (fQ G F (fP F G (some (.int (m_faintest ω l))) ω)) (xa X) (xs X) 0 0 (fA F)) G F 5 NC (cel F G ω) 0 0 49 [(4, .int v15), (3, .int (nI j1)), (2, .int (m_fn ω l j1)), (0, .ref (F + 647)), (1, .int l)] [.int m23] := by
      intro m23 hm23
      refine g_istore_n (loc2 := [(2, .int m23), (4, .int v15), (3, .int (nI j1)), (0, .ref (F + 647)), (1, .int l)]) h dX8_faintest_49 (by decide) rfl ?_
      obtain ⟨v25, hv25⟩ : ∃ z : Int32, z = (nI j1) + 1 := ⟨_, rfl⟩
      refine g_iinc (v := v25) (loc2 := [(3, .int v25), (2, .int m23), (4, .int v15), (0, .ref (F + 647)), (1, .int l)]) h 2 dX8_faintest_50 rfl (by rw [hv25]; rfl) (by decide) rfl ?_
      refine g_goto (tgt := 4) h dX8_faintest_53 (by decide) ?_
      refine g_loc [0, 1, 3, 4] rfl ?_
      have e26 : v25 = nI (j1 + 1) := by clear ih6; replace hv9 := hv9.symm; replace hv13 := hv13.symm; replace hv14 := hv14.symm; replace hv15 := hv15.symm; replace hm23 := hm23.symm; replace hv25 := hv25.symm; subst hv25 hm23 hv15 hv14 hv13 hv9; first | rfl | exact nI_1 _ | (rw [nI_succ])
      have e27 : m23 = m_fn ω l (j1 + 1) := by clear ih6; replace hv9 := hv9.symm; replace hv13 := hv13.symm; replace hv14 := hv14.symm; replace hv15 := hv15.symm; replace hm23 := hm23.symm; replace hv25 := hv25.symm; subst hv25 hm23 hv15 hv14 hv13 hv9; rfl
      exact g_lt rfl (lc_i e26 (lc_i e27 rfl)) rfl (ih6 hlt12 iv8)
    refine g_if_le (tgt := 48) h dX8_faintest_30 (by decide) (fun c16 => ?_) (fun c16 => ?_)
    · refine g_iload_n h 2 dX8_faintest_48 rfl ?_
      exact hm49_24 _ (by clear ih6; replace hv9 := hv9.symm; replace hv13 := hv13.symm; replace hv14 := hv14.symm; replace hv15 := hv15.symm; subst hv15 hv14 hv13 hv9; rw [if_pos c16])
    · refine g_iload_n h 2 dX8_faintest_33 rfl ?_
      refine g_if_eq (tgt := 43) h dX8_faintest_34 (by decide) (fun c18 => ?_) (fun c18 => ?_)
      · refine g_iload h 0 dX8_faintest_43 rfl ?_
        refine g_goto (tgt := 49) h dX8_faintest_45 (by decide) ?_
        exact hm49_24 _ (by clear ih6; replace hv9 := hv9.symm; replace hv13 := hv13.symm; replace hv14 := hv14.symm; replace hv15 := hv15.symm; subst hv15 hv14 hv13 hv9; rw [if_neg c16, if_pos c18])
      · refine g_iload h 0 dX8_faintest_37 rfl ?_
        refine g_iload_n h 2 dX8_faintest_39 rfl ?_
        refine g_icmp_ge (tgt := 48) h dX8_faintest_40 (by decide) (fun c20 => ?_) (fun c20 => ?_)
        · refine g_iload_n h 2 dX8_faintest_48 rfl ?_
          exact hm49_24 _ (by clear ih6; replace hv9 := hv9.symm; replace hv13 := hv13.symm; replace hv14 := hv14.symm; replace hv15 := hv15.symm; subst hv15 hv14 hv13 hv9; rw [if_neg c16, if_neg c18, if_pos c20])
        · refine g_iload h 0 dX8_faintest_43 rfl ?_
          refine g_goto (tgt := 49) h dX8_faintest_45 (by decide) ?_
          exact hm49_24 _ (by clear ih6; replace hv9 := hv9.symm; replace hv13 := hv13.symm; replace hv14 := hv14.symm; replace hv15 := hv15.symm; subst hv15 hv14 hv13 hv9; rw [if_neg c16, if_neg c18, if_neg c20])
set_option maxHeartbeats 4000000 in
set_option maxRecDepth 100000 in
theorem tX8_ofLoop (l0 : Launch) (G : fG) (F : Nat) (ω : fOm) (hI : Inv ω) (l : Int32) (wh : Int32) (hW : MW (ω 648)) : CT l0 G F yX8_ofLoop cX8_ofLoop 3 (some .int) 2 [.ref (F + 647), .int l, .int wh] ω (some (.int (m_ofLoop ω l wh))) ω := by
  refine ct_met (own := RX8) (by decide +kernel) rfl (Nat.le_of_ble_eq_true rfl) (fun X hXl hX h => ?_)
  subst hXl
  refine g_aload_n h 0 dX8_ofLoop_0 rfl ?_
  refine g_iload_n h 1 dX8_ofLoop_1 rfl ?_
  refine k_V_i (st := []) h hX (tX8_isLoop (xl X) G F ω hI l) rfl ⟨kd_lt rfl, ob_21 rfl⟩ rfl miX8_isLoop tw_783 (by decide) (by decide) rfl (Nat.le_of_ble_eq_true rfl) (by rw [hX]; exact Nat.zero_le _) (by rw [hX]; exact Nat.zero_le _) dX8_ofLoop_2 (fun v1 hv1 => ?_)
  refine g_if_ne (tgt := 10) h dX8_ofLoop_5 (by decide) (fun c2 => ?_) (fun c2 => ?_)
  · refine g_iload_n h 2 dX8_ofLoop_10 rfl ?_
    rcases sw_4 wh with c3 | c3 | c3 | c3 | c3
    · refine g_tableIn (off := 29) (tgt := 40) h dX8_ofLoop_11 (by rw [c3]; decide) (by rw [c3]; decide) (by rw [c3]; rfl) (by decide) ?_
      refine g_aload_n h 0 dX8_ofLoop_40 rfl ?_
      refine g_iload_n h 1 dX8_ofLoop_41 rfl ?_
      refine g_iconst (v := 0) h dX8_ofLoop_42 (by decide) ?_
      refine k_V_i (st := []) h hX (tX8_ofL (xl X) G F ω hI l 0 (by replace hv1 := hv1.symm; subst hv1; exact isL_rg hW c2) (by decide)) rfl ⟨kd_lt rfl, ob_21 rfl⟩ rfl miX8_ofL tw_787 (by decide) (by decide) rfl (Nat.le_of_ble_eq_true rfl) (by rw [hX]; exact Nat.zero_le _) (by rw [hX]; exact Nat.zero_le _) dX8_ofLoop_43 (fun v4 hv4 => ?_)
      exact e_iret h hI dX8_ofLoop_46 (by replace hv1 := hv1.symm; replace hv4 := hv4.symm; subst hv4 hv1; unfold m_ofLoop; simp [c2, c3]) rfl
    · refine g_tableIn (off := 36) (tgt := 47) h dX8_ofLoop_11 (by rw [c3]; decide) (by rw [c3]; decide) (by rw [c3]; rfl) (by decide) ?_
      refine g_aload_n h 0 dX8_ofLoop_47 rfl ?_
      refine g_iload_n h 1 dX8_ofLoop_48 rfl ?_
      refine k_V_i (st := []) h hX (tX8_flashes (xl X) G F ω hI l (by replace hv1 := hv1.symm; subst hv1; exact isL_rg hW c2) (hW)) rfl ⟨kd_lt rfl, ob_21 rfl⟩ rfl miX8_flashes tw_860 (by decide) (by decide) rfl (Nat.le_of_ble_eq_true rfl) (by rw [hX]; exact Nat.zero_le _) (by rw [hX]; exact Nat.zero_le _) dX8_ofLoop_49 (fun v5 hv5 => ?_)
      exact e_iret h hI dX8_ofLoop_52 (by replace hv1 := hv1.symm; replace hv5 := hv5.symm; subst hv5 hv1; unfold m_ofLoop; simp [c2, c3]) rfl
    · refine g_tableIn (off := 42) (tgt := 53) h dX8_ofLoop_11 (by rw [c3]; decide) (by rw [c3]; decide) (by rw [c3]; rfl) (by decide) ?_
      refine g_aload_n h 0 dX8_ofLoop_53 rfl ?_
      refine g_iload_n h 1 dX8_ofLoop_54 rfl ?_
      refine k_V_i (st := []) h hX (tX8_strengths (xl X) G F ω hI l (by replace hv1 := hv1.symm; subst hv1; exact isL_rg hW c2) (hW)) rfl ⟨kd_lt rfl, ob_21 rfl⟩ rfl miX8_strengths tw_940 (by decide) (by decide) rfl (Nat.le_of_ble_eq_true rfl) (by rw [hX]; exact Nat.zero_le _) (by rw [hX]; exact Nat.zero_le _) dX8_ofLoop_55 (fun v6 hv6 => ?_)
      exact e_iret h hI dX8_ofLoop_58 (by replace hv1 := hv1.symm; replace hv6 := hv6.symm; subst hv6 hv1; unfold m_ofLoop; simp [c2, c3]) rfl
    · refine g_tableIn (off := 48) (tgt := 59) h dX8_ofLoop_11 (by rw [c3]; decide) (by rw [c3]; decide) (by rw [c3]; rfl) (by decide) ?_
      refine g_aload_n h 0 dX8_ofLoop_59 rfl ?_
      refine g_iload_n h 1 dX8_ofLoop_60 rfl ?_
      refine k_V_i (st := []) h hX (tX8_faintest (xl X) G F ω hI l (by replace hv1 := hv1.symm; subst hv1; exact isL_rg hW c2) (hW)) rfl ⟨kd_lt rfl, ob_21 rfl⟩ rfl miX8_faintest tw_944 (by decide) (by decide) rfl (Nat.le_of_ble_eq_true rfl) (by rw [hX]; exact Nat.zero_le _) (by rw [hX]; exact Nat.zero_le _) dX8_ofLoop_61 (fun v7 hv7 => ?_)
      exact e_iret h hI dX8_ofLoop_64 (by replace hv1 := hv1.symm; replace hv7 := hv7.symm; subst hv7 hv1; unfold m_ofLoop; simp [c2, c3]) rfl
    · refine g_tableOut (tgt := 65) h dX8_ofLoop_11 c3 (by decide) ?_
      obtain ⟨c8, c9, c10, c11⟩ := swo_4 c3
      refine g_iload_n h 2 dX8_ofLoop_65 rfl ?_
      refine g_iconst (v := 4) h dX8_ofLoop_66 (by decide) ?_
      refine g_bipush (v := 8) h dX8_ofLoop_67 (by decide) ?_
      refine k_S_i (st := []) h hX (tX8_in (xl X) G F ω hI wh 4 8) rfl miX8_in tw_761 (by decide) (by decide) rfl (Nat.le_of_ble_eq_true rfl) (by rw [hX]; exact Nat.zero_le _) (by rw [hX]; exact Nat.zero_le _) dX8_ofLoop_69 (fun v12 hv12 => ?_)
      refine g_if_eq (tgt := 86) h dX8_ofLoop_72 (by decide) (fun c13 => ?_) (fun c13 => ?_)
      · refine g_bipush (v := (-2)) h dX8_ofLoop_86 (by decide) ?_
        exact e_iret h hI dX8_ofLoop_88 (by replace hv1 := hv1.symm; replace hv12 := hv12.symm; subst hv12 hv1; unfold m_ofLoop; simp [c2, c8, c9, c10, c11, c13]) rfl
      · refine g_aload_n h 0 dX8_ofLoop_75 rfl ?_
        refine g_iload_n h 1 dX8_ofLoop_76 rfl ?_
        refine g_iload_n h 2 dX8_ofLoop_77 rfl ?_
        refine g_iconst (v := 3) h dX8_ofLoop_78 (by decide) ?_
        refine g_isub h dX8_ofLoop_79 (g_name fun v14 hv14 => ?_)
        refine k_V_i (st := []) h hX (tX8_ofL (xl X) G F ω hI l v14 (by replace hv1 := hv1.symm; replace hv12 := hv12.symm; replace hv14 := hv14.symm; subst hv14 hv12 hv1; exact isL_rg hW c2) (by replace hv1 := hv1.symm; replace hv12 := hv12.symm; replace hv14 := hv14.symm; subst hv14 hv12 hv1; exact w_3 c13)) rfl ⟨kd_lt rfl, ob_21 rfl⟩ rfl miX8_ofL tw_787 (by decide) (by decide) rfl (Nat.le_of_ble_eq_true rfl) (by rw [hX]; exact Nat.zero_le _) (by rw [hX]; exact Nat.zero_le _) dX8_ofLoop_80 (fun v15 hv15 => ?_)
        refine g_goto (tgt := 88) h dX8_ofLoop_83 (by decide) ?_
        exact e_iret h hI dX8_ofLoop_88 (by replace hv1 := hv1.symm; replace hv12 := hv12.symm; replace hv14 := hv14.symm; replace hv15 := hv15.symm; subst hv15 hv14 hv12 hv1; unfold m_ofLoop; simp [c2, c8, c9, c10, c11, c13]) rfl
  · refine g_iconst (v := (-1)) h dX8_ofLoop_8 (by decide) ?_
    exact e_iret h hI dX8_ofLoop_9 (by replace hv1 := hv1.symm; subst hv1; unfold m_ofLoop; simp [c2]) rfl
set_option maxHeartbeats 4000000 in
set_option maxRecDepth 100000 in
theorem tX8_ofDevice (l0 : Launch) (G : fG) (F : Nat) (ω : fOm) (hI : Inv ω) (d : Int32) (wh : Int32) (hW : MW (ω 648)) : CT l0 G F yX8_ofDevice cX8_ofDevice 3 (some .int) 2 [.ref (F + 647), .int d, .int wh] ω (some (.int (m_ofDev ω d wh))) ω := by
  refine ct_met (own := RX8) (by decide +kernel) rfl (Nat.le_of_ble_eq_true rfl) (fun X hXl hX h => ?_)
  subst hXl
  refine g_aload_n h 0 dX8_ofDevice_0 rfl ?_
  refine g_iload_n h 1 dX8_ofDevice_1 rfl ?_
  refine k_V_i (st := []) h hX (tX8_isDevice (xl X) G F ω hI d) rfl ⟨kd_lt rfl, ob_21 rfl⟩ rfl miX8_isDevice tw_833 (by decide) (by decide) rfl (Nat.le_of_ble_eq_true rfl) (by rw [hX]; exact Nat.zero_le _) (by rw [hX]; exact Nat.zero_le _) dX8_ofDevice_2 (fun v1 hv1 => ?_)
  refine g_if_ne (tgt := 10) h dX8_ofDevice_5 (by decide) (fun c2 => ?_) (fun c2 => ?_)
  · refine g_iload_n h 2 dX8_ofDevice_10 rfl ?_
    refine g_iconst (v := 0) h dX8_ofDevice_11 (by decide) ?_
    refine g_bipush (v := 6) h dX8_ofDevice_12 (by decide) ?_
    refine k_S_i (st := []) h hX (tX8_in (xl X) G F ω hI wh 0 6) rfl miX8_in tw_761 (by decide) (by decide) rfl (Nat.le_of_ble_eq_true rfl) (by rw [hX]; exact Nat.zero_le _) (by rw [hX]; exact Nat.zero_le _) dX8_ofDevice_14 (fun v3 hv3 => ?_)
    refine g_if_eq (tgt := 29) h dX8_ofDevice_17 (by decide) (fun c4 => ?_) (fun c4 => ?_)
    · refine g_bipush (v := (-2)) h dX8_ofDevice_29 (by decide) ?_
      exact e_iret h hI dX8_ofDevice_31 (by replace hv1 := hv1.symm; replace hv3 := hv3.symm; subst hv3 hv1; unfold m_ofDev; first | (simp only [if_neg c2, if_pos c4]; done) | (simp only [if_neg c2, if_pos c4]; rfl)) rfl
    · refine g_aload_n h 0 dX8_ofDevice_20 rfl ?_
      refine g_iload_n h 1 dX8_ofDevice_21 rfl ?_
      refine g_iload_n h 2 dX8_ofDevice_22 rfl ?_
      refine k_V_i (st := []) h hX (tX8_ofD (xl X) G F ω hI d wh (by replace hv1 := hv1.symm; replace hv3 := hv3.symm; subst hv3 hv1; exact (isD_rg hW c2)) (by replace hv1 := hv1.symm; replace hv3 := hv3.symm; subst hv3 hv1; exact w_6 c4)) rfl ⟨kd_lt rfl, ob_21 rfl⟩ rfl miX8_ofD tw_837 (by decide) (by decide) rfl (Nat.le_of_ble_eq_true rfl) (by rw [hX]; exact Nat.zero_le _) (by rw [hX]; exact Nat.zero_le _) dX8_ofDevice_23 (fun v5 hv5 => ?_)
      refine g_goto (tgt := 31) h dX8_ofDevice_26 (by decide) ?_
      exact e_iret h hI dX8_ofDevice_31 (by replace hv1 := hv1.symm; replace hv3 := hv3.symm; replace hv5 := hv5.symm; subst hv5 hv3 hv1; unfold m_ofDev; first | (simp only [if_neg c2, if_neg c4]; done) | (simp only [if_neg c2, if_neg c4]; rfl)) rfl
  · refine g_iconst (v := (-1)) h dX8_ofDevice_8 (by decide) ?_
    exact e_iret h hI dX8_ofDevice_9 (by replace hv1 := hv1.symm; subst hv1; unfold m_ofDev; first | (simp only [if_pos c2]; done) | (simp only [if_pos c2]; rfl)) rfl
set_option maxHeartbeats 4000000 in
set_option maxRecDepth 100000 in
theorem tX8_noted (l0 : Launch) (G : fG) (F : Nat) (ω : fOm) (hI : Inv ω) (d : Int32) (b : Int32) (hW : MW (ω 648)) : CT l0 G F yX8_noted cX8_noted 3 (some .int) 2 [.ref (F + 647), .int d, .int b] ω (some (.int (m_noted ω d b))) ω := by
  refine ct_met (own := RX8) (by decide +kernel) rfl (Nat.le_of_ble_eq_true rfl) (fun X hXl hX h => ?_)
  subst hXl
  refine g_aload_n h 0 dX8_noted_0 rfl ?_
  refine g_iload_n h 1 dX8_noted_1 rfl ?_
  refine k_V_i (st := []) h hX (tX8_isDevice (xl X) G F ω hI d) rfl ⟨kd_lt rfl, ob_21 rfl⟩ rfl miX8_isDevice tw_833 (by decide) (by decide) rfl (Nat.le_of_ble_eq_true rfl) (by rw [hX]; exact Nat.zero_le _) (by rw [hX]; exact Nat.zero_le _) dX8_noted_2 (fun v1 hv1 => ?_)
  refine g_if_eq (tgt := 18) h dX8_noted_5 (by decide) (fun c2 => ?_) (fun c2 => ?_)
  · refine g_iconst (v := (-1)) h dX8_noted_18 (by decide) ?_
    exact e_iret h hI dX8_noted_19 (by replace hv1 := hv1.symm; subst hv1; unfold m_noted; first | (simp only [if_pos c2]; done) | (simp only [if_pos c2]; rfl)) rfl
  · refine g_aload_n h 0 dX8_noted_8 rfl ?_
    refine g_iload_n h 1 dX8_noted_9 rfl ?_
    refine g_iconst (v := 0) h dX8_noted_10 (by decide) ?_
    refine k_V_i (st := []) h hX (tX8_ofD (xl X) G F ω hI d 0 (by replace hv1 := hv1.symm; subst hv1; exact (isD_rg hW c2)) (by decide)) rfl ⟨kd_lt rfl, ob_21 rfl⟩ rfl miX8_ofD tw_837 (by decide) (by decide) rfl (Nat.le_of_ble_eq_true rfl) (by rw [hX]; exact Nat.zero_le _) (by rw [hX]; exact Nat.zero_le _) dX8_noted_11 (fun v3 hv3 => ?_)
    refine g_iconst (v := 1) h dX8_noted_14 (by decide) ?_
    refine g_icmp_eq (tgt := 20) h dX8_noted_15 (by decide) (fun c4 => ?_) (fun c4 => ?_)
    · refine g_iload_n h 2 dX8_noted_20 rfl ?_
      refine g_iconst (v := 0) h dX8_noted_21 (by decide) ?_
      refine g_aload_n h 0 dX8_noted_22 rfl ?_
      refine g_iload_n h 1 dX8_noted_23 rfl ?_
      refine g_iconst (v := 5) h dX8_noted_24 (by decide) ?_
      refine k_V_i (st := [.int 0, .int b]) h hX (tX8_ofD (xl X) G F ω hI d 5 (by replace hv1 := hv1.symm; replace hv3 := hv3.symm; subst hv3 hv1; exact (isD_rg hW c2)) (by decide)) rfl ⟨kd_lt rfl, ob_21 rfl⟩ rfl miX8_ofD tw_837 (by decide) (by decide) rfl (Nat.le_of_ble_eq_true rfl) (by rw [hX]; exact Nat.zero_le _) (by rw [hX]; exact Nat.zero_le _) dX8_noted_25 (fun v5 hv5 => ?_)
      refine g_iconst (v := 1) h dX8_noted_28 (by decide) ?_
      refine g_isub h dX8_noted_29 (g_name fun v6 hv6 => ?_)
      refine k_S_i (st := []) h hX (tX8_in (xl X) G F ω hI b 0 v6) rfl miX8_in tw_761 (by decide) (by decide) rfl (Nat.le_of_ble_eq_true rfl) (by rw [hX]; exact Nat.zero_le _) (by rw [hX]; exact Nat.zero_le _) dX8_noted_30 (fun v7 hv7 => ?_)
      refine g_if_eq (tgt := 48) h dX8_noted_33 (by decide) (fun c8 => ?_) (fun c8 => ?_)
      · refine g_bipush (v := (-6)) h dX8_noted_48 (by decide) ?_
        exact e_iret h hI dX8_noted_50 (by replace hv1 := hv1.symm; replace hv3 := hv3.symm; replace hv5 := hv5.symm; replace hv6 := hv6.symm; replace hv7 := hv7.symm; subst hv7 hv6 hv5 hv3 hv1; unfold m_noted; first | (simp only [if_neg c2, if_pos c4, if_pos c8]; done) | (simp only [if_neg c2, if_pos c4, if_pos c8]; rfl)) rfl
      · refine g_aload_n h 0 dX8_noted_36 rfl ?_
        refine g_iload_n h 1 dX8_noted_37 rfl ?_
        refine g_bipush (v := 7) h dX8_noted_38 (by decide) ?_
        refine g_iload_n h 2 dX8_noted_40 rfl ?_
        refine g_iadd h dX8_noted_41 (g_name fun v9 hv9 => ?_)
        refine k_V_i (st := []) h hX (tX8_ofD (xl X) G F ω hI d v9 (by replace hv1 := hv1.symm; replace hv3 := hv3.symm; replace hv5 := hv5.symm; replace hv6 := hv6.symm; replace hv7 := hv7.symm; replace hv9 := hv9.symm; subst hv9 hv7 hv6 hv5 hv3 hv1; exact (isD_rg hW c2)) (by replace hv1 := hv1.symm; replace hv3 := hv3.symm; replace hv5 := hv5.symm; replace hv6 := hv6.symm; replace hv7 := hv7.symm; replace hv9 := hv9.symm; subst hv9 hv7 hv6 hv5 hv3 hv1; exact w_7 (hW.D5 (isD_rg hW c2) (Or.inl c4)) c8)) rfl ⟨kd_lt rfl, ob_21 rfl⟩ rfl miX8_ofD tw_837 (by decide) (by decide) rfl (Nat.le_of_ble_eq_true rfl) (by rw [hX]; exact Nat.zero_le _) (by rw [hX]; exact Nat.zero_le _) dX8_noted_42 (fun v10 hv10 => ?_)
        refine g_goto (tgt := 50) h dX8_noted_45 (by decide) ?_
        exact e_iret h hI dX8_noted_50 (by replace hv1 := hv1.symm; replace hv3 := hv3.symm; replace hv5 := hv5.symm; replace hv6 := hv6.symm; replace hv7 := hv7.symm; replace hv9 := hv9.symm; replace hv10 := hv10.symm; subst hv10 hv9 hv7 hv6 hv5 hv3 hv1; unfold m_noted; first | (simp only [if_neg c2, if_pos c4, if_neg c8]; done) | (simp only [if_neg c2, if_pos c4, if_neg c8]; rfl)) rfl
    · refine g_iconst (v := (-1)) h dX8_noted_18 (by decide) ?_
      exact e_iret h hI dX8_noted_19 (by replace hv1 := hv1.symm; replace hv3 := hv3.symm; subst hv3 hv1; unfold m_noted; first | (simp only [if_neg c2, if_neg c4]; done) | (simp only [if_neg c2, if_neg c4]; rfl)) rfl
set_option maxHeartbeats 4000000 in
set_option maxRecDepth 100000 in
theorem tX8_ofJoin (l0 : Launch) (G : fG) (F : Nat) (ω : fOm) (hI : Inv ω) (j : Int32) (wh : Int32) (hW : MW (ω 648)) : CT l0 G F yX8_ofJoin cX8_ofJoin 3 (some .int) 1 [.ref (F + 647), .int j, .int wh] ω (some (.int (m_ofJoin ω j wh))) ω := by
  refine ct_met (own := RX8) (by decide +kernel) rfl (Nat.le_of_ble_eq_true rfl) (fun X hXl hX h => ?_)
  subst hXl
  refine g_iload_n h 1 dX8_ofJoin_0 rfl ?_
  refine g_iconst (v := 0) h dX8_ofJoin_1 (by decide) ?_
  refine g_aload_n h 0 dX8_ofJoin_2 rfl ?_
  refine q_8_at h rfl tw_708 dX8_ofJoin_3 ?_
  refine g_bipush (v := 7) h dX8_ofJoin_6 (by decide) ?_
  refine g_ia (q := 22) h rfl rfl (by decide) (vp_n (j := 7) (Nat.le_of_ble_eq_true rfl) (Nat.le_of_ble_eq_true rfl)) dX8_ofJoin_8 (fun v1 hv1 => ?_)
  replace hv1 : v1 = ω 648 7 := hv1
  refine g_iconst (v := 1) h dX8_ofJoin_9 (by decide) ?_
  refine g_isub h dX8_ofJoin_10 (g_name fun v2 hv2 => ?_)
  refine k_S_i (st := []) h hX (tX8_in (xl X) G F ω hI j 0 v2) rfl miX8_in tw_761 (by decide) (by decide) rfl (Nat.le_of_ble_eq_true rfl) (by rw [hX]; exact Nat.zero_le _) (by rw [hX]; exact Nat.zero_le _) dX8_ofJoin_11 (fun v3 hv3 => ?_)
  refine g_if_ne (tgt := 19) h dX8_ofJoin_14 (by decide) (fun c4 => ?_) (fun c4 => ?_)
  · refine g_iload_n h 2 dX8_ofJoin_19 rfl ?_
    refine g_iconst (v := 0) h dX8_ofJoin_20 (by decide) ?_
    refine g_iconst (v := 5) h dX8_ofJoin_21 (by decide) ?_
    refine k_S_i (st := []) h hX (tX8_in (xl X) G F ω hI wh 0 5) rfl miX8_in tw_761 (by decide) (by decide) rfl (Nat.le_of_ble_eq_true rfl) (by rw [hX]; exact Nat.zero_le _) (by rw [hX]; exact Nat.zero_le _) dX8_ofJoin_22 (fun v5 hv5 => ?_)
    refine g_if_eq (tgt := 37) h dX8_ofJoin_25 (by decide) (fun c6 => ?_) (fun c6 => ?_)
    · refine g_bipush (v := (-2)) h dX8_ofJoin_37 (by decide) ?_
      exact e_iret h hI dX8_ofJoin_39 (by replace hv1 := hv1.symm; replace hv2 := hv2.symm; replace hv3 := hv3.symm; replace hv5 := hv5.symm; subst hv5 hv3 hv2 hv1; unfold m_ofJoin; first | (simp only [if_neg c4, if_pos c6]; done) | (simp only [if_neg c4, if_pos c6]; rfl)) rfl
    · refine g_aload_n h 0 dX8_ofJoin_28 rfl ?_
      refine g_iload_n h 1 dX8_ofJoin_29 rfl ?_
      refine g_iload_n h 2 dX8_ofJoin_30 rfl ?_
      refine k_V_i (st := []) h hX (tX8_ofJ (xl X) G F ω hI j wh (by replace hv1 := hv1.symm; replace hv2 := hv2.symm; replace hv3 := hv3.symm; replace hv5 := hv5.symm; subst hv5 hv3 hv2 hv1; exact isJ_rg hW c4) (by replace hv1 := hv1.symm; replace hv2 := hv2.symm; replace hv3 := hv3.symm; replace hv5 := hv5.symm; subst hv5 hv3 hv2 hv1; exact btw_pl c6)) rfl ⟨kd_lt rfl, ob_21 rfl⟩ rfl miX8_ofJ tw_821 (by decide) (by decide) rfl (Nat.le_of_ble_eq_true rfl) (by rw [hX]; exact Nat.zero_le _) (by rw [hX]; exact Nat.zero_le _) dX8_ofJoin_31 (fun v7 hv7 => ?_)
      refine g_goto (tgt := 39) h dX8_ofJoin_34 (by decide) ?_
      exact e_iret h hI dX8_ofJoin_39 (by replace hv1 := hv1.symm; replace hv2 := hv2.symm; replace hv3 := hv3.symm; replace hv5 := hv5.symm; replace hv7 := hv7.symm; subst hv7 hv5 hv3 hv2 hv1; unfold m_ofJoin; first | (simp only [if_neg c4, if_neg c6]; done) | (simp only [if_neg c4, if_neg c6]; rfl)) rfl
  · refine g_iconst (v := (-1)) h dX8_ofJoin_17 (by decide) ?_
    exact e_iret h hI dX8_ofJoin_18 (by replace hv1 := hv1.symm; replace hv2 := hv2.symm; replace hv3 := hv3.symm; subst hv3 hv2 hv1; unfold m_ofJoin; first | (simp only [if_pos c4]; done) | (simp only [if_pos c4]; rfl)) rfl
set_option maxHeartbeats 4000000 in
set_option maxRecDepth 100000 in
theorem tX8_find (l0 : Launch) (G : fG) (F : Nat) (ω : fOm) (hI : Inv ω) (v : Int32) (wh : Int32) (hW : MW (ω 648)) : CT l0 G F yX8_find cX8_find 7 (some .int) 2 [.ref (F + 647), .int v, .int wh] ω (some (.int (m_find ω v wh))) ω := by
  refine ct_met (own := RX8) (by decide +kernel) rfl (Nat.le_of_ble_eq_true rfl) (fun X hXl hX h => ?_)
  subst hXl
  refine g_iload_n h 1 dX8_find_0 rfl ?_
  refine k_S_i (st := []) h hX (tX8_isValue (xl X) G F ω hI v) rfl miX8_isValue tw_794 (by decide) (by decide) rfl (Nat.le_of_ble_eq_true rfl) (by rw [hX]; exact Nat.zero_le _) (by rw [hX]; exact Nat.zero_le _) dX8_find_1 (fun v1 hv1 => ?_)
  refine g_if_eq (tgt := 16) h dX8_find_4 (by decide) (fun c2 => ?_) (fun c2 => ?_)
  · refine g_bipush (v := (-2)) h dX8_find_16 (by decide) ?_
    exact e_iret h hI dX8_find_18 (by replace hv1 := hv1.symm; subst hv1; unfold m_find; first | (simp only [if_pos c2]; done) | (simp only [if_pos c2]; rfl)) rfl
  · refine g_iload_n h 2 dX8_find_7 rfl ?_
    refine g_iconst (v := 0) h dX8_find_8 (by decide) ?_
    refine g_iconst (v := 2) h dX8_find_9 (by decide) ?_
    refine k_S_i (st := []) h hX (tX8_in (xl X) G F ω hI wh 0 2) rfl miX8_in tw_761 (by decide) (by decide) rfl (Nat.le_of_ble_eq_true rfl) (by rw [hX]; exact Nat.zero_le _) (by rw [hX]; exact Nat.zero_le _) dX8_find_10 (fun v3 hv3 => ?_)
    refine g_if_ne (tgt := 19) h dX8_find_13 (by decide) (fun c4 => ?_) (fun c4 => ?_)
    · refine g_bipush (v := (-6)) h dX8_find_19 (by decide) ?_
      refine g_istore_n (loc2 := [(3, .int (-6)), (0, .ref (F + 647)), (1, .int v), (2, .int wh)]) h dX8_find_21 (by decide) rfl ?_
      refine g_iconst (v := 0) h dX8_find_22 (by decide) ?_
      refine g_istore (loc2 := [(4, .int 0), (3, .int (-6)), (0, .ref (F + 647)), (1, .int v), (2, .int wh)]) h dX8_find_23 (by decide) rfl ?_
      refine g_iconst (v := 0) h dX8_find_25 (by decide) ?_
      refine g_istore (loc2 := [(5, .int 0), (4, .int 0), (3, .int (-6)), (0, .ref (F + 647)), (1, .int v), (2, .int wh)]) h dX8_find_26 (by decide) rfl ?_
      have e6 : 0 = nI 0 := by replace hv1 := hv1.symm; replace hv3 := hv3.symm; subst hv3 hv1; first | rfl | exact nI_0.symm | exact nI_0 | decide
      have e7 : 0 = (m_fi2 ω v wh 0).2 := by replace hv1 := hv1.symm; replace hv3 := hv3.symm; subst hv3 hv1; first | rfl | exact nI_0.symm | exact nI_0 | decide
      have e8 : (-6) = (m_fi2 ω v wh 0).1 := by replace hv1 := hv1.symm; replace hv3 := hv3.symm; subst hv3 hv1; first | rfl | exact nI_0.symm | exact nI_0 | decide
      refine g_lt (ω2 := ω) (loc2 := [(5, .int (nI 0)), (4, .int ((m_fi2 ω v wh 0).2)), (3, .int ((m_fi2 ω v wh 0).1)), (0, .ref (F + 647)), (1, .int v), (2, .int wh)]) rfl (lc_i e6 (lc_i e7 (lc_i e8 rfl))) rfl ?_
      refine g_loop3 (hd := 28) ((ω 648 5).toNatClampNeg) (fun j5 => Inv ω) (fun j5 => [(5, .int (nI j5)), (4, .int ((m_fi2 ω v wh j5).2)), (3, .int ((m_fi2 ω v wh j5).1)), (0, .ref (F + 647)), (1, .int v), (2, .int wh)]) (fun j5 => cel F G ω) hI (fun j5 hj12 hP10 ih11 => ?_)
      (try dsimp only)
      have iv13 := hP10
      refine g_iload h 0 dX8_find_28 rfl ?_
      refine g_aload_n h 3 dX8_find_30 rfl ?_
      refine q_8_at h rfl tw_708 dX8_find_31 ?_
      refine g_iconst (v := 5) h dX8_find_34 (by decide) ?_
      refine g_ia (q := 22) h rfl rfl (by decide) (vp_n (j := 5) (Nat.le_of_ble_eq_true rfl) (Nat.le_of_ble_eq_true rfl)) dX8_find_35 (fun v14 hv14 => ?_)
      replace hv14 : v14 = ω 648 5 := hv14
      refine g_icmp_ge (tgt := 106) h dX8_find_36 (by decide) (fun c15 => ?_) (fun c15 => ?_)
      · have hN16 : j5 = ((ω 648 5).toNatClampNeg) := by clear ih11; replace hv1 := hv1.symm; replace hv3 := hv3.symm; replace hv14 := hv14.symm; subst hv14 hv3 hv1; exact lp_ge hW.1.1 c15 hj12
        refine g_iload h 1 dX8_find_106 rfl ?_
        refine g_if_eq (tgt := 116) h dX8_find_108 (by decide) (fun c17 => ?_) (fun c17 => ?_)
        · refine g_iload_n h 2 dX8_find_116 rfl ?_
          refine g_goto (tgt := 122) h dX8_find_117 (by decide) ?_
          exact e_iret h iv13 dX8_find_122 (by clear ih11; replace hv1 := hv1.symm; replace hv3 := hv3.symm; replace hv14 := hv14.symm; subst hv14 hv3 hv1; unfold m_find; rw [← hN16]; simp only [if_neg c2, if_neg c4, if_pos c15, if_pos c17]) rfl
        · refine g_iload_n h 5 dX8_find_111 rfl ?_
          refine g_iconst (v := 2) h dX8_find_112 (by decide) ?_
          refine g_icmp_ge (tgt := 120) h dX8_find_113 (by decide) (fun c18 => ?_) (fun c18 => ?_)
          · refine g_iload h 1 dX8_find_120 rfl ?_
            exact e_iret h iv13 dX8_find_122 (by clear ih11; replace hv1 := hv1.symm; replace hv3 := hv3.symm; replace hv14 := hv14.symm; subst hv14 hv3 hv1; unfold m_find; rw [← hN16]; simp only [if_neg c2, if_neg c4, if_pos c15, if_neg c17, if_pos c18]) rfl
          · refine g_iload_n h 2 dX8_find_116 rfl ?_
            refine g_goto (tgt := 122) h dX8_find_117 (by decide) ?_
            exact e_iret h iv13 dX8_find_122 (by clear ih11; replace hv1 := hv1.symm; replace hv3 := hv3.symm; replace hv14 := hv14.symm; subst hv14 hv3 hv1; unfold m_find; rw [← hN16]; simp only [if_neg c2, if_neg c4, if_pos c15, if_neg c17, if_neg c18]) rfl
      · have hlt19 : j5 < ((ω 648 5).toNatClampNeg) := by clear ih11; replace hv1 := hv1.symm; replace hv3 := hv3.symm; replace hv14 := hv14.symm; subst hv14 hv3 hv1; exact lp_lt hW.1.1 c15 hj12
        refine g_iconst (v := 0) h dX8_find_39 (by decide) ?_
        refine g_istore (loc2 := [(6, .int 0), (5, .int (nI j5)), (4, .int ((m_fi2 ω v wh j5).2)), (3, .int ((m_fi2 ω v wh j5).1)), (0, .ref (F + 647)), (1, .int v), (2, .int wh)]) h dX8_find_40 (by decide) rfl ?_
        have e21 : 0 = nI 0 := by clear ih11; replace hv1 := hv1.symm; replace hv3 := hv3.symm; replace hv14 := hv14.symm; subst hv14 hv3 hv1; first | rfl | exact nI_0.symm | exact nI_0 | decide
        have e22 : (m_fi2 ω v wh j5).2 = (m_fi1 ω v wh (nI j5) (((m_fi2 ω v wh j5).1), ((m_fi2 ω v wh j5).2)) 0).2 := by clear ih11; replace hv1 := hv1.symm; replace hv3 := hv3.symm; replace hv14 := hv14.symm; subst hv14 hv3 hv1; first | rfl | exact nI_0.symm | exact nI_0 | decide
        have e23 : (m_fi2 ω v wh j5).1 = (m_fi1 ω v wh (nI j5) (((m_fi2 ω v wh j5).1), ((m_fi2 ω v wh j5).2)) 0).1 := by clear ih11; replace hv1 := hv1.symm; replace hv3 := hv3.symm; replace hv14 := hv14.symm; subst hv14 hv3 hv1; first | rfl | exact nI_0.symm | exact nI_0 | decide
        refine g_lt (ω2 := ω) (loc2 := [(6, .int (nI 0)), (5, .int (nI j5)), (4, .int ((m_fi1 ω v wh (nI j5) (((m_fi2 ω v wh j5).1), ((m_fi2 ω v wh j5).2)) 0).2)), (3, .int ((m_fi1 ω v wh (nI j5) (((m_fi2 ω v wh j5).1), ((m_fi2 ω v wh j5).2)) 0).1)), (0, .ref (F + 647)), (1, .int v), (2, .int wh)]) rfl (lc_i e21 (lc_s (lc_i e22 (lc_i e23 rfl)))) rfl ?_
        refine g_loop3 (hd := 42) ((ω 648 (iL (nI j5) 0)).toNatClampNeg) (fun j20 => Inv ω) (fun j20 => [(6, .int (nI j20)), (5, .int (nI j5)), (4, .int ((m_fi1 ω v wh (nI j5) (((m_fi2 ω v wh j5).1), ((m_fi2 ω v wh j5).2)) j20).2)), (3, .int ((m_fi1 ω v wh (nI j5) (((m_fi2 ω v wh j5).1), ((m_fi2 ω v wh j5).2)) j20).1)), (0, .ref (F + 647)), (1, .int v), (2, .int wh)]) (fun j20 => cel F G ω) iv13 (fun j20 hj27 hP25 ih26 => ?_)
        (try dsimp only)
        have iv28 := hP25
        refine g_iload h 0 dX8_find_42 rfl ?_
        refine g_aload_n h 4 dX8_find_44 rfl ?_
        refine g_iload h 1 dX8_find_45 rfl ?_
        refine g_iconst (v := 0) h dX8_find_47 (by decide) ?_
        refine k_V_i (st := [.int (nI j20)]) h hX (tX8_ofL (xl X) G F ω iv28 (nI j5) 0 (nj4 (Nat.lt_of_lt_of_le hlt19 hW.n5)) (by decide)) rfl ⟨kd_lt rfl, ob_21 rfl⟩ rfl miX8_ofL tw_787 (by decide) (by decide) rfl (Nat.le_of_ble_eq_true rfl) (by rw [hX]; exact Nat.zero_le _) (by rw [hX]; exact Nat.zero_le _) dX8_find_48 (fun v29 hv29 => ?_)
        refine g_icmp_ge (tgt := 100) h dX8_find_51 (by decide) (fun c30 => ?_) (fun c30 => ?_)
        · have hN31 : j20 = ((ω 648 (iL (nI j5) 0)).toNatClampNeg) := by clear ih11 ih26; replace hv1 := hv1.symm; replace hv3 := hv3.symm; replace hv14 := hv14.symm; replace hv29 := hv29.symm; subst hv29 hv14 hv3 hv1; exact lp_ge (hW.L (nj4 (Nat.lt_of_lt_of_le hlt19 hW.n5))).1 c30 hj27
          obtain ⟨v32, hv32⟩ : ∃ z : Int32, z = (nI j5) + 1 := ⟨_, rfl⟩
          refine g_iinc (v := v32) (loc2 := [(5, .int v32), (6, .int (nI j20)), (4, .int ((m_fi1 ω v wh (nI j5) (((m_fi2 ω v wh j5).1), ((m_fi2 ω v wh j5).2)) j20).2)), (3, .int ((m_fi1 ω v wh (nI j5) (((m_fi2 ω v wh j5).1), ((m_fi2 ω v wh j5).2)) j20).1)), (0, .ref (F + 647)), (1, .int v), (2, .int wh)]) h 1 dX8_find_100 rfl (by rw [hv32]; rfl) (by decide) rfl ?_
          refine g_goto (tgt := 28) h dX8_find_103 (by decide) ?_
          refine g_loc [0, 2, 3, 4, 5, 6] rfl ?_
          have e33 : v32 = nI (j5 + 1) := by clear ih11 ih26; replace hv1 := hv1.symm; replace hv3 := hv3.symm; replace hv14 := hv14.symm; replace hv29 := hv29.symm; replace hv32 := hv32.symm; subst hv32 hv29 hv14 hv3 hv1; first | rfl | exact nI_1 _ | (rw [nI_succ])
          have e34 : (m_fi1 ω v wh (nI j5) (((m_fi2 ω v wh j5).1), ((m_fi2 ω v wh j5).2)) j20).2 = (m_fi2 ω v wh (j5 + 1)).2 := by clear ih11 ih26; replace hv1 := hv1.symm; replace hv3 := hv3.symm; replace hv14 := hv14.symm; replace hv29 := hv29.symm; replace hv32 := hv32.symm; subst hv32 hv29 hv14 hv3 hv1; rw [hN31]; rfl
          have e35 : (m_fi1 ω v wh (nI j5) (((m_fi2 ω v wh j5).1), ((m_fi2 ω v wh j5).2)) j20).1 = (m_fi2 ω v wh (j5 + 1)).1 := by clear ih11 ih26; replace hv1 := hv1.symm; replace hv3 := hv3.symm; replace hv14 := hv14.symm; replace hv29 := hv29.symm; replace hv32 := hv32.symm; subst hv32 hv29 hv14 hv3 hv1; rw [hN31]; rfl
          exact g_lt rfl (lc_i e33 (lc_i e34 (lc_i e35 rfl))) rfl (ih11 hlt19 iv28)
        · have hlt36 : j20 < ((ω 648 (iL (nI j5) 0)).toNatClampNeg) := by clear ih11 ih26; replace hv1 := hv1.symm; replace hv3 := hv3.symm; replace hv14 := hv14.symm; replace hv29 := hv29.symm; subst hv29 hv14 hv3 hv1; exact lp_lt (hW.L (nj4 (Nat.lt_of_lt_of_le hlt19 hW.n5))).1 c30 hj27
          refine g_aload_n h 4 dX8_find_54 rfl ?_
          refine q_8_at h rfl tw_708 dX8_find_55 ?_
          refine g_iload h 1 dX8_find_58 rfl ?_
          refine g_iload h 0 dX8_find_60 rfl ?_
          refine k_S_i (st := [.ref (F + 648)]) h hX (tX8_cell (xl X) G F ω iv28 (nI j5) (nI j20)) rfl miX8_cell tw_849 (by decide) (by decide) rfl (Nat.le_of_ble_eq_true rfl) (by rw [hX]; exact Nat.zero_le _) (by rw [hX]; exact Nat.zero_le _) dX8_find_62 (fun v37 hv37 => ?_)
          refine g_ia (q := 22) h rfl rfl (by decide) (by clear ih11 ih26; replace hv1 := hv1.symm; replace hv3 := hv3.symm; replace hv14 := hv14.symm; replace hv29 := hv29.symm; replace hv37 := hv37.symm; subst hv37 hv29 hv14 hv3 hv1; exact ixc (mc_rg (nj4 (Nat.lt_of_lt_of_le hlt19 hW.n5)) (nj_rg (Nat.lt_of_lt_of_le hlt36 (tn_le (n := 32) (hW.L (nj4 (Nat.lt_of_lt_of_le hlt19 hW.n5))) rfl))))) dX8_find_65 (fun v38 hv38 => ?_)
          refine g_iload_n h 5 dX8_find_66 rfl ?_
          refine g_icmp_ne (tgt := 94) h dX8_find_67 (by decide) (fun c39 => ?_) (fun c39 => ?_)
          · obtain ⟨v40, hv40⟩ : ∃ z : Int32, z = (nI j20) + 1 := ⟨_, rfl⟩
            refine g_iinc (v := v40) (loc2 := [(6, .int v40), (5, .int (nI j5)), (4, .int ((m_fi1 ω v wh (nI j5) (((m_fi2 ω v wh j5).1), ((m_fi2 ω v wh j5).2)) j20).2)), (3, .int ((m_fi1 ω v wh (nI j5) (((m_fi2 ω v wh j5).1), ((m_fi2 ω v wh j5).2)) j20).1)), (0, .ref (F + 647)), (1, .int v), (2, .int wh)]) h 0 dX8_find_94 rfl (by rw [hv40]; rfl) (by decide) rfl ?_
            refine g_goto (tgt := 42) h dX8_find_97 (by decide) ?_
            have e41 : v40 = nI (j20 + 1) := by clear ih11 ih26; replace hv1 := hv1.symm; replace hv3 := hv3.symm; replace hv14 := hv14.symm; replace hv29 := hv29.symm; replace hv37 := hv37.symm; replace hv38 := hv38.symm; replace hv40 := hv40.symm; subst hv40 hv38 hv37 hv29 hv14 hv3 hv1; first | rfl | exact nI_1 _ | (rw [nI_succ])
            have e42 : (m_fi1 ω v wh (nI j5) (((m_fi2 ω v wh j5).1), ((m_fi2 ω v wh j5).2)) j20).2 = (m_fi1 ω v wh (nI j5) (((m_fi2 ω v wh j5).1), ((m_fi2 ω v wh j5).2)) (j20 + 1)).2 := by clear ih11 ih26; replace hv1 := hv1.symm; replace hv3 := hv3.symm; replace hv14 := hv14.symm; replace hv29 := hv29.symm; replace hv37 := hv37.symm; replace hv38 := hv38.symm; replace hv40 := hv40.symm; subst hv40 hv38 hv37 hv29 hv14 hv3 hv1; rw [mfi1_n c39]
            have e43 : (m_fi1 ω v wh (nI j5) (((m_fi2 ω v wh j5).1), ((m_fi2 ω v wh j5).2)) j20).1 = (m_fi1 ω v wh (nI j5) (((m_fi2 ω v wh j5).1), ((m_fi2 ω v wh j5).2)) (j20 + 1)).1 := by clear ih11 ih26; replace hv1 := hv1.symm; replace hv3 := hv3.symm; replace hv14 := hv14.symm; replace hv29 := hv29.symm; replace hv37 := hv37.symm; replace hv38 := hv38.symm; replace hv40 := hv40.symm; subst hv40 hv38 hv37 hv29 hv14 hv3 hv1; rw [mfi1_n c39]
            exact g_lt rfl (lc_i e41 (lc_s (lc_i e42 (lc_i e43 rfl)))) rfl (ih26 hlt36 iv28)
          · refine g_iload h 2 dX8_find_70 rfl ?_
            have hm90_50 : ∀ m49 : Int32, m49 = (if ((m_fi1 ω v wh (nI j5) (((m_fi2 ω v wh j5).1), ((m_fi2 ω v wh j5).2)) j20).2) = 0 then (if wh = 0 then nI j5 else nI j20) else (m_fi1 ω v wh (nI j5) (((m_fi2 ω v wh j5).1), ((m_fi2 ω v wh j5).2)) j20).1) → Vg X (MQ (xb X) (fQ G F (fP F G (some (.int (m_find ω v wh))) ω)) (xa X) (xs X) 0 0 (fA F)) G F 7 NC (cel F G ω) 0 0 90 [(6, .int (nI j20)), (5, .int (nI j5)), (4, .int ((m_fi1 ω v wh (nI j5) (((m_fi2 ω v wh j5).1), ((m_fi2 ω v wh j5).2)) j20).2)), (3, .int ((m_fi1 ω v wh (nI j5) (((m_fi2 ω v wh j5).1), ((m_fi2 ω v wh j5).2)) j20).1)), (0, .ref (F + 647)), (1, .int v), (2, .int wh)] [.int m49] := by
              intro m49 hm49
              refine g_istore_n (loc2 := [(3, .int m49), (6, .int (nI j20)), (5, .int (nI j5)), (4, .int ((m_fi1 ω v wh (nI j5) (((m_fi2 ω v wh j5).1), ((m_fi2 ω v wh j5).2)) j20).2)), (0, .ref (F + 647)), (1, .int v), (2, .int wh)]) h dX8_find_90 (by decide) rfl ?_
              obtain ⟨v51, hv51⟩ : ∃ z : Int32, z = ((m_fi1 ω v wh (nI j5) (((m_fi2 ω v wh j5).1), ((m_fi2 ω v wh j5).2)) j20).2) + 1 := ⟨_, rfl⟩
              refine g_iinc (v := v51) (loc2 := [(4, .int v51), (3, .int m49), (6, .int (nI j20)), (5, .int (nI j5)), (0, .ref (F + 647)), (1, .int v), (2, .int wh)]) h 3 dX8_find_91 rfl (by rw [hv51]; rfl) (by decide) rfl ?_
              obtain ⟨v52, hv52⟩ : ∃ z : Int32, z = (nI j20) + 1 := ⟨_, rfl⟩
              refine g_iinc (v := v52) (loc2 := [(6, .int v52), (4, .int v51), (3, .int m49), (5, .int (nI j5)), (0, .ref (F + 647)), (1, .int v), (2, .int wh)]) h 2 dX8_find_94 rfl (by rw [hv52]; rfl) (by decide) rfl ?_
              refine g_goto (tgt := 42) h dX8_find_97 (by decide) ?_
              refine g_loc [0, 3, 1, 2, 4, 5, 6] rfl ?_
              have e53 : v52 = nI (j20 + 1) := by clear ih11 ih26; replace hv1 := hv1.symm; replace hv3 := hv3.symm; replace hv14 := hv14.symm; replace hv29 := hv29.symm; replace hv37 := hv37.symm; replace hv38 := hv38.symm; replace hm49 := hm49.symm; replace hv51 := hv51.symm; replace hv52 := hv52.symm; subst hv52 hv51 hm49 hv38 hv37 hv29 hv14 hv3 hv1; first | rfl | exact nI_1 _ | (rw [nI_succ])
              have e54 : v51 = (m_fi1 ω v wh (nI j5) (((m_fi2 ω v wh j5).1), ((m_fi2 ω v wh j5).2)) (j20 + 1)).2 := by clear ih11 ih26; replace hv1 := hv1.symm; replace hv3 := hv3.symm; replace hv14 := hv14.symm; replace hv29 := hv29.symm; replace hv37 := hv37.symm; replace hv38 := hv38.symm; replace hm49 := hm49.symm; replace hv51 := hv51.symm; replace hv52 := hv52.symm; subst hv52 hv51 hm49 hv38 hv37 hv29 hv14 hv3 hv1; rw [mfi1_p c39]
              have e55 : m49 = (m_fi1 ω v wh (nI j5) (((m_fi2 ω v wh j5).1), ((m_fi2 ω v wh j5).2)) (j20 + 1)).1 := by clear ih11 ih26; replace hv1 := hv1.symm; replace hv3 := hv3.symm; replace hv14 := hv14.symm; replace hv29 := hv29.symm; replace hv37 := hv37.symm; replace hv38 := hv38.symm; replace hm49 := hm49.symm; replace hv51 := hv51.symm; replace hv52 := hv52.symm; subst hv52 hv51 hm49 hv38 hv37 hv29 hv14 hv3 hv1; rw [mfi1_p c39]
              exact g_lt rfl (lc_i e53 (lc_s (lc_i e54 (lc_i e55 rfl)))) rfl (ih26 hlt36 iv28)
            refine g_if_ne (tgt := 89) h dX8_find_72 (by decide) (fun c44 => ?_) (fun c44 => ?_)
            · refine g_iload_n h 3 dX8_find_89 rfl ?_
              exact hm90_50 _ (by clear ih11 ih26; replace hv1 := hv1.symm; replace hv3 := hv3.symm; replace hv14 := hv14.symm; replace hv29 := hv29.symm; replace hv37 := hv37.symm; replace hv38 := hv38.symm; subst hv38 hv37 hv29 hv14 hv3 hv1; rw [if_neg c44])
            · refine g_iload_n h 6 dX8_find_75 rfl ?_
              refine g_if_ne (tgt := 84) h dX8_find_76 (by decide) (fun c46 => ?_) (fun c46 => ?_)
              · refine g_iload h 0 dX8_find_84 rfl ?_
                refine g_goto (tgt := 90) h dX8_find_86 (by decide) ?_
                exact hm90_50 _ (by clear ih11 ih26; replace hv1 := hv1.symm; replace hv3 := hv3.symm; replace hv14 := hv14.symm; replace hv29 := hv29.symm; replace hv37 := hv37.symm; replace hv38 := hv38.symm; subst hv38 hv37 hv29 hv14 hv3 hv1; rw [if_pos c44, if_neg c46])
              · refine g_iload h 1 dX8_find_79 rfl ?_
                refine g_goto (tgt := 90) h dX8_find_81 (by decide) ?_
                exact hm90_50 _ (by clear ih11 ih26; replace hv1 := hv1.symm; replace hv3 := hv3.symm; replace hv14 := hv14.symm; replace hv29 := hv29.symm; replace hv37 := hv37.symm; replace hv38 := hv38.symm; subst hv38 hv37 hv29 hv14 hv3 hv1; rw [if_pos c44, if_pos c46])
    · refine g_bipush (v := (-2)) h dX8_find_16 (by decide) ?_
      exact e_iret h hI dX8_find_18 (by replace hv1 := hv1.symm; replace hv3 := hv3.symm; subst hv3 hv1; unfold m_find; first | (simp only [if_neg c2, if_pos c4]; done) | (simp only [if_neg c2, if_pos c4]; rfl)) rfl
set_option maxHeartbeats 4000000 in
set_option maxRecDepth 100000 in
theorem tX8_sum (l0 : Launch) (G : fG) (F : Nat) (ω : fOm) (hI : Inv ω) (wh : Int32) (hW : MW (ω 648)) (hw : 0 ≤ wh ∧ wh ≤ 5) : CT l0 G F yX8_sum cX8_sum 4 (some .int) 2 [.ref (F + 647), .int wh] ω (some (.int (m_sum ω wh))) ω := by
  refine ct_met (own := RX8) (by decide +kernel) rfl (Nat.le_of_ble_eq_true rfl) (fun X hXl hX h => ?_)
  subst hXl
  refine g_iconst (v := 0) h dX8_sum_0 (by decide) ?_
  refine g_istore_n (loc2 := [(2, .int 0), (0, .ref (F + 647)), (1, .int wh)]) h dX8_sum_1 (by decide) rfl ?_
  refine g_iconst (v := 0) h dX8_sum_2 (by decide) ?_
  refine g_istore_n (loc2 := [(3, .int 0), (2, .int 0), (0, .ref (F + 647)), (1, .int wh)]) h dX8_sum_3 (by decide) rfl ?_
  have e2 : 0 = nI 0 := by skip; first | rfl | exact nI_0.symm | exact nI_0 | decide
  have e3 : 0 = m_su ω wh 0 := by skip; first | rfl | exact nI_0.symm | exact nI_0 | decide
  refine g_lt (ω2 := ω) (loc2 := [(3, .int (nI 0)), (2, .int (m_su ω wh 0)), (0, .ref (F + 647)), (1, .int wh)]) rfl (lc_i e2 (lc_i e3 rfl)) rfl ?_
  refine g_loop3 (hd := 4) ((ω 648 5).toNatClampNeg) (fun j1 => Inv ω) (fun j1 => [(3, .int (nI j1)), (2, .int (m_su ω wh j1)), (0, .ref (F + 647)), (1, .int wh)]) (fun j1 => cel F G ω) hI (fun j1 hj7 hP5 ih6 => ?_)
  (try dsimp only)
  have iv8 := hP5
  refine g_iload_n h 0 dX8_sum_4 rfl ?_
  refine g_aload_n h 2 dX8_sum_5 rfl ?_
  refine q_8_at h rfl tw_708 dX8_sum_6 ?_
  refine g_iconst (v := 5) h dX8_sum_9 (by decide) ?_
  refine g_ia (q := 22) h rfl rfl (by decide) (vp_n (j := 5) (Nat.le_of_ble_eq_true rfl) (Nat.le_of_ble_eq_true rfl)) dX8_sum_10 (fun v9 hv9 => ?_)
  replace hv9 : v9 = ω 648 5 := hv9
  refine g_icmp_ge (tgt := 41) h dX8_sum_11 (by decide) (fun c10 => ?_) (fun c10 => ?_)
  · have hN11 : j1 = ((ω 648 5).toNatClampNeg) := by clear ih6; replace hv9 := hv9.symm; subst hv9; exact lp_ge hW.1.1 c10 hj7
    refine g_iload_n h 1 dX8_sum_41 rfl ?_
    exact e_iret h iv8 dX8_sum_42 (by clear ih6; replace hv9 := hv9.symm; subst hv9; rw [hN11]; rfl) rfl
  · have hlt12 : j1 < ((ω 648 5).toNatClampNeg) := by clear ih6; replace hv9 := hv9.symm; subst hv9; exact lp_lt hW.1.1 c10 hj7
    refine g_iload_n h 1 dX8_sum_14 rfl ?_
    refine g_iload_n h 3 dX8_sum_15 rfl ?_
    have hm33_19 : ∀ m18 : Int32, m18 = (if wh = 0 then (m_flashes ω (nI j1)) else (ω 648 (iL (nI j1) wh))) → Vg X (MQ (xb X) (fQ G F (fP F G (some (.int (m_sum ω wh))) ω)) (xa X) (xs X) 0 0 (fA F)) G F 4 NC (cel F G ω) 0 0 33 [(3, .int (nI j1)), (2, .int (m_su ω wh j1)), (0, .ref (F + 647)), (1, .int wh)] [.int m18, .int (m_su ω wh j1)] := by
      intro m18 hm18
      refine g_iadd h dX8_sum_33 (g_name fun v20 hv20 => ?_)
      refine g_istore_n (loc2 := [(2, .int v20), (3, .int (nI j1)), (0, .ref (F + 647)), (1, .int wh)]) h dX8_sum_34 (by decide) rfl ?_
      obtain ⟨v21, hv21⟩ : ∃ z : Int32, z = (nI j1) + 1 := ⟨_, rfl⟩
      refine g_iinc (v := v21) (loc2 := [(3, .int v21), (2, .int v20), (0, .ref (F + 647)), (1, .int wh)]) h 1 dX8_sum_35 rfl (by rw [hv21]; rfl) (by decide) rfl ?_
      refine g_goto (tgt := 4) h dX8_sum_38 (by decide) ?_
      have e22 : v21 = nI (j1 + 1) := by clear ih6; replace hv9 := hv9.symm; replace hm18 := hm18.symm; replace hv20 := hv20.symm; replace hv21 := hv21.symm; subst hv21 hv20 hm18 hv9; first | rfl | exact nI_1 _ | (rw [nI_succ])
      have e23 : v20 = m_su ω wh (j1 + 1) := by clear ih6; replace hv9 := hv9.symm; replace hm18 := hm18.symm; replace hv20 := hv20.symm; replace hv21 := hv21.symm; subst hv21 hv20 hm18 hv9; rfl
      exact g_lt rfl (lc_i e22 (lc_i e23 rfl)) rfl (ih6 hlt12 iv8)
    refine g_if_ne (tgt := 27) h dX8_sum_16 (by decide) (fun c13 => ?_) (fun c13 => ?_)
    · refine g_aload_n h 2 dX8_sum_27 rfl ?_
      refine g_iload_n h 0 dX8_sum_28 rfl ?_
      refine g_iload_n h 3 dX8_sum_29 rfl ?_
      refine k_V_i (st := [.int (m_su ω wh j1)]) h hX (tX8_ofL (xl X) G F ω iv8 (nI j1) wh (nj4 (Nat.lt_of_lt_of_le hlt12 hW.n5)) (hw)) rfl ⟨kd_lt rfl, ob_21 rfl⟩ rfl miX8_ofL tw_787 (by decide) (by decide) rfl (Nat.le_of_ble_eq_true rfl) (by rw [hX]; exact Nat.zero_le _) (by rw [hX]; exact Nat.zero_le _) dX8_sum_30 (fun v14 hv14 => ?_)
      exact hm33_19 _ (by clear ih6; replace hv9 := hv9.symm; replace hv14 := hv14.symm; subst hv14 hv9; rw [if_neg c13])
    · refine g_aload_n h 2 dX8_sum_19 rfl ?_
      refine g_iload_n h 0 dX8_sum_20 rfl ?_
      refine k_V_i (st := [.int (m_su ω wh j1)]) h hX (tX8_flashes (xl X) G F ω iv8 (nI j1) (nj4 (Nat.lt_of_lt_of_le hlt12 hW.n5)) (hW)) rfl ⟨kd_lt rfl, ob_21 rfl⟩ rfl miX8_flashes tw_860 (by decide) (by decide) rfl (Nat.le_of_ble_eq_true rfl) (by rw [hX]; exact Nat.zero_le _) (by rw [hX]; exact Nat.zero_le _) dX8_sum_21 (fun v16 hv16 => ?_)
      refine g_goto (tgt := 33) h dX8_sum_24 (by decide) ?_
      exact hm33_19 _ (by clear ih6; replace hv9 := hv9.symm; replace hv16 := hv16.symm; subst hv16 hv9; rw [if_pos c13])
set_option maxHeartbeats 4000000 in
set_option maxRecDepth 100000 in
theorem tX8_count (l0 : Launch) (G : fG) (F : Nat) (ω : fOm) (hI : Inv ω) (wh : Int32) (hW : MW (ω 648)) : CT l0 G F yX8_count cX8_count 2 (some .int) 3 [.ref (F + 647), .int wh] ω (some (.int (m_count ω wh))) ω := by
  refine ct_met (own := RX8) (by decide +kernel) rfl (Nat.le_of_ble_eq_true rfl) (fun X hXl hX h => ?_)
  subst hXl
  refine g_iload_n h 1 dX8_count_0 rfl ?_
  refine g_iconst (v := 0) h dX8_count_1 (by decide) ?_
  refine g_iconst (v := 3) h dX8_count_2 (by decide) ?_
  refine k_S_i (st := []) h hX (tX8_in (xl X) G F ω hI wh 0 3) rfl miX8_in tw_761 (by decide) (by decide) rfl (Nat.le_of_ble_eq_true rfl) (by rw [hX]; exact Nat.zero_le _) (by rw [hX]; exact Nat.zero_le _) dX8_count_3 (fun v1 hv1 => ?_)
  refine g_if_eq (tgt := 18) h dX8_count_6 (by decide) (fun c2 => ?_) (fun c2 => ?_)
  · refine g_iload_n h 1 dX8_count_18 rfl ?_
    refine g_iconst (v := 4) h dX8_count_19 (by decide) ?_
    refine g_bipush (v := 7) h dX8_count_20 (by decide) ?_
    refine k_S_i (st := []) h hX (tX8_in (xl X) G F ω hI wh 4 7) rfl miX8_in tw_761 (by decide) (by decide) rfl (Nat.le_of_ble_eq_true rfl) (by rw [hX]; exact Nat.zero_le _) (by rw [hX]; exact Nat.zero_le _) dX8_count_22 (fun v3 hv3 => ?_)
    refine g_if_eq (tgt := 36) h dX8_count_25 (by decide) (fun c4 => ?_) (fun c4 => ?_)
    · refine g_iload_n h 1 dX8_count_36 rfl ?_
      refine g_bipush (v := 8) h dX8_count_37 (by decide) ?_
      refine g_bipush (v := 11) h dX8_count_39 (by decide) ?_
      refine k_S_i (st := []) h hX (tX8_in (xl X) G F ω hI wh 8 11) rfl miX8_in tw_761 (by decide) (by decide) rfl (Nat.le_of_ble_eq_true rfl) (by rw [hX]; exact Nat.zero_le _) (by rw [hX]; exact Nat.zero_le _) dX8_count_41 (fun v5 hv5 => ?_)
      refine g_if_eq (tgt := 59) h dX8_count_44 (by decide) (fun c6 => ?_) (fun c6 => ?_)
      · refine g_iload_n h 1 dX8_count_59 rfl ?_
        refine g_bipush (v := 12) h dX8_count_60 (by decide) ?_
        refine g_icmp_ne (tgt := 72) h dX8_count_62 (by decide) (fun c7 => ?_) (fun c7 => ?_)
        · refine g_iload_n h 1 dX8_count_72 rfl ?_
          refine g_bipush (v := 13) h dX8_count_73 (by decide) ?_
          refine g_icmp_ne (tgt := 85) h dX8_count_75 (by decide) (fun c8 => ?_) (fun c8 => ?_)
          · refine g_bipush (v := (-2)) h dX8_count_85 (by decide) ?_
            exact e_iret h hI dX8_count_87 (by replace hv1 := hv1.symm; replace hv3 := hv3.symm; replace hv5 := hv5.symm; subst hv5 hv3 hv1; unfold m_count; first | (simp only [if_pos c2, if_pos c4, if_pos c6, if_neg c7, if_neg c8]; done) | (simp only [if_pos c2, if_pos c4, if_pos c6, if_neg c7, if_neg c8]; rfl)) rfl
          · refine g_aload_n h 0 dX8_count_78 rfl ?_
            refine q_8_pastMany h rfl tw_711 dX8_count_79 (fun v9 hv9 => ?_)
            refine g_goto (tgt := 87) h dX8_count_82 (by decide) ?_
            exact e_iret h hI dX8_count_87 (by replace hv1 := hv1.symm; replace hv3 := hv3.symm; replace hv5 := hv5.symm; replace hv9 := hv9.symm; subst hv9 hv5 hv3 hv1; unfold m_count; first | (simp only [if_pos c2, if_pos c4, if_pos c6, if_neg c7, if_pos c8]; done) | (simp only [if_pos c2, if_pos c4, if_pos c6, if_neg c7, if_pos c8]; rfl)) rfl
        · refine g_aload_n h 0 dX8_count_65 rfl ?_
          refine q_8_padMany h rfl tw_716 dX8_count_66 (fun v10 hv10 => ?_)
          refine g_goto (tgt := 87) h dX8_count_69 (by decide) ?_
          exact e_iret h hI dX8_count_87 (by replace hv1 := hv1.symm; replace hv3 := hv3.symm; replace hv5 := hv5.symm; replace hv10 := hv10.symm; subst hv10 hv5 hv3 hv1; unfold m_count; first | (simp only [if_pos c2, if_pos c4, if_pos c6, if_pos c7]; done) | (simp only [if_pos c2, if_pos c4, if_pos c6, if_pos c7]; rfl)) rfl
      · refine g_aload_n h 0 dX8_count_47 rfl ?_
        refine q_8_at h rfl tw_708 dX8_count_48 ?_
        refine g_iload_n h 1 dX8_count_51 rfl ?_
        refine g_bipush (v := 8) h dX8_count_52 (by decide) ?_
        refine g_isub h dX8_count_54 (g_name fun v11 hv11 => ?_)
        refine g_ia (q := 22) h rfl rfl (by decide) (by replace hv1 := hv1.symm; replace hv3 := hv3.symm; replace hv5 := hv5.symm; replace hv11 := hv11.symm; subst hv11 hv5 hv3 hv1; exact ix_8 c6) dX8_count_55 (fun v12 hv12 => ?_)
        refine g_goto (tgt := 87) h dX8_count_56 (by decide) ?_
        exact e_iret h hI dX8_count_87 (by replace hv1 := hv1.symm; replace hv3 := hv3.symm; replace hv5 := hv5.symm; replace hv11 := hv11.symm; replace hv12 := hv12.symm; subst hv12 hv11 hv5 hv3 hv1; unfold m_count; first | (simp only [if_pos c2, if_pos c4, if_neg c6]; done) | (simp only [if_pos c2, if_pos c4, if_neg c6]; rfl)) rfl
    · refine g_aload_n h 0 dX8_count_28 rfl ?_
      refine g_iload_n h 1 dX8_count_29 rfl ?_
      refine g_iconst (v := 4) h dX8_count_30 (by decide) ?_
      refine g_isub h dX8_count_31 (g_name fun v13 hv13 => ?_)
      refine k_V_i (st := []) h hX (tX8_sum (xl X) G F ω hI v13 (hW) (by replace hv1 := hv1.symm; replace hv3 := hv3.symm; replace hv13 := hv13.symm; subst hv13 hv3 hv1; exact w_4 c4)) rfl ⟨kd_lt rfl, ob_21 rfl⟩ rfl miX8_sum tw_968 (by decide) (by decide) rfl (Nat.le_of_ble_eq_true rfl) (by rw [hX]; exact Nat.zero_le _) (by rw [hX]; exact Nat.zero_le _) dX8_count_32 (fun v14 hv14 => ?_)
      exact e_iret h hI dX8_count_35 (by replace hv1 := hv1.symm; replace hv3 := hv3.symm; replace hv13 := hv13.symm; replace hv14 := hv14.symm; subst hv14 hv13 hv3 hv1; unfold m_count; first | (simp only [if_pos c2, if_neg c4]; done) | (simp only [if_pos c2, if_neg c4]; rfl)) rfl
  · refine g_aload_n h 0 dX8_count_9 rfl ?_
    refine q_8_at h rfl tw_708 dX8_count_10 ?_
    refine g_iconst (v := 4) h dX8_count_13 (by decide) ?_
    refine g_iload_n h 1 dX8_count_14 rfl ?_
    refine g_iadd h dX8_count_15 (g_name fun v15 hv15 => ?_)
    refine g_ia (q := 22) h rfl rfl (by decide) (by replace hv1 := hv1.symm; replace hv15 := hv15.symm; subst hv15 hv1; exact ix_4 c2) dX8_count_16 (fun v16 hv16 => ?_)
    exact e_iret h hI dX8_count_17 (by replace hv1 := hv1.symm; replace hv15 := hv15.symm; replace hv16 := hv16.symm; subst hv16 hv15 hv1; unfold m_count; first | (simp only [if_neg c2]; done) | (simp only [if_neg c2]; rfl)) rfl
set_option maxHeartbeats 4000000 in
set_option maxRecDepth 100000 in
theorem tX8_valueIn (l0 : Launch) (G : fG) (F : Nat) (ω : fOm) (hI : Inv ω) (l : Int32) (p : Int32) (t : Int32) (hW : MW (ω 648)) : CT l0 G F yX8_valueIn cX8_valueIn 5 (some .int) 6 [.ref (F + 647), .int l, .int p, .int t] ω (some (.int ((m_valIn ω l p t).1))) ((m_valIn ω l p t).2) := by
  refine ct_met (own := RX8) (by decide +kernel) rfl (Nat.le_of_ble_eq_true rfl) (fun X hXl hX h => ?_)
  subst hXl
  refine g_aload_n h 0 dX8_valueIn_0 rfl ?_
  refine g_iload_n h 1 dX8_valueIn_1 rfl ?_
  refine g_iload_n h 2 dX8_valueIn_2 rfl ?_
  refine k_V_i (st := []) h hX (tX8_isPlace (xl X) G F ω hI l p (hW)) rfl ⟨kd_lt rfl, ob_21 rfl⟩ rfl miX8_isPlace tw_779 (by decide) (by decide) rfl (Nat.le_of_ble_eq_true rfl) (by rw [hX]; exact Nat.zero_le _) (by rw [hX]; exact Nat.zero_le _) dX8_valueIn_3 (fun v1 hv1 => ?_)
  refine g_if_ne (tgt := 11) h dX8_valueIn_6 (by decide) (fun c2 => ?_) (fun c2 => ?_)
  · refine g_iload_n h 3 dX8_valueIn_11 rfl ?_
    refine g_iconst (v := 1) h dX8_valueIn_12 (by decide) ?_
    refine g_sipush (v := 200) h dX8_valueIn_13 (by decide) ?_
    refine k_S_i (st := []) h hX (tX8_in (xl X) G F ω hI t 1 200) rfl miX8_in tw_761 (by decide) (by decide) rfl (Nat.le_of_ble_eq_true rfl) (by rw [hX]; exact Nat.zero_le _) (by rw [hX]; exact Nat.zero_le _) dX8_valueIn_16 (fun v3 hv3 => ?_)
    refine g_if_ne (tgt := 25) h dX8_valueIn_19 (by decide) (fun c4 => ?_) (fun c4 => ?_)
    · refine g_aload_n h 0 dX8_valueIn_25 rfl ?_
      refine k_V_v (st := []) h hX (tX8_layAside (xl X) G F ω hI) rfl ⟨kd_lt rfl, ob_21 rfl⟩ rfl miX8_layAside tw_976 (by decide) (by decide) rfl (Nat.le_of_ble_eq_true rfl) (by rw [hX]; exact Nat.zero_le _) (by rw [hX]; exact Nat.zero_le _) dX8_valueIn_26 (fun w5 hw5 iw5 => ?_)
      refine g_aload_n h 0 dX8_valueIn_29 rfl ?_
      refine g_iload_n h 3 dX8_valueIn_30 rfl ?_
      refine k_V_v (st := []) h hX (tX8_passAll (xl X) G F w5 iw5 t (by clear iw5; replace hv1 := hv1.symm; replace hv3 := hv3.symm; replace hw5 := hw5.symm; subst hw5 hv3 hv1; exact aside_W hW) (by clear iw5; replace hv1 := hv1.symm; replace hv3 := hv3.symm; replace hw5 := hw5.symm; subst hw5 hv3 hv1; exact btwT c4)) rfl ⟨kd_lt rfl, ob_21 rfl⟩ rfl miX8_passAll tw_872 (by decide) (by decide) rfl (Nat.le_of_ble_eq_true rfl) (by rw [hX]; exact Nat.zero_le _) (by rw [hX]; exact Nat.zero_le _) dX8_valueIn_31 (fun w6 hw6 iw6 => ?_)
      refine g_aload_n h 0 dX8_valueIn_34 rfl ?_
      refine q_8_at h rfl tw_708 dX8_valueIn_35 ?_
      refine g_iload_n h 1 dX8_valueIn_38 rfl ?_
      refine g_iload_n h 2 dX8_valueIn_39 rfl ?_
      refine k_S_i (st := [.ref (F + 648)]) h hX (tX8_cell (xl X) G F w6 iw6 l p) rfl miX8_cell tw_849 (by decide) (by decide) rfl (Nat.le_of_ble_eq_true rfl) (by rw [hX]; exact Nat.zero_le _) (by rw [hX]; exact Nat.zero_le _) dX8_valueIn_40 (fun v7 hv7 => ?_)
      refine g_ia (q := 22) h rfl rfl (by decide) (by clear iw5 iw6; replace hv1 := hv1.symm; replace hv3 := hv3.symm; replace hw5 := hw5.symm; replace hw6 := hw6.symm; replace hv7 := hv7.symm; subst hv7 hw6 hw5 hv3 hv1; exact ixc (mc_rg (isP_rg hW c2).1 (isP_rg hW c2).2)) dX8_valueIn_43 (fun v8 hv8 => ?_)
      refine g_istore (loc2 := [(4, .int v8), (0, .ref (F + 647)), (1, .int l), (2, .int p), (3, .int t)]) h dX8_valueIn_44 (by decide) rfl ?_
      refine g_aload_n h 1 dX8_valueIn_46 rfl ?_
      refine k_V_v (st := []) h hX (tX8_layBack (xl X) G F w6 iw6) rfl ⟨kd_lt rfl, ob_21 rfl⟩ rfl miX8_layBack tw_980 (by decide) (by decide) rfl (Nat.le_of_ble_eq_true rfl) (by rw [hX]; exact Nat.zero_le _) (by rw [hX]; exact Nat.zero_le _) dX8_valueIn_47 (fun w9 hw9 iw9 => ?_)
      refine g_iload h 0 dX8_valueIn_50 rfl ?_
      exact e_iret h iw9 dX8_valueIn_52 (by clear iw5 iw6 iw9; replace hv1 := hv1.symm; replace hv3 := hv3.symm; replace hw5 := hw5.symm; replace hw6 := hw6.symm; replace hv7 := hv7.symm; replace hv8 := hv8.symm; replace hw9 := hw9.symm; subst hw9 hv8 hv7 hw6 hw5 hv3 hv1; unfold m_valIn; first | (simp only [if_neg c2, if_neg c4]; done) | (simp only [if_neg c2, if_neg c4]; rfl)) (by clear iw5 iw6 iw9; replace hv1 := hv1.symm; replace hv3 := hv3.symm; replace hw5 := hw5.symm; replace hw6 := hw6.symm; replace hv7 := hv7.symm; replace hv8 := hv8.symm; replace hw9 := hw9.symm; subst hw9 hv8 hv7 hw6 hw5 hv3 hv1; unfold m_valIn; first | (simp only [if_neg c2, if_neg c4]; done) | (simp only [if_neg c2, if_neg c4]; rfl))
    · refine g_bipush (v := (-2)) h dX8_valueIn_22 (by decide) ?_
      exact e_iret h hI dX8_valueIn_24 (by replace hv1 := hv1.symm; replace hv3 := hv3.symm; subst hv3 hv1; unfold m_valIn; first | (simp only [if_neg c2, if_pos c4]; done) | (simp only [if_neg c2, if_pos c4]; rfl)) (by replace hv1 := hv1.symm; replace hv3 := hv3.symm; subst hv3 hv1; unfold m_valIn; first | (simp only [if_neg c2, if_pos c4]; done) | (simp only [if_neg c2, if_pos c4]; rfl))
  · refine g_iconst (v := (-1)) h dX8_valueIn_9 (by decide) ?_
    exact e_iret h hI dX8_valueIn_10 (by replace hv1 := hv1.symm; subst hv1; unfold m_valIn; first | (simp only [if_pos c2]; done) | (simp only [if_pos c2]; rfl)) (by replace hv1 := hv1.symm; subst hv1; unfold m_valIn; first | (simp only [if_pos c2]; done) | (simp only [if_pos c2]; rfl))
set_option maxHeartbeats 4000000 in
set_option maxRecDepth 100000 in
theorem tX8_leftIn (l0 : Launch) (G : fG) (F : Nat) (ω : fOm) (hI : Inv ω) (t : Int32) (hW : MW (ω 648)) : CT l0 G F yX8_leftIn cX8_leftIn 3 (some .int) 6 [.ref (F + 647), .int t] ω (some (.int ((m_left ω t).1))) ((m_left ω t).2) := by
  refine ct_met (own := RX8) (by decide +kernel) rfl (Nat.le_of_ble_eq_true rfl) (fun X hXl hX h => ?_)
  subst hXl
  refine g_iload_n h 1 dX8_leftIn_0 rfl ?_
  refine g_iconst (v := 1) h dX8_leftIn_1 (by decide) ?_
  refine g_sipush (v := 200) h dX8_leftIn_2 (by decide) ?_
  refine k_S_i (st := []) h hX (tX8_in (xl X) G F ω hI t 1 200) rfl miX8_in tw_761 (by decide) (by decide) rfl (Nat.le_of_ble_eq_true rfl) (by rw [hX]; exact Nat.zero_le _) (by rw [hX]; exact Nat.zero_le _) dX8_leftIn_5 (fun v1 hv1 => ?_)
  refine g_if_ne (tgt := 14) h dX8_leftIn_8 (by decide) (fun c2 => ?_) (fun c2 => ?_)
  · refine g_aload_n h 0 dX8_leftIn_14 rfl ?_
    refine k_V_v (st := []) h hX (tX8_layAside (xl X) G F ω hI) rfl ⟨kd_lt rfl, ob_21 rfl⟩ rfl miX8_layAside tw_976 (by decide) (by decide) rfl (Nat.le_of_ble_eq_true rfl) (by rw [hX]; exact Nat.zero_le _) (by rw [hX]; exact Nat.zero_le _) dX8_leftIn_15 (fun w3 hw3 iw3 => ?_)
    refine g_aload_n h 0 dX8_leftIn_18 rfl ?_
    refine g_iload_n h 1 dX8_leftIn_19 rfl ?_
    refine k_V_v (st := []) h hX (tX8_passAll (xl X) G F w3 iw3 t (by clear iw3; replace hv1 := hv1.symm; replace hw3 := hw3.symm; subst hw3 hv1; exact aside_W hW) (by clear iw3; replace hv1 := hv1.symm; replace hw3 := hw3.symm; subst hw3 hv1; exact btwT c2)) rfl ⟨kd_lt rfl, ob_21 rfl⟩ rfl miX8_passAll tw_872 (by decide) (by decide) rfl (Nat.le_of_ble_eq_true rfl) (by rw [hX]; exact Nat.zero_le _) (by rw [hX]; exact Nat.zero_le _) dX8_leftIn_20 (fun w4 hw4 iw4 => ?_)
    refine g_aload_n h 0 dX8_leftIn_23 rfl ?_
    refine g_iconst (v := 0) h dX8_leftIn_24 (by decide) ?_
    refine k_V_i (st := []) h hX (tX8_sum (xl X) G F w4 iw4 0 (by clear iw3 iw4; replace hv1 := hv1.symm; replace hw3 := hw3.symm; replace hw4 := hw4.symm; subst hw4 hw3 hv1; exact (pN_K (aside_W hW) _).2) (by decide)) rfl ⟨kd_lt rfl, ob_21 rfl⟩ rfl miX8_sum tw_968 (by decide) (by decide) rfl (Nat.le_of_ble_eq_true rfl) (by rw [hX]; exact Nat.zero_le _) (by rw [hX]; exact Nat.zero_le _) dX8_leftIn_25 (fun v5 hv5 => ?_)
    refine g_istore_n (loc2 := [(2, .int v5), (0, .ref (F + 647)), (1, .int t)]) h dX8_leftIn_28 (by decide) rfl ?_
    refine g_aload_n h 1 dX8_leftIn_29 rfl ?_
    refine k_V_v (st := []) h hX (tX8_layBack (xl X) G F w4 iw4) rfl ⟨kd_lt rfl, ob_21 rfl⟩ rfl miX8_layBack tw_980 (by decide) (by decide) rfl (Nat.le_of_ble_eq_true rfl) (by rw [hX]; exact Nat.zero_le _) (by rw [hX]; exact Nat.zero_le _) dX8_leftIn_30 (fun w6 hw6 iw6 => ?_)
    refine g_iload_n h 0 dX8_leftIn_33 rfl ?_
    exact e_iret h iw6 dX8_leftIn_34 (by clear iw3 iw4 iw6; replace hv1 := hv1.symm; replace hw3 := hw3.symm; replace hw4 := hw4.symm; replace hv5 := hv5.symm; replace hw6 := hw6.symm; subst hw6 hv5 hw4 hw3 hv1; unfold m_left; first | (simp only [if_neg c2]; done) | (simp only [if_neg c2]; rfl)) (by clear iw3 iw4 iw6; replace hv1 := hv1.symm; replace hw3 := hw3.symm; replace hw4 := hw4.symm; replace hv5 := hv5.symm; replace hw6 := hw6.symm; subst hw6 hv5 hw4 hw3 hv1; unfold m_left; first | (simp only [if_neg c2]; done) | (simp only [if_neg c2]; rfl))
  · refine g_bipush (v := (-2)) h dX8_leftIn_11 (by decide) ?_
    exact e_iret h hI dX8_leftIn_13 (by replace hv1 := hv1.symm; subst hv1; unfold m_left; first | (simp only [if_pos c2]; done) | (simp only [if_pos c2]; rfl)) (by replace hv1 := hv1.symm; subst hv1; unfold m_left; first | (simp only [if_pos c2]; done) | (simp only [if_pos c2]; rfl))
set_option maxHeartbeats 4000000 in
set_option maxRecDepth 100000 in
theorem tX8_lossWithin (l0 : Launch) (G : fG) (F : Nat) (ω : fOm) (hI : Inv ω) (t : Int32) (hW : MW (ω 648)) (ht : 0 ≤ t ∧ t ≤ 300) : CT l0 G F yX8_lossWithin cX8_lossWithin 4 (some .int) 5 [.ref (F + 647), .int t] ω (some (.int (nI (m_lwN ω t)))) (m_lwW ω t) := by
  refine ct_met (own := RX8) (by decide +kernel) rfl (Nat.le_of_ble_eq_true rfl) (fun X hXl hX h => ?_)
  subst hXl
  refine g_aload_n h 0 dX8_lossWithin_0 rfl ?_
  refine k_V_v (st := []) h hX (tX8_layAside (xl X) G F ω hI) rfl ⟨kd_lt rfl, ob_21 rfl⟩ rfl miX8_layAside tw_976 (by decide) (by decide) rfl (Nat.le_of_ble_eq_true rfl) (by rw [hX]; exact Nat.zero_le _) (by rw [hX]; exact Nat.zero_le _) dX8_lossWithin_1 (fun w1 hw1 iw1 => ?_)
  refine g_aload_n h 0 dX8_lossWithin_4 rfl ?_
  refine g_iconst (v := 2) h dX8_lossWithin_5 (by decide) ?_
  refine k_V_i (st := []) h hX (tX8_sum (xl X) G F w1 iw1 2 (by clear iw1; replace hw1 := hw1.symm; subst hw1; exact aside_W hW) (by decide)) rfl ⟨kd_lt rfl, ob_21 rfl⟩ rfl miX8_sum tw_968 (by decide) (by decide) rfl (Nat.le_of_ble_eq_true rfl) (by rw [hX]; exact Nat.zero_le _) (by rw [hX]; exact Nat.zero_le _) dX8_lossWithin_6 (fun v2 hv2 => ?_)
  refine g_istore_n (loc2 := [(2, .int v2), (0, .ref (F + 647)), (1, .int t)]) h dX8_lossWithin_9 (by decide) rfl ?_
  refine g_iconst (v := 0) h dX8_lossWithin_10 (by decide) ?_
  refine g_istore_n (loc2 := [(3, .int 0), (2, .int v2), (0, .ref (F + 647)), (1, .int t)]) h dX8_lossWithin_11 (by decide) rfl ?_
  have e4 : 0 = nI 0 := by clear iw1; replace hw1 := hw1.symm; replace hv2 := hv2.symm; subst hv2 hw1; first | rfl | exact nI_0.symm | exact nI_0 | decide
  have e5 : w1 = m_pN (m_aside ω) 0 := by clear iw1; replace hw1 := hw1.symm; replace hv2 := hv2.symm; subst hv2 hw1; rfl
  refine g_lt (ω2 := m_pN (m_aside ω) 0) (loc2 := [(3, .int (nI 0)), (2, .int v2), (0, .ref (F + 647)), (1, .int t)]) e5 (lc_i e4 rfl) rfl ?_
  refine g_loop3 (hd := 12) (t.toNatClampNeg + 1) (fun j3 => Inv (m_pN (m_aside ω) j3) ∧ m_lwN ω t = m_lwF (m_sum (m_aside ω) 2) (m_aside ω) (t.toNatClampNeg + 1 - j3) j3) (fun j3 => [(3, .int (nI j3)), (2, .int v2), (0, .ref (F + 647)), (1, .int t)]) (fun j3 => cel F G (m_pN (m_aside ω) j3)) ⟨(e5 ▸ iw1), rfl⟩ (fun j3 hj8 hP6 ih7 => ?_)
  (try dsimp only)
  obtain ⟨iv9, hP1⟩ := hP6
  refine g_iload_n h 0 dX8_lossWithin_12 rfl ?_
  refine g_iload_n h 3 dX8_lossWithin_13 rfl ?_
  refine g_icmp_gt (tgt := 36) h dX8_lossWithin_14 (by decide) (fun c10 => ?_) (fun c10 => ?_)
  · have hN11 : j3 = (t.toNatClampNeg + 1) := by clear iw1 ih7; replace hw1 := hw1.symm; replace hv2 := hv2.symm; subst hv2 hw1; exact lw_ge ht c10 hj8
    refine g_aload_n h 2 dX8_lossWithin_36 rfl ?_
    refine k_V_v (st := []) h hX (tX8_layBack (xl X) G F (m_pN (m_aside ω) j3) iv9) rfl ⟨kd_lt rfl, ob_21 rfl⟩ rfl miX8_layBack tw_980 (by decide) (by decide) rfl (Nat.le_of_ble_eq_true rfl) (by rw [hX]; exact Nat.zero_le _) (by rw [hX]; exact Nat.zero_le _) dX8_lossWithin_37 (fun w12 hw12 iw12 => ?_)
    refine g_iload_n h 0 dX8_lossWithin_40 rfl ?_
    exact e_iret h iw12 dX8_lossWithin_41 (by clear iw1 ih7 iw12; replace hw1 := hw1.symm; replace hv2 := hv2.symm; replace hw12 := hw12.symm; subst hw12 hv2 hw1; rw [lw_a hP1 hN11]) (by clear iw1 ih7 iw12; replace hw1 := hw1.symm; replace hv2 := hv2.symm; replace hw12 := hw12.symm; subst hw12 hv2 hw1; unfold m_lwW; rw [lw_a hP1 hN11])
  · have hlt13 : j3 < (t.toNatClampNeg + 1) := by clear iw1 ih7; replace hw1 := hw1.symm; replace hv2 := hv2.symm; subst hv2 hw1; exact lw_lt ht c10 hj8
    refine g_aload_n h 2 dX8_lossWithin_17 rfl ?_
    refine g_iconst (v := 2) h dX8_lossWithin_18 (by decide) ?_
    refine k_V_i (st := []) h hX (tX8_sum (xl X) G F (m_pN (m_aside ω) j3) iv9 2 (by clear iw1 ih7; replace hw1 := hw1.symm; replace hv2 := hv2.symm; subst hv2 hw1; exact (pN_K (aside_W hW) _).2) (by decide)) rfl ⟨kd_lt rfl, ob_21 rfl⟩ rfl miX8_sum tw_968 (by decide) (by decide) rfl (Nat.le_of_ble_eq_true rfl) (by rw [hX]; exact Nat.zero_le _) (by rw [hX]; exact Nat.zero_le _) dX8_lossWithin_19 (fun v14 hv14 => ?_)
    refine g_iload_n h 1 dX8_lossWithin_22 rfl ?_
    refine g_icmp_ne (tgt := 36) h dX8_lossWithin_23 (by decide) (fun c15 => ?_) (fun c15 => ?_)
    · refine g_aload_n h 2 dX8_lossWithin_36 rfl ?_
      refine k_V_v (st := []) h hX (tX8_layBack (xl X) G F (m_pN (m_aside ω) j3) iv9) rfl ⟨kd_lt rfl, ob_21 rfl⟩ rfl miX8_layBack tw_980 (by decide) (by decide) rfl (Nat.le_of_ble_eq_true rfl) (by rw [hX]; exact Nat.zero_le _) (by rw [hX]; exact Nat.zero_le _) dX8_lossWithin_37 (fun w16 hw16 iw16 => ?_)
      refine g_iload_n h 0 dX8_lossWithin_40 rfl ?_
      exact e_iret h iw16 dX8_lossWithin_41 (by clear iw1 ih7 iw16; replace hw1 := hw1.symm; replace hv2 := hv2.symm; replace hv14 := hv14.symm; replace hw16 := hw16.symm; subst hw16 hv14 hv2 hw1; rw [lw_b hP1 hlt13 c15]) (by clear iw1 ih7 iw16; replace hw1 := hw1.symm; replace hv2 := hv2.symm; replace hv14 := hv14.symm; replace hw16 := hw16.symm; subst hw16 hv14 hv2 hw1; unfold m_lwW; rw [lw_b hP1 hlt13 c15])
    · refine g_aload_n h 2 dX8_lossWithin_26 rfl ?_
      refine k_V_v (st := []) h hX (tX8_pass (xl X) G F (m_pN (m_aside ω) j3) iv9 (by clear iw1 ih7; replace hw1 := hw1.symm; replace hv2 := hv2.symm; replace hv14 := hv14.symm; subst hv14 hv2 hw1; exact (pN_K (aside_W hW) _).2)) rfl ⟨kd_lt rfl, ob_21 rfl⟩ rfl miX8_pass tw_876 (by decide) (by decide) rfl (Nat.le_of_ble_eq_true rfl) (by rw [hX]; exact Nat.zero_le _) (by rw [hX]; exact Nat.zero_le _) dX8_lossWithin_27 (fun w17 hw17 iw17 => ?_)
      obtain ⟨v18, hv18⟩ : ∃ z : Int32, z = (nI j3) + 1 := ⟨_, rfl⟩
      refine g_iinc (v := v18) (loc2 := [(3, .int v18), (2, .int v2), (0, .ref (F + 647)), (1, .int t)]) h 0 dX8_lossWithin_30 rfl (by rw [hv18]; rfl) (by decide) rfl ?_
      refine g_goto (tgt := 12) h dX8_lossWithin_33 (by decide) ?_
      have e19 : v18 = nI (j3 + 1) := by clear iw1 ih7 iw17; replace hw1 := hw1.symm; replace hv2 := hv2.symm; replace hv14 := hv14.symm; replace hw17 := hw17.symm; replace hv18 := hv18.symm; subst hv18 hw17 hv14 hv2 hw1; first | rfl | exact nI_1 _ | (rw [nI_succ])
      have e20 : w17 = m_pN (m_aside ω) (j3 + 1) := by clear iw1 ih7 iw17; replace hw1 := hw1.symm; replace hv2 := hv2.symm; replace hv14 := hv14.symm; replace hw17 := hw17.symm; replace hv18 := hv18.symm; subst hv18 hw17 hv14 hv2 hw1; rfl
      exact g_lt e20 (lc_i e19 rfl) rfl (ih7 hlt13 ⟨(e20 ▸ iw17), (by clear iw1 ih7 iw17; replace hw1 := hw1.symm; replace hv2 := hv2.symm; replace hv14 := hv14.symm; replace hw17 := hw17.symm; replace hv18 := hv18.symm; subst hv18 hw17 hv14 hv2 hw1; exact lw_c hP1 hlt13 c15)⟩)
set_option maxHeartbeats 4000000 in
set_option maxRecDepth 100000 in
theorem tX8_firstLoss (l0 : Launch) (G : fG) (F : Nat) (ω : fOm) (hI : Inv ω) (hW : MW (ω 648)) : CT l0 G F yX8_firstLoss cX8_firstLoss 2 (some .int) 6 [.ref (F + 647)] ω (some (.int (m_first ω))) (m_lwW ω 300) := by
  refine ct_met (own := RX8) (by decide +kernel) rfl (Nat.le_of_ble_eq_true rfl) (fun X hXl hX h => ?_)
  subst hXl
  refine g_aload_n h 0 dX8_firstLoss_0 rfl ?_
  refine g_sipush (v := 300) h dX8_firstLoss_1 (by decide) ?_
  refine k_V_j (st := []) h hX (tX8_lossWithin (xl X) G F ω hI 300 (hW) (by decide)) rfl ⟨kd_lt rfl, ob_21 rfl⟩ rfl miX8_lossWithin tw_992 (by decide) (by decide) rfl (Nat.le_of_ble_eq_true rfl) (by rw [hX]; exact Nat.zero_le _) (by rw [hX]; exact Nat.zero_le _) dX8_firstLoss_4 (fun v1 w2 hv1 hw2 iw2 => ?_)
  refine g_istore_n (loc2 := [(1, .int v1), (0, .ref (F + 647))]) h dX8_firstLoss_7 (by decide) rfl ?_
  refine g_iload_n h 0 dX8_firstLoss_8 rfl ?_
  refine g_sipush (v := 300) h dX8_firstLoss_9 (by decide) ?_
  refine g_icmp_le (tgt := 20) h dX8_firstLoss_12 (by decide) (fun c3 => ?_) (fun c3 => ?_)
  · refine g_iload_n h 0 dX8_firstLoss_20 rfl ?_
    exact e_iret h iw2 dX8_firstLoss_21 (by clear iw2; replace hv1 := hv1.symm; replace hw2 := hw2.symm; subst hw2 hv1; unfold m_first; first | (simp only [if_pos c3]; done) | (simp only [if_pos c3]; rfl)) (by clear iw2; replace hv1 := hv1.symm; replace hw2 := hw2.symm; subst hw2 hv1; rfl)
  · refine g_bipush (v := (-6)) h dX8_firstLoss_15 (by decide) ?_
    refine g_goto (tgt := 21) h dX8_firstLoss_17 (by decide) ?_
    exact e_iret h iw2 dX8_firstLoss_21 (by clear iw2; replace hv1 := hv1.symm; replace hw2 := hw2.symm; subst hw2 hv1; unfold m_first; first | (simp only [if_neg c3]; done) | (simp only [if_neg c3]; rfl)) (by clear iw2; replace hv1 := hv1.symm; replace hw2 := hw2.symm; subst hw2 hv1; rfl)
set_option maxHeartbeats 4000000 in
set_option maxRecDepth 100000 in
theorem tX8_bestPlace (l0 : Launch) (G : fG) (F : Nat) (ω : fOm) (hI : Inv ω) (l : Int32) (g : Int32) (s : Int32) (wh : Int32) (hW : MW (ω 648)) : CT l0 G F yX8_bestPlace cX8_bestPlace 9 (some .int) 6 [.ref (F + 647), .int l, .int g, .int s, .int wh] ω (some (.int ((m_best ω l g s wh).1))) ((m_best ω l g s wh).2) := by
  refine ct_met (own := RX8) (by decide +kernel) rfl (Nat.le_of_ble_eq_true rfl) (fun X hXl hX h => ?_)
  subst hXl
  refine g_aload_n h 0 dX8_bestPlace_0 rfl ?_
  refine g_iload_n h 1 dX8_bestPlace_1 rfl ?_
  refine k_V_i (st := []) h hX (tX8_isLoop (xl X) G F ω hI l) rfl ⟨kd_lt rfl, ob_21 rfl⟩ rfl miX8_isLoop tw_783 (by decide) (by decide) rfl (Nat.le_of_ble_eq_true rfl) (by rw [hX]; exact Nat.zero_le _) (by rw [hX]; exact Nat.zero_le _) dX8_bestPlace_2 (fun v1 hv1 => ?_)
  refine g_if_ne (tgt := 10) h dX8_bestPlace_5 (by decide) (fun c2 => ?_) (fun c2 => ?_)
  · refine g_iload_n h 2 dX8_bestPlace_10 rfl ?_
    refine g_iconst (v := 1) h dX8_bestPlace_11 (by decide) ?_
    refine g_sipush (v := 500) h dX8_bestPlace_12 (by decide) ?_
    refine k_S_i (st := []) h hX (tX8_in (xl X) G F ω hI g 1 500) rfl miX8_in tw_761 (by decide) (by decide) rfl (Nat.le_of_ble_eq_true rfl) (by rw [hX]; exact Nat.zero_le _) (by rw [hX]; exact Nat.zero_le _) dX8_bestPlace_15 (fun v3 hv3 => ?_)
    refine g_if_eq (tgt := 42) h dX8_bestPlace_18 (by decide) (fun c4 => ?_) (fun c4 => ?_)
    · refine g_bipush (v := (-2)) h dX8_bestPlace_42 (by decide) ?_
      exact e_iret h hI dX8_bestPlace_44 (by replace hv1 := hv1.symm; replace hv3 := hv3.symm; subst hv3 hv1; unfold m_best; first | (simp only [if_neg c2, if_pos c4]; done) | (simp only [if_neg c2, if_pos c4]; rfl)) (by replace hv1 := hv1.symm; replace hv3 := hv3.symm; subst hv3 hv1; unfold m_best; first | (simp only [if_neg c2, if_pos c4]; done) | (simp only [if_neg c2, if_pos c4]; rfl))
    · refine g_iload_n h 3 dX8_bestPlace_21 rfl ?_
      refine g_iconst (v := 1) h dX8_bestPlace_22 (by decide) ?_
      refine g_sipush (v := 2000) h dX8_bestPlace_23 (by decide) ?_
      refine k_S_i (st := []) h hX (tX8_in (xl X) G F ω hI s 1 2000) rfl miX8_in tw_761 (by decide) (by decide) rfl (Nat.le_of_ble_eq_true rfl) (by rw [hX]; exact Nat.zero_le _) (by rw [hX]; exact Nat.zero_le _) dX8_bestPlace_26 (fun v5 hv5 => ?_)
      refine g_if_eq (tgt := 42) h dX8_bestPlace_29 (by decide) (fun c6 => ?_) (fun c6 => ?_)
      · refine g_bipush (v := (-2)) h dX8_bestPlace_42 (by decide) ?_
        exact e_iret h hI dX8_bestPlace_44 (by replace hv1 := hv1.symm; replace hv3 := hv3.symm; replace hv5 := hv5.symm; subst hv5 hv3 hv1; unfold m_best; first | (simp only [if_neg c2, if_neg c4, if_pos c6]; done) | (simp only [if_neg c2, if_neg c4, if_pos c6]; rfl)) (by replace hv1 := hv1.symm; replace hv3 := hv3.symm; replace hv5 := hv5.symm; subst hv5 hv3 hv1; unfold m_best; first | (simp only [if_neg c2, if_neg c4, if_pos c6]; done) | (simp only [if_neg c2, if_neg c4, if_pos c6]; rfl))
      · refine g_iload h 4 dX8_bestPlace_32 rfl ?_
        refine g_iconst (v := 0) h dX8_bestPlace_34 (by decide) ?_
        refine g_iconst (v := 1) h dX8_bestPlace_35 (by decide) ?_
        refine k_S_i (st := []) h hX (tX8_in (xl X) G F ω hI wh 0 1) rfl miX8_in tw_761 (by decide) (by decide) rfl (Nat.le_of_ble_eq_true rfl) (by rw [hX]; exact Nat.zero_le _) (by rw [hX]; exact Nat.zero_le _) dX8_bestPlace_36 (fun v7 hv7 => ?_)
        refine g_if_ne (tgt := 45) h dX8_bestPlace_39 (by decide) (fun c8 => ?_) (fun c8 => ?_)
        · refine g_aload_n h 0 dX8_bestPlace_45 rfl ?_
          refine q_8_at h rfl tw_708 dX8_bestPlace_46 ?_
          refine g_bipush (v := 6) h dX8_bestPlace_49 (by decide) ?_
          refine g_ia (q := 22) h rfl rfl (by decide) (vp_n (j := 6) (Nat.le_of_ble_eq_true rfl) (Nat.le_of_ble_eq_true rfl)) dX8_bestPlace_51 (fun v9 hv9 => ?_)
          replace hv9 : v9 = ω 648 6 := hv9
          refine g_bipush (v := 12) h dX8_bestPlace_52 (by decide) ?_
          refine g_icmp_ne (tgt := 60) h dX8_bestPlace_54 (by decide) (fun c10 => ?_) (fun c10 => ?_)
          · refine g_bipush (v := (-6)) h dX8_bestPlace_60 (by decide) ?_
            refine g_istore (loc2 := [(5, .int (-6)), (0, .ref (F + 647)), (1, .int l), (2, .int g), (3, .int s), (4, .int wh)]) h dX8_bestPlace_62 (by decide) rfl ?_
            refine g_iconst (v := 0) h dX8_bestPlace_64 (by decide) ?_
            refine g_istore (loc2 := [(6, .int 0), (5, .int (-6)), (0, .ref (F + 647)), (1, .int l), (2, .int g), (3, .int s), (4, .int wh)]) h dX8_bestPlace_65 (by decide) rfl ?_
            refine g_iconst (v := 0) h dX8_bestPlace_67 (by decide) ?_
            refine g_istore (loc2 := [(7, .int 0), (6, .int 0), (5, .int (-6)), (0, .ref (F + 647)), (1, .int l), (2, .int g), (3, .int s), (4, .int wh)]) h dX8_bestPlace_68 (by decide) rfl ?_
            have e12 : 0 = nI 0 := by replace hv1 := hv1.symm; replace hv3 := hv3.symm; replace hv5 := hv5.symm; replace hv7 := hv7.symm; replace hv9 := hv9.symm; subst hv9 hv7 hv5 hv3 hv1; first | rfl | exact nI_0.symm | exact nI_0 | decide
            have e13 : 0 = (m_bp l g s ω 0).2.1 := by replace hv1 := hv1.symm; replace hv3 := hv3.symm; replace hv5 := hv5.symm; replace hv7 := hv7.symm; replace hv9 := hv9.symm; subst hv9 hv7 hv5 hv3 hv1; first | rfl | exact nI_0.symm | exact nI_0 | decide
            have e14 : (-6) = (m_bp l g s ω 0).1 := by replace hv1 := hv1.symm; replace hv3 := hv3.symm; replace hv5 := hv5.symm; replace hv7 := hv7.symm; replace hv9 := hv9.symm; subst hv9 hv7 hv5 hv3 hv1; first | rfl | exact nI_0.symm | exact nI_0 | decide
            have e15 : ω = (m_bp l g s ω 0).2.2 := rfl
            refine g_lt (ω2 := (m_bp l g s ω 0).2.2) (loc2 := [(7, .int (nI 0)), (6, .int ((m_bp l g s ω 0).2.1)), (5, .int ((m_bp l g s ω 0).1)), (0, .ref (F + 647)), (1, .int l), (2, .int g), (3, .int s), (4, .int wh)]) e15 (lc_i e12 (lc_i e13 (lc_i e14 rfl))) rfl ?_
            refine g_loop3 (hd := 70) ((ω 648 (iL l 0)).toNatClampNeg) (fun j11 => Inv ((m_bp l g s ω j11).2.2)) (fun j11 => [(7, .int (nI j11)), (6, .int ((m_bp l g s ω j11).2.1)), (5, .int ((m_bp l g s ω j11).1)), (0, .ref (F + 647)), (1, .int l), (2, .int g), (3, .int s), (4, .int wh)]) (fun j11 => cel F G ((m_bp l g s ω j11).2.2)) (e15 ▸ hI) (fun j11 hj18 hP16 ih17 => ?_)
            (try dsimp only)
            have iv19 := hP16
            refine g_iload h 0 dX8_bestPlace_70 rfl ?_
            refine g_aload_n h 3 dX8_bestPlace_72 rfl ?_
            refine g_iload_n h 4 dX8_bestPlace_73 rfl ?_
            refine g_iconst (v := 0) h dX8_bestPlace_74 (by decide) ?_
            refine k_V_i (st := [.int (nI j11)]) h hX (tX8_ofL (xl X) G F ((m_bp l g s ω j11).2.2) iv19 l 0 (by clear ih17; replace hv1 := hv1.symm; replace hv3 := hv3.symm; replace hv5 := hv5.symm; replace hv7 := hv7.symm; replace hv9 := hv9.symm; subst hv9 hv7 hv5 hv3 hv1; exact (isL_rg hW c2)) (by decide)) rfl ⟨kd_lt rfl, ob_21 rfl⟩ rfl miX8_ofL tw_787 (by decide) (by decide) rfl (Nat.le_of_ble_eq_true rfl) (by rw [hX]; exact Nat.zero_le _) (by rw [hX]; exact Nat.zero_le _) dX8_bestPlace_75 (fun v20 hv20 => ?_)
            refine g_icmp_ge (tgt := 138) h dX8_bestPlace_78 (by decide) (fun c21 => ?_) (fun c21 => ?_)
            · have hN22 : j11 = ((ω 648 (iL l 0)).toNatClampNeg) := by clear ih17; replace hv1 := hv1.symm; replace hv3 := hv3.symm; replace hv5 := hv5.symm; replace hv7 := hv7.symm; replace hv9 := hv9.symm; replace hv20 := hv20.symm; subst hv20 hv9 hv7 hv5 hv3 hv1; exact lpe_ge (mbp_K j11 _ (cK_Q (ck_L0 (isL_rg hW c2)))) (hW.L (isL_rg hW c2)).1 c21 hj18
              refine g_iload h 7 dX8_bestPlace_138 rfl ?_
              refine g_if_ne (tgt := 148) h dX8_bestPlace_140 (by decide) (fun c23 => ?_) (fun c23 => ?_)
              · refine g_iload h 1 dX8_bestPlace_148 rfl ?_
                exact e_iret h iv19 dX8_bestPlace_150 (by clear ih17; replace hv1 := hv1.symm; replace hv3 := hv3.symm; replace hv5 := hv5.symm; replace hv7 := hv7.symm; replace hv9 := hv9.symm; replace hv20 := hv20.symm; subst hv20 hv9 hv7 hv5 hv3 hv1; unfold m_best; rw [← hN22]; simp only [if_neg c2, if_neg c4, if_neg c6, if_neg c8, if_neg c10, if_pos c21, if_neg c23]) (by clear ih17; replace hv1 := hv1.symm; replace hv3 := hv3.symm; replace hv5 := hv5.symm; replace hv7 := hv7.symm; replace hv9 := hv9.symm; replace hv20 := hv20.symm; subst hv20 hv9 hv7 hv5 hv3 hv1; unfold m_best; rw [← hN22]; simp only [if_neg c2, if_neg c4, if_neg c6, if_neg c8, if_neg c10, if_pos c21, if_neg c23])
              · refine g_iload h 2 dX8_bestPlace_143 rfl ?_
                refine g_goto (tgt := 150) h dX8_bestPlace_145 (by decide) ?_
                exact e_iret h iv19 dX8_bestPlace_150 (by clear ih17; replace hv1 := hv1.symm; replace hv3 := hv3.symm; replace hv5 := hv5.symm; replace hv7 := hv7.symm; replace hv9 := hv9.symm; replace hv20 := hv20.symm; subst hv20 hv9 hv7 hv5 hv3 hv1; unfold m_best; rw [← hN22]; simp only [if_neg c2, if_neg c4, if_neg c6, if_neg c8, if_neg c10, if_pos c21, if_pos c23]) (by clear ih17; replace hv1 := hv1.symm; replace hv3 := hv3.symm; replace hv5 := hv5.symm; replace hv7 := hv7.symm; replace hv9 := hv9.symm; replace hv20 := hv20.symm; subst hv20 hv9 hv7 hv5 hv3 hv1; unfold m_best; rw [← hN22]; simp only [if_neg c2, if_neg c4, if_neg c6, if_neg c8, if_neg c10, if_pos c21, if_pos c23])
            · have hlt24 : j11 < ((ω 648 (iL l 0)).toNatClampNeg) := by clear ih17; replace hv1 := hv1.symm; replace hv3 := hv3.symm; replace hv5 := hv5.symm; replace hv7 := hv7.symm; replace hv9 := hv9.symm; replace hv20 := hv20.symm; subst hv20 hv9 hv7 hv5 hv3 hv1; exact lpe_lt (mbp_K j11 _ (cK_Q (ck_L0 (isL_rg hW c2)))) (hW.L (isL_rg hW c2)).1 c21 hj18
              refine g_aload_n h 3 dX8_bestPlace_81 rfl ?_
              refine k_V_v (st := []) h hX (tX8_layAside (xl X) G F ((m_bp l g s ω j11).2.2) iv19) rfl ⟨kd_lt rfl, ob_21 rfl⟩ rfl miX8_layAside tw_976 (by decide) (by decide) rfl (Nat.le_of_ble_eq_true rfl) (by rw [hX]; exact Nat.zero_le _) (by rw [hX]; exact Nat.zero_le _) dX8_bestPlace_82 (fun w25 hw25 iw25 => ?_)
              refine g_aload_n h 3 dX8_bestPlace_85 rfl ?_
              refine g_iload_n h 4 dX8_bestPlace_86 rfl ?_
              refine g_iload h 0 dX8_bestPlace_87 rfl ?_
              refine g_iconst (v := 0) h dX8_bestPlace_89 (by decide) ?_
              refine g_iload_n h 5 dX8_bestPlace_90 rfl ?_
              refine g_iload_n h 6 dX8_bestPlace_91 rfl ?_
              refine k_V_v (st := []) h hX (tX8_make (xl X) G F w25 iw25 l (nI j11) 0 g s (by clear ih17 iw25; replace hv1 := hv1.symm; replace hv3 := hv3.symm; replace hv5 := hv5.symm; replace hv7 := hv7.symm; replace hv9 := hv9.symm; replace hv20 := hv20.symm; replace hw25 := hw25.symm; subst hw25 hv20 hv9 hv7 hv5 hv3 hv1; exact mbp_6 hW c10)) rfl ⟨kd_lt rfl, ob_21 rfl⟩ rfl miX8_make tw_797 (by decide) (by decide) rfl (Nat.le_of_ble_eq_true rfl) (by rw [hX]; exact Nat.zero_le _) (by rw [hX]; exact Nat.zero_le _) dX8_bestPlace_92 (fun w26 hw26 iw26 => ?_)
              refine g_aload_n h 3 dX8_bestPlace_95 rfl ?_
              refine g_bipush (v := 100) h dX8_bestPlace_96 (by decide) ?_
              refine k_V_v (st := []) h hX (tX8_passAll (xl X) G F w26 iw26 100 (by clear ih17 iw25 iw26; replace hv1 := hv1.symm; replace hv3 := hv3.symm; replace hv5 := hv5.symm; replace hv7 := hv7.symm; replace hv9 := hv9.symm; replace hv20 := hv20.symm; replace hw25 := hw25.symm; replace hw26 := hw26.symm; subst hw26 hw25 hv20 hv9 hv7 hv5 hv3 hv1; exact mbpM_W hW c10 (isL_rg hW c2) (Nat.lt_of_lt_of_le hlt24 (tn_le (n := 32) (hW.L (isL_rg hW c2)) rfl))) (by decide)) rfl ⟨kd_lt rfl, ob_21 rfl⟩ rfl miX8_passAll tw_872 (by decide) (by decide) rfl (Nat.le_of_ble_eq_true rfl) (by rw [hX]; exact Nat.zero_le _) (by rw [hX]; exact Nat.zero_le _) dX8_bestPlace_98 (fun w27 hw27 iw27 => ?_)
              refine g_aload_n h 3 dX8_bestPlace_101 rfl ?_
              refine g_iconst (v := 0) h dX8_bestPlace_102 (by decide) ?_
              refine k_V_i (st := []) h hX (tX8_sum (xl X) G F w27 iw27 0 (by clear ih17 iw25 iw26 iw27; replace hv1 := hv1.symm; replace hv3 := hv3.symm; replace hv5 := hv5.symm; replace hv7 := hv7.symm; replace hv9 := hv9.symm; replace hv20 := hv20.symm; replace hw25 := hw25.symm; replace hw26 := hw26.symm; replace hw27 := hw27.symm; subst hw27 hw26 hw25 hv20 hv9 hv7 hv5 hv3 hv1; exact (pN_K (mbpM_W hW c10 (isL_rg hW c2) (Nat.lt_of_lt_of_le hlt24 (tn_le (n := 32) (hW.L (isL_rg hW c2)) rfl))) _).2) (by decide)) rfl ⟨kd_lt rfl, ob_21 rfl⟩ rfl miX8_sum tw_968 (by decide) (by decide) rfl (Nat.le_of_ble_eq_true rfl) (by rw [hX]; exact Nat.zero_le _) (by rw [hX]; exact Nat.zero_le _) dX8_bestPlace_103 (fun v28 hv28 => ?_)
              refine g_istore (loc2 := [(8, .int v28), (7, .int (nI j11)), (6, .int ((m_bp l g s ω j11).2.1)), (5, .int ((m_bp l g s ω j11).1)), (0, .ref (F + 647)), (1, .int l), (2, .int g), (3, .int s), (4, .int wh)]) h dX8_bestPlace_106 (by decide) rfl ?_
              refine g_aload_n h 4 dX8_bestPlace_108 rfl ?_
              refine k_V_v (st := []) h hX (tX8_layBack (xl X) G F w27 iw27) rfl ⟨kd_lt rfl, ob_21 rfl⟩ rfl miX8_layBack tw_980 (by decide) (by decide) rfl (Nat.le_of_ble_eq_true rfl) (by rw [hX]; exact Nat.zero_le _) (by rw [hX]; exact Nat.zero_le _) dX8_bestPlace_109 (fun w29 hw29 iw29 => ?_)
              refine g_iload h 3 dX8_bestPlace_112 rfl ?_
              have hm132_37 : ∀ m35 : Int32, m35 = (if ((m_bp l g s ω j11).1) < 0 then v28 else (if v28 ≤ ((m_bp l g s ω j11).2.1) then (m_bp l g s ω j11).2.1 else v28)) → ∀ m36 : Int32, m36 = (if ((m_bp l g s ω j11).1) < 0 then nI j11 else (if v28 ≤ ((m_bp l g s ω j11).2.1) then (m_bp l g s ω j11).1 else nI j11)) → Vg X (MQ (xb X) (fQ G F (fP F G (some (.int ((m_best ω l g s wh).1))) ((m_best ω l g s wh).2))) (xa X) (xs X) 0 0 (fA F)) G F 9 NC (cel F G w29) 0 0 132 [(6, .int m35), (5, .int m36), (8, .int v28), (7, .int (nI j11)), (0, .ref (F + 647)), (1, .int l), (2, .int g), (3, .int s), (4, .int wh)] [] := by
                intro m35 hm35 m36 hm36
                obtain ⟨v38, hv38⟩ : ∃ z : Int32, z = (nI j11) + 1 := ⟨_, rfl⟩
                refine g_iinc (v := v38) (loc2 := [(7, .int v38), (6, .int m35), (5, .int m36), (8, .int v28), (0, .ref (F + 647)), (1, .int l), (2, .int g), (3, .int s), (4, .int wh)]) h 3 dX8_bestPlace_132 rfl (by rw [hv38]; rfl) (by decide) rfl ?_
                refine g_goto (tgt := 70) h dX8_bestPlace_135 (by decide) ?_
                refine g_loc [0, 1, 2, 4, 5, 6, 7, 8] rfl ?_
                have e39 : v38 = nI (j11 + 1) := by clear ih17 iw25 iw26 iw27 iw29; replace hv1 := hv1.symm; replace hv3 := hv3.symm; replace hv5 := hv5.symm; replace hv7 := hv7.symm; replace hv9 := hv9.symm; replace hv20 := hv20.symm; replace hw25 := hw25.symm; replace hw26 := hw26.symm; replace hw27 := hw27.symm; replace hv28 := hv28.symm; replace hw29 := hw29.symm; replace hm35 := hm35.symm; replace hm36 := hm36.symm; replace hv38 := hv38.symm; subst hv38 hm36 hm35 hw29 hv28 hw27 hw26 hw25 hv20 hv9 hv7 hv5 hv3 hv1; first | rfl | exact nI_1 _ | (rw [nI_succ])
                have e40 : m35 = (m_bp l g s ω (j11 + 1)).2.1 := by clear ih17 iw25 iw26 iw27 iw29; replace hv1 := hv1.symm; replace hv3 := hv3.symm; replace hv5 := hv5.symm; replace hv7 := hv7.symm; replace hv9 := hv9.symm; replace hv20 := hv20.symm; replace hw25 := hw25.symm; replace hw26 := hw26.symm; replace hw27 := hw27.symm; replace hv28 := hv28.symm; replace hw29 := hw29.symm; replace hm35 := hm35.symm; replace hm36 := hm36.symm; replace hv38 := hv38.symm; subst hv38 hm36 hm35 hw29 hv28 hw27 hw26 hw25 hv20 hv9 hv7 hv5 hv3 hv1; rfl
                have e41 : m36 = (m_bp l g s ω (j11 + 1)).1 := by clear ih17 iw25 iw26 iw27 iw29; replace hv1 := hv1.symm; replace hv3 := hv3.symm; replace hv5 := hv5.symm; replace hv7 := hv7.symm; replace hv9 := hv9.symm; replace hv20 := hv20.symm; replace hw25 := hw25.symm; replace hw26 := hw26.symm; replace hw27 := hw27.symm; replace hv28 := hv28.symm; replace hw29 := hw29.symm; replace hm35 := hm35.symm; replace hm36 := hm36.symm; replace hv38 := hv38.symm; subst hv38 hm36 hm35 hw29 hv28 hw27 hw26 hw25 hv20 hv9 hv7 hv5 hv3 hv1; rfl
                have e42 : w29 = (m_bp l g s ω (j11 + 1)).2.2 := by clear ih17 iw25 iw26 iw27 iw29; replace hv1 := hv1.symm; replace hv3 := hv3.symm; replace hv5 := hv5.symm; replace hv7 := hv7.symm; replace hv9 := hv9.symm; replace hv20 := hv20.symm; replace hw25 := hw25.symm; replace hw26 := hw26.symm; replace hw27 := hw27.symm; replace hv28 := hv28.symm; replace hw29 := hw29.symm; replace hm35 := hm35.symm; replace hm36 := hm36.symm; replace hv38 := hv38.symm; subst hv38 hm36 hm35 hw29 hv28 hw27 hw26 hw25 hv20 hv9 hv7 hv5 hv3 hv1; rfl
                exact g_lt e42 (lc_i e39 (lc_i e40 (lc_i e41 rfl))) rfl (ih17 hlt24 (e42 ▸ iw29))
              refine g_if_lt (tgt := 124) h dX8_bestPlace_114 (by decide) (fun c30 => ?_) (fun c30 => ?_)
              · refine g_iload h 1 dX8_bestPlace_124 rfl ?_
                refine g_istore (loc2 := [(5, .int (nI j11)), (8, .int v28), (7, .int (nI j11)), (6, .int ((m_bp l g s ω j11).2.1)), (0, .ref (F + 647)), (1, .int l), (2, .int g), (3, .int s), (4, .int wh)]) h dX8_bestPlace_126 (by decide) rfl ?_
                refine g_iload h 1 dX8_bestPlace_128 rfl ?_
                refine g_istore (loc2 := [(6, .int v28), (5, .int (nI j11)), (8, .int v28), (7, .int (nI j11)), (0, .ref (F + 647)), (1, .int l), (2, .int g), (3, .int s), (4, .int wh)]) h dX8_bestPlace_130 (by decide) rfl ?_
                exact hm132_37 _ (by clear ih17 iw25 iw26 iw27 iw29; replace hv1 := hv1.symm; replace hv3 := hv3.symm; replace hv5 := hv5.symm; replace hv7 := hv7.symm; replace hv9 := hv9.symm; replace hv20 := hv20.symm; replace hw25 := hw25.symm; replace hw26 := hw26.symm; replace hw27 := hw27.symm; replace hv28 := hv28.symm; replace hw29 := hw29.symm; subst hw29 hv28 hw27 hw26 hw25 hv20 hv9 hv7 hv5 hv3 hv1; rw [if_pos c30]) _ (by clear ih17 iw25 iw26 iw27 iw29; replace hv1 := hv1.symm; replace hv3 := hv3.symm; replace hv5 := hv5.symm; replace hv7 := hv7.symm; replace hv9 := hv9.symm; replace hv20 := hv20.symm; replace hw25 := hw25.symm; replace hw26 := hw26.symm; replace hw27 := hw27.symm; replace hv28 := hv28.symm; replace hw29 := hw29.symm; subst hw29 hv28 hw27 hw26 hw25 hv20 hv9 hv7 hv5 hv3 hv1; rw [if_pos c30])
              · refine g_iload h 0 dX8_bestPlace_117 rfl ?_
                refine g_iload h 2 dX8_bestPlace_119 rfl ?_
                refine g_icmp_le (tgt := 132) h dX8_bestPlace_121 (by decide) (fun c32 => ?_) (fun c32 => ?_)
                · refine g_loc [2, 3, 0, 1, 4, 5, 6, 7, 8] rfl ?_
                  exact hm132_37 _ (by clear ih17 iw25 iw26 iw27 iw29; replace hv1 := hv1.symm; replace hv3 := hv3.symm; replace hv5 := hv5.symm; replace hv7 := hv7.symm; replace hv9 := hv9.symm; replace hv20 := hv20.symm; replace hw25 := hw25.symm; replace hw26 := hw26.symm; replace hw27 := hw27.symm; replace hv28 := hv28.symm; replace hw29 := hw29.symm; subst hw29 hv28 hw27 hw26 hw25 hv20 hv9 hv7 hv5 hv3 hv1; rw [if_neg c30, if_pos c32]) _ (by clear ih17 iw25 iw26 iw27 iw29; replace hv1 := hv1.symm; replace hv3 := hv3.symm; replace hv5 := hv5.symm; replace hv7 := hv7.symm; replace hv9 := hv9.symm; replace hv20 := hv20.symm; replace hw25 := hw25.symm; replace hw26 := hw26.symm; replace hw27 := hw27.symm; replace hv28 := hv28.symm; replace hw29 := hw29.symm; subst hw29 hv28 hw27 hw26 hw25 hv20 hv9 hv7 hv5 hv3 hv1; rw [if_neg c30, if_pos c32])
                · refine g_iload h 1 dX8_bestPlace_124 rfl ?_
                  refine g_istore (loc2 := [(5, .int (nI j11)), (8, .int v28), (7, .int (nI j11)), (6, .int ((m_bp l g s ω j11).2.1)), (0, .ref (F + 647)), (1, .int l), (2, .int g), (3, .int s), (4, .int wh)]) h dX8_bestPlace_126 (by decide) rfl ?_
                  refine g_iload h 1 dX8_bestPlace_128 rfl ?_
                  refine g_istore (loc2 := [(6, .int v28), (5, .int (nI j11)), (8, .int v28), (7, .int (nI j11)), (0, .ref (F + 647)), (1, .int l), (2, .int g), (3, .int s), (4, .int wh)]) h dX8_bestPlace_130 (by decide) rfl ?_
                  exact hm132_37 _ (by clear ih17 iw25 iw26 iw27 iw29; replace hv1 := hv1.symm; replace hv3 := hv3.symm; replace hv5 := hv5.symm; replace hv7 := hv7.symm; replace hv9 := hv9.symm; replace hv20 := hv20.symm; replace hw25 := hw25.symm; replace hw26 := hw26.symm; replace hw27 := hw27.symm; replace hv28 := hv28.symm; replace hw29 := hw29.symm; subst hw29 hv28 hw27 hw26 hw25 hv20 hv9 hv7 hv5 hv3 hv1; rw [if_neg c30, if_neg c32]) _ (by clear ih17 iw25 iw26 iw27 iw29; replace hv1 := hv1.symm; replace hv3 := hv3.symm; replace hv5 := hv5.symm; replace hv7 := hv7.symm; replace hv9 := hv9.symm; replace hv20 := hv20.symm; replace hw25 := hw25.symm; replace hw26 := hw26.symm; replace hw27 := hw27.symm; replace hv28 := hv28.symm; replace hw29 := hw29.symm; subst hw29 hv28 hw27 hw26 hw25 hv20 hv9 hv7 hv5 hv3 hv1; rw [if_neg c30, if_neg c32])
          · refine g_bipush (v := (-4)) h dX8_bestPlace_57 (by decide) ?_
            exact e_iret h hI dX8_bestPlace_59 (by replace hv1 := hv1.symm; replace hv3 := hv3.symm; replace hv5 := hv5.symm; replace hv7 := hv7.symm; replace hv9 := hv9.symm; subst hv9 hv7 hv5 hv3 hv1; unfold m_best; first | (simp only [if_neg c2, if_neg c4, if_neg c6, if_neg c8, if_pos c10]; done) | (simp only [if_neg c2, if_neg c4, if_neg c6, if_neg c8, if_pos c10]; rfl)) (by replace hv1 := hv1.symm; replace hv3 := hv3.symm; replace hv5 := hv5.symm; replace hv7 := hv7.symm; replace hv9 := hv9.symm; subst hv9 hv7 hv5 hv3 hv1; unfold m_best; first | (simp only [if_neg c2, if_neg c4, if_neg c6, if_neg c8, if_pos c10]; done) | (simp only [if_neg c2, if_neg c4, if_neg c6, if_neg c8, if_pos c10]; rfl))
        · refine g_bipush (v := (-2)) h dX8_bestPlace_42 (by decide) ?_
          exact e_iret h hI dX8_bestPlace_44 (by replace hv1 := hv1.symm; replace hv3 := hv3.symm; replace hv5 := hv5.symm; replace hv7 := hv7.symm; subst hv7 hv5 hv3 hv1; unfold m_best; first | (simp only [if_neg c2, if_neg c4, if_neg c6, if_pos c8]; done) | (simp only [if_neg c2, if_neg c4, if_neg c6, if_pos c8]; rfl)) (by replace hv1 := hv1.symm; replace hv3 := hv3.symm; replace hv5 := hv5.symm; replace hv7 := hv7.symm; subst hv7 hv5 hv3 hv1; unfold m_best; first | (simp only [if_neg c2, if_neg c4, if_neg c6, if_pos c8]; done) | (simp only [if_neg c2, if_neg c4, if_neg c6, if_pos c8]; rfl))
  · refine g_iconst (v := (-1)) h dX8_bestPlace_8 (by decide) ?_
    exact e_iret h hI dX8_bestPlace_9 (by replace hv1 := hv1.symm; subst hv1; unfold m_best; first | (simp only [if_pos c2]; done) | (simp only [if_pos c2]; rfl)) (by replace hv1 := hv1.symm; subst hv1; unfold m_best; first | (simp only [if_pos c2]; done) | (simp only [if_pos c2]; rfl))
set_option maxHeartbeats 4000000 in
set_option maxRecDepth 100000 in
theorem tX8_bearable (l0 : Launch) (G : fG) (F : Nat) (ω : fOm) (hI : Inv ω) (hW : MW (ω 648)) : CT l0 G F yX8_bearable cX8_bearable 4 (some .int) 6 [.ref (F + 647)] ω (some (.int ((m_bear ω).1))) ((m_bear ω).2) := by
  refine ct_met (own := RX8) (by decide +kernel) rfl (Nat.le_of_ble_eq_true rfl) (fun X hXl hX h => ?_)
  subst hXl
  refine g_aload_n h 0 dX8_bearable_0 rfl ?_
  refine q_8_at h rfl tw_708 dX8_bearable_1 ?_
  refine g_iconst (v := 0) h dX8_bearable_4 (by decide) ?_
  refine g_ia (q := 22) h rfl rfl (by decide) (vp_n (j := 0) (Nat.le_of_ble_eq_true rfl) (Nat.le_of_ble_eq_true rfl)) dX8_bearable_5 (fun v1 hv1 => ?_)
  replace hv1 : v1 = ω 648 0 := hv1
  refine g_istore_n (loc2 := [(1, .int v1), (0, .ref (F + 647))]) h dX8_bearable_6 (by decide) rfl ?_
  refine g_bipush (v := (-6)) h dX8_bearable_7 (by decide) ?_
  refine g_istore_n (loc2 := [(2, .int (-6)), (1, .int v1), (0, .ref (F + 647))]) h dX8_bearable_9 (by decide) rfl ?_
  refine g_bipush (v := 50) h dX8_bearable_10 (by decide) ?_
  refine g_istore_n (loc2 := [(3, .int 50), (2, .int (-6)), (1, .int v1), (0, .ref (F + 647))]) h dX8_bearable_12 (by decide) rfl ?_
  have e3 : 50 = 50 - nI 0 := by decide
  have e4 : (-6) = m_beV ω 0 := rfl
  have e5 : ω = m_beI ω 0 := rfl
  refine g_lt (ω2 := m_beI ω 0) (loc2 := [(3, .int (50 - nI 0)), (2, .int (m_beV ω 0)), (1, .int v1), (0, .ref (F + 647))]) e5 (lc_i e3 (lc_i e4 rfl)) rfl ?_
  refine g_loop3 (hd := 13) (51) (fun j2 => Inv (m_beI ω j2) ∧ m_beN ω = m_beF ω (51 - j2) j2) (fun j2 => [(3, .int (50 - nI j2)), (2, .int (m_beV ω j2)), (1, .int v1), (0, .ref (F + 647))]) (fun j2 => cel F G (m_beI ω j2)) ⟨(e5 ▸ hI), rfl⟩ (fun j2 hj8 hP6 ih7 => ?_)
  (try dsimp only)
  obtain ⟨iv9, hP1⟩ := hP6
  refine g_iload_n h 0 dX8_bearable_13 rfl ?_
  refine g_if_lt (tgt := 52) h dX8_bearable_14 (by decide) (fun c10 => ?_) (fun c10 => ?_)
  · have hN11 : j2 = 51 := by clear ih7; replace hv1 := hv1.symm; subst hv1; exact sb_ge _ hj8 c10
    refine g_aload_n h 3 dX8_bearable_52 rfl ?_
    refine q_8_at h rfl tw_708 dX8_bearable_53 ?_
    refine g_iconst (v := 0) h dX8_bearable_56 (by decide) ?_
    refine g_iload_n h 2 dX8_bearable_57 rfl ?_
    refine g_is (q := 22) h iv9 rfl rfl (by decide) (vp_n (j := 0) (Nat.le_of_ble_eq_true rfl) (Nat.le_of_ble_eq_true rfl)) dX8_bearable_58 (fun w12 hw12 iw12 => ?_)
    replace hw12 : w12 = wu (m_beI ω j2) 648 0 v1 := hw12
    refine g_iload_n h 1 dX8_bearable_59 rfl ?_
    exact e_iret h iw12 dX8_bearable_60 (by clear ih7 iw12; replace hv1 := hv1.symm; replace hw12 := hw12.symm; subst hw12 hv1; unfold m_bear; rw [mbe_a hP1 hN11]) (by clear ih7 iw12; replace hv1 := hv1.symm; replace hw12 := hw12.symm; subst hw12 hv1; unfold m_bear; rw [mbe_a hP1 hN11])
  · have hlt13 : j2 < 51 := by clear ih7; replace hv1 := hv1.symm; subst hv1; exact sb_lt _ hj8 c10
    refine g_iload_n h 1 dX8_bearable_17 rfl ?_
    refine g_if_ge (tgt := 52) h dX8_bearable_18 (by decide) (fun c14 => ?_) (fun c14 => ?_)
    · refine g_aload_n h 3 dX8_bearable_52 rfl ?_
      refine q_8_at h rfl tw_708 dX8_bearable_53 ?_
      refine g_iconst (v := 0) h dX8_bearable_56 (by decide) ?_
      refine g_iload_n h 2 dX8_bearable_57 rfl ?_
      refine g_is (q := 22) h iv9 rfl rfl (by decide) (vp_n (j := 0) (Nat.le_of_ble_eq_true rfl) (Nat.le_of_ble_eq_true rfl)) dX8_bearable_58 (fun w15 hw15 iw15 => ?_)
      replace hw15 : w15 = wu (m_beI ω j2) 648 0 v1 := hw15
      refine g_iload_n h 1 dX8_bearable_59 rfl ?_
      exact e_iret h iw15 dX8_bearable_60 (by clear ih7 iw15; replace hv1 := hv1.symm; replace hw15 := hw15.symm; subst hw15 hv1; unfold m_bear; rw [mbe_b hP1 hlt13 c14]) (by clear ih7 iw15; replace hv1 := hv1.symm; replace hw15 := hw15.symm; subst hw15 hv1; unfold m_bear; rw [mbe_b hP1 hlt13 c14])
    · refine g_aload_n h 3 dX8_bearable_21 rfl ?_
      refine q_8_at h rfl tw_708 dX8_bearable_22 ?_
      refine g_iconst (v := 0) h dX8_bearable_25 (by decide) ?_
      refine g_iload_n h 0 dX8_bearable_26 rfl ?_
      refine g_is (q := 22) h iv9 rfl rfl (by decide) (vp_n (j := 0) (Nat.le_of_ble_eq_true rfl) (Nat.le_of_ble_eq_true rfl)) dX8_bearable_27 (fun w16 hw16 iw16 => ?_)
      replace hw16 : w16 = wu (m_beI ω j2) 648 0 (50 - nI j2) := hw16
      refine g_aload_n h 3 dX8_bearable_28 rfl ?_
      refine g_bipush (v := 100) h dX8_bearable_29 (by decide) ?_
      refine k_V_j (st := []) h hX (tX8_lossWithin (xl X) G F w16 iw16 100 (by clear ih7 iw16; replace hv1 := hv1.symm; replace hw16 := hw16.symm; subst hw16 hv1; exact be0_W hW) (by decide)) rfl ⟨kd_lt rfl, ob_21 rfl⟩ rfl miX8_lossWithin tw_992 (by decide) (by decide) rfl (Nat.le_of_ble_eq_true rfl) (by rw [hX]; exact Nat.zero_le _) (by rw [hX]; exact Nat.zero_le _) dX8_bearable_31 (fun v17 w18 hv17 hw18 iw18 => ?_)
      refine g_bipush (v := 100) h dX8_bearable_34 (by decide) ?_
      have hm45_23 : ∀ m22 : Int32, m22 = (if v17 ≤ 100 then (-6) else 50 - nI j2) → Vg X (MQ (xb X) (fQ G F (fP F G (some (.int ((m_bear ω).1))) ((m_bear ω).2))) (xa X) (xs X) 0 0 (fA F)) G F 4 NC (cel F G w18) 0 0 45 [(3, .int (50 - nI j2)), (2, .int (m_beV ω j2)), (1, .int v1), (0, .ref (F + 647))] [.int m22] := by
        intro m22 hm22
        refine g_istore_n (loc2 := [(2, .int m22), (3, .int (50 - nI j2)), (1, .int v1), (0, .ref (F + 647))]) h dX8_bearable_45 (by decide) rfl ?_
        obtain ⟨v24, hv24⟩ : ∃ z : Int32, z = (50 - nI j2) + (-1) := ⟨_, rfl⟩
        refine g_iinc (v := v24) (loc2 := [(3, .int v24), (2, .int m22), (1, .int v1), (0, .ref (F + 647))]) h 1 dX8_bearable_46 rfl (by rw [hv24]; rfl) (by decide) rfl ?_
        refine g_goto (tgt := 13) h dX8_bearable_49 (by decide) ?_
        have e25 : v24 = 50 - nI (j2 + 1) := by clear ih7 iw16 iw18; replace hv1 := hv1.symm; replace hw16 := hw16.symm; replace hv17 := hv17.symm; replace hw18 := hw18.symm; replace hm22 := hm22.symm; replace hv24 := hv24.symm; subst hv24 hm22 hw18 hv17 hw16 hv1; exact sb_n _ hlt13
        have e26 : m22 = m_beV ω (j2 + 1) := by clear ih7 iw16 iw18; replace hv1 := hv1.symm; replace hw16 := hw16.symm; replace hv17 := hv17.symm; replace hw18 := hw18.symm; replace hm22 := hm22.symm; replace hv24 := hv24.symm; subst hv24 hm22 hw18 hv17 hw16 hv1; rfl
        have e27 : w18 = m_beI ω (j2 + 1) := by clear ih7 iw16 iw18; replace hv1 := hv1.symm; replace hw16 := hw16.symm; replace hv17 := hv17.symm; replace hw18 := hw18.symm; replace hm22 := hm22.symm; replace hv24 := hv24.symm; subst hv24 hm22 hw18 hv17 hw16 hv1; rfl
        exact g_lt e27 (lc_i e25 (lc_i e26 rfl)) rfl (ih7 hlt13 ⟨(e27 ▸ iw18), (by clear ih7 iw16 iw18; replace hv1 := hv1.symm; replace hw16 := hw16.symm; replace hv17 := hv17.symm; replace hw18 := hw18.symm; replace hm22 := hm22.symm; replace hv24 := hv24.symm; subst hv24 hm22 hw18 hv17 hw16 hv1; exact mbe_c hP1 hlt13 c14)⟩)
      refine g_icmp_le (tgt := 43) h dX8_bearable_36 (by decide) (fun c19 => ?_) (fun c19 => ?_)
      · refine g_bipush (v := (-6)) h dX8_bearable_43 (by decide) ?_
        exact hm45_23 _ (by clear ih7 iw16 iw18; replace hv1 := hv1.symm; replace hw16 := hw16.symm; replace hv17 := hv17.symm; replace hw18 := hw18.symm; subst hw18 hv17 hw16 hv1; rw [if_pos c19])
      · refine g_iload_n h 0 dX8_bearable_39 rfl ?_
        refine g_goto (tgt := 45) h dX8_bearable_40 (by decide) ?_
        exact hm45_23 _ (by clear ih7 iw16 iw18; replace hv1 := hv1.symm; replace hw16 := hw16.symm; replace hv17 := hv17.symm; replace hw18 := hw18.symm; subst hw18 hv17 hw16 hv1; rw [if_neg c19])
set_option maxHeartbeats 4000000 in
set_option maxRecDepth 100000 in
theorem tX8_wipe (l0 : Launch) (G : fG) (F : Nat) (ω : fOm) (hI : Inv ω) : CT l0 G F yX8_wipe cX8_wipe 2 (some .int) 0 [.ref (F + 647)] ω (some (.int (ω 647 8))) (wu ω 647 8 0) := by
  refine ct_met (own := RX8) (by decide +kernel) rfl (Nat.le_of_ble_eq_true rfl) (fun X hXl hX h => ?_)
  subst hXl
  refine g_aload_n h 0 dX8_wipe_0 rfl ?_
  refine q_8_padMany h rfl tw_716 dX8_wipe_1 (fun v1 hv1 => ?_)
  refine g_istore_n (loc2 := [(1, .int v1), (0, .ref (F + 647))]) h dX8_wipe_4 (by decide) rfl ?_
  refine g_aload_n h 1 dX8_wipe_5 rfl ?_
  refine g_iconst (v := 0) h dX8_wipe_6 (by decide) ?_
  refine p_8_padMany h hI rfl tw_716 dX8_wipe_7 (fun w2 hw2 iw2 => ?_)
  refine g_iload_n h 0 dX8_wipe_10 rfl ?_
  exact e_iret h iw2 dX8_wipe_11 (by clear iw2; replace hv1 := hv1.symm; replace hw2 := hw2.symm; subst hw2 hv1; first | rfl | contradiction) (by clear iw2; replace hv1 := hv1.symm; replace hw2 := hw2.symm; subst hw2 hv1; first | rfl | contradiction)
set_option maxHeartbeats 4000000 in
set_option maxRecDepth 100000 in
theorem tX8_undo (l0 : Launch) (G : fG) (F : Nat) (ω : fOm) (hI : Inv ω) (hK : MK ω) : CT l0 G F yX8_undo cX8_undo 3 (some .int) 0 [.ref (F + 647)] ω (some (.int ((m_undo ω).1))) ((m_undo ω).2) := by
  refine ct_met (own := RX8) (by decide +kernel) rfl (Nat.le_of_ble_eq_true rfl) (fun X hXl hX h => ?_)
  subst hXl
  refine g_aload_n h 0 dX8_undo_0 rfl ?_
  refine q_8_pastMany h rfl tw_711 dX8_undo_1 (fun v1 hv1 => ?_)
  refine g_if_ne (tgt := 10) h dX8_undo_4 (by decide) (fun c2 => ?_) (fun c2 => ?_)
  · refine g_aload_n h 0 dX8_undo_10 rfl ?_
    refine g_dup h dX8_undo_11 rfl ?_
    refine q_8_pastMany h rfl tw_711 dX8_undo_12 (fun v3 hv3 => ?_)
    refine g_iconst (v := 1) h dX8_undo_15 (by decide) ?_
    refine g_isub h dX8_undo_16 (g_name fun v4 hv4 => ?_)
    refine p_8_pastMany h hI rfl tw_711 dX8_undo_17 (fun w5 hw5 iw5 => ?_)
    refine g_aload_n h 0 dX8_undo_20 rfl ?_
    refine q_8_pastFirst h rfl tw_710 dX8_undo_21 (fun v6 hv6 => ?_)
    refine g_aload_n h 0 dX8_undo_24 rfl ?_
    refine q_8_pastMany h rfl tw_711 dX8_undo_25 (fun v7 hv7 => ?_)
    refine g_iadd h dX8_undo_28 (g_name fun v8 hv8 => ?_)
    refine g_bipush (v := 6) h dX8_undo_29 (by decide) ?_
    refine g_irem h dX8_undo_31 (by decide) (g_name fun v9 hv9 => ?_)
    refine g_istore_n (loc2 := [(1, .int v9), (0, .ref (F + 647))]) h dX8_undo_32 (by decide) rfl ?_
    refine g_iconst (v := 0) h dX8_undo_33 (by decide) ?_
    refine g_istore_n (loc2 := [(2, .int 0), (1, .int v9), (0, .ref (F + 647))]) h dX8_undo_34 (by decide) rfl ?_
    have e11 : 0 = nI 0 := by clear iw5; replace hv1 := hv1.symm; replace hv3 := hv3.symm; replace hv4 := hv4.symm; replace hw5 := hw5.symm; replace hv6 := hv6.symm; replace hv7 := hv7.symm; replace hv8 := hv8.symm; replace hv9 := hv9.symm; subst hv9 hv8 hv7 hv6 hw5 hv4 hv3 hv1; first | rfl | exact nI_0.symm | exact nI_0 | decide
    have e12 : w5 = m_unL v9 w5 0 := rfl
    refine g_lt (ω2 := m_unL v9 w5 0) (loc2 := [(2, .int (nI 0)), (1, .int v9), (0, .ref (F + 647))]) e12 (lc_i e11 rfl) rfl ?_
    refine g_loop3 (hd := 35) (770) (fun j10 => Inv (m_unL v9 w5 j10)) (fun j10 => [(2, .int (nI j10)), (1, .int v9), (0, .ref (F + 647))]) (fun j10 => cel F G (m_unL v9 w5 j10)) (e12 ▸ iw5) (fun j10 hj15 hP13 ih14 => ?_)
    (try dsimp only)
    have iv16 := hP13
    refine g_iload_n h 0 dX8_undo_35 rfl ?_
    refine g_sipush (v := 770) h dX8_undo_36 (by decide) ?_
    refine g_icmp_ge (tgt := 66) h dX8_undo_39 (by decide) (fun c17 => ?_) (fun c17 => ?_)
    · have hN18 : j10 = 770 := lpc_ge (x := 770) (M := 770) rfl (by decide) c17 hj15
      refine g_aload_n h 2 dX8_undo_66 rfl ?_
      refine q_8_pastMany h rfl tw_711 dX8_undo_67 (fun v19 hv19 => ?_)
      exact e_iret h iv16 dX8_undo_70 (by clear iw5 ih14; replace hv1 := hv1.symm; replace hv3 := hv3.symm; replace hv4 := hv4.symm; replace hw5 := hw5.symm; replace hv6 := hv6.symm; replace hv7 := hv7.symm; replace hv8 := hv8.symm; replace hv9 := hv9.symm; replace hv19 := hv19.symm; subst hv19 hv9 hv8 hv7 hv6 hw5 hv4 hv3 hv1; rw [hN18]; unfold m_undo; first | (simp only [if_neg c2, if_pos c17]; done) | (simp only [if_neg c2, if_pos c17]; rfl)) (by clear iw5 ih14; replace hv1 := hv1.symm; replace hv3 := hv3.symm; replace hv4 := hv4.symm; replace hw5 := hw5.symm; replace hv6 := hv6.symm; replace hv7 := hv7.symm; replace hv8 := hv8.symm; replace hv9 := hv9.symm; replace hv19 := hv19.symm; subst hv19 hv9 hv8 hv7 hv6 hw5 hv4 hv3 hv1; rw [hN18]; unfold m_undo; first | (simp only [if_neg c2, if_pos c17]; done) | (simp only [if_neg c2, if_pos c17]; rfl))
    · have hlt20 : j10 < 770 := lpc_lt (x := 770) (M := 770) rfl (by decide) c17 hj15
      refine g_aload_n h 2 dX8_undo_42 rfl ?_
      refine q_8_at h rfl tw_708 dX8_undo_43 ?_
      refine g_iload_n h 0 dX8_undo_46 rfl ?_
      refine g_aload_n h 2 dX8_undo_47 rfl ?_
      refine q_8_past h rfl tw_709 dX8_undo_48 ?_
      refine g_sipush (v := 770) h dX8_undo_51 (by decide) ?_
      refine g_iload_n h 1 dX8_undo_54 rfl ?_
      refine g_imul h dX8_undo_55 (g_name fun v21 hv21 => ?_)
      refine g_iload_n h 0 dX8_undo_56 rfl ?_
      refine g_iadd h dX8_undo_57 (g_name fun v22 hv22 => ?_)
      refine g_ia (q := 23) h rfl rfl (by decide) (by clear iw5 ih14; replace hv1 := hv1.symm; replace hv3 := hv3.symm; replace hv4 := hv4.symm; replace hw5 := hw5.symm; replace hv6 := hv6.symm; replace hv7 := hv7.symm; replace hv8 := hv8.symm; replace hv9 := hv9.symm; replace hv21 := hv21.symm; replace hv22 := hv22.symm; subst hv22 hv21 hv9 hv8 hv7 hv6 hw5 hv4 hv3 hv1; exact ixP (un_rg hK c2) hlt20) dX8_undo_58 (fun v23 hv23 => ?_)
      refine g_is (q := 22) h iv16 rfl rfl (by decide) (vp_n hlt20 (by decide)) dX8_undo_59 (fun w24 hw24 iw24 => ?_)
      obtain ⟨v25, hv25⟩ : ∃ z : Int32, z = (nI j10) + 1 := ⟨_, rfl⟩
      refine g_iinc (v := v25) (loc2 := [(2, .int v25), (1, .int v9), (0, .ref (F + 647))]) h 0 dX8_undo_60 rfl (by rw [hv25]; rfl) (by decide) rfl ?_
      refine g_goto (tgt := 35) h dX8_undo_63 (by decide) ?_
      have e26 : v25 = nI (j10 + 1) := by clear iw5 ih14 iw24; replace hv1 := hv1.symm; replace hv3 := hv3.symm; replace hv4 := hv4.symm; replace hw5 := hw5.symm; replace hv6 := hv6.symm; replace hv7 := hv7.symm; replace hv8 := hv8.symm; replace hv9 := hv9.symm; replace hv21 := hv21.symm; replace hv22 := hv22.symm; replace hv23 := hv23.symm; replace hw24 := hw24.symm; replace hv25 := hv25.symm; subst hv25 hw24 hv23 hv22 hv21 hv9 hv8 hv7 hv6 hw5 hv4 hv3 hv1; first | rfl | exact nI_1 _ | (rw [nI_succ])
      have e27 : w24 = m_unL v9 w5 (j10 + 1) := by clear iw5 ih14 iw24; replace hv1 := hv1.symm; replace hv3 := hv3.symm; replace hv4 := hv4.symm; replace hw5 := hw5.symm; replace hv6 := hv6.symm; replace hv7 := hv7.symm; replace hv8 := hv8.symm; replace hv9 := hv9.symm; replace hv21 := hv21.symm; replace hv22 := hv22.symm; replace hv23 := hv23.symm; replace hw24 := hw24.symm; replace hv25 := hv25.symm; subst hv25 hw24 hv23 hv22 hv21 hv9 hv8 hv7 hv6 hw5 hv4 hv3 hv1; rw [nI_clamp (Nat.lt_trans hlt20 (by decide))]; rfl
      exact g_lt e27 (lc_i e26 rfl) rfl (ih14 hlt20 (e27 ▸ iw24))
  · refine g_bipush (v := (-5)) h dX8_undo_7 (by decide) ?_
    exact e_iret h hI dX8_undo_9 (by replace hv1 := hv1.symm; subst hv1; unfold m_undo; first | (simp only [if_pos c2]; done) | (simp only [if_pos c2]; rfl)) (by replace hv1 := hv1.symm; subst hv1; unfold m_undo; first | (simp only [if_pos c2]; done) | (simp only [if_pos c2]; rfl))
set_option maxHeartbeats 4000000 in
set_option maxRecDepth 100000 in
theorem tX8_save (l0 : Launch) (G : fG) (F : Nat) (ω : fOm) (hI : Inv ω) (s : Int32) : CT l0 G F yX8_save cX8_save 3 (some .int) 1 [.ref (F + 647), .int s] ω (some (.int ((m_save ω s).1))) ((m_save ω s).2) := by
  refine ct_met (own := RX8) (by decide +kernel) rfl (Nat.le_of_ble_eq_true rfl) (fun X hXl hX h => ?_)
  subst hXl
  refine g_iload_n h 1 dX8_save_0 rfl ?_
  refine g_iconst (v := 0) h dX8_save_1 (by decide) ?_
  refine g_iconst (v := 1) h dX8_save_2 (by decide) ?_
  refine k_S_i (st := []) h hX (tX8_in (xl X) G F ω hI s 0 1) rfl miX8_in tw_761 (by decide) (by decide) rfl (Nat.le_of_ble_eq_true rfl) (by rw [hX]; exact Nat.zero_le _) (by rw [hX]; exact Nat.zero_le _) dX8_save_3 (fun v1 hv1 => ?_)
  refine g_if_ne (tgt := 12) h dX8_save_6 (by decide) (fun c2 => ?_) (fun c2 => ?_)
  · refine g_iconst (v := 0) h dX8_save_12 (by decide) ?_
    refine g_istore_n (loc2 := [(2, .int 0), (0, .ref (F + 647)), (1, .int s)]) h dX8_save_13 (by decide) rfl ?_
    have e4 : 0 = nI 0 := by replace hv1 := hv1.symm; subst hv1; first | rfl | exact nI_0.symm | exact nI_0 | decide
    have e5 : ω = m_saL s ω 0 := rfl
    refine g_lt (ω2 := m_saL s ω 0) (loc2 := [(2, .int (nI 0)), (0, .ref (F + 647)), (1, .int s)]) e5 (lc_i e4 rfl) rfl ?_
    refine g_loop3 (hd := 14) (770) (fun j3 => Inv (m_saL s ω j3)) (fun j3 => [(2, .int (nI j3)), (0, .ref (F + 647)), (1, .int s)]) (fun j3 => cel F G (m_saL s ω j3)) (e5 ▸ hI) (fun j3 hj8 hP6 ih7 => ?_)
    (try dsimp only)
    have iv9 := hP6
    refine g_iload_n h 0 dX8_save_14 rfl ?_
    refine g_sipush (v := 770) h dX8_save_15 (by decide) ?_
    refine g_icmp_ge (tgt := 45) h dX8_save_18 (by decide) (fun c10 => ?_) (fun c10 => ?_)
    · have hN11 : j3 = 770 := lpc_ge (x := 770) (M := 770) rfl (by decide) c10 hj8
      refine g_aload_n h 1 dX8_save_45 rfl ?_
      refine q_8_isSaved h rfl tw_713 dX8_save_46 ?_
      refine g_iload_n h 2 dX8_save_49 rfl ?_
      refine g_iconst (v := 1) h dX8_save_50 (by decide) ?_
      refine g_zs (q := 25) h iv9 rfl (by decide) (by clear ih7; replace hv1 := hv1.symm; subst hv1; exact (btw_2 c2).2) rfl dX8_save_51 (fun w12 hw12 iw12 => ?_)
      refine g_aload_n h 1 dX8_save_52 rfl ?_
      refine q_8_at h rfl tw_708 dX8_save_53 ?_
      refine g_iconst (v := 4) h dX8_save_56 (by decide) ?_
      refine g_ia (q := 22) h rfl rfl (by decide) (vp_n (j := 4) (Nat.le_of_ble_eq_true rfl) (Nat.le_of_ble_eq_true rfl)) dX8_save_57 (fun v13 hv13 => ?_)
      replace hv13 : v13 = w12 648 4 := hv13
      exact e_iret h iw12 dX8_save_58 (by clear ih7 iw12; replace hv1 := hv1.symm; replace hw12 := hw12.symm; replace hv13 := hv13.symm; subst hv13 hw12 hv1; rw [hN11]; unfold m_save; first | (simp only [if_neg c2, if_pos c10]; done) | (simp only [if_neg c2, if_pos c10]; rfl)) (by clear ih7 iw12; replace hv1 := hv1.symm; replace hw12 := hw12.symm; replace hv13 := hv13.symm; subst hv13 hw12 hv1; rw [hN11]; unfold m_save; first | (simp only [if_neg c2, if_pos c10]; done) | (simp only [if_neg c2, if_pos c10]; rfl))
    · have hlt14 : j3 < 770 := lpc_lt (x := 770) (M := 770) rfl (by decide) c10 hj8
      refine g_aload_n h 1 dX8_save_21 rfl ?_
      refine q_8_slots h rfl tw_712 dX8_save_22 ?_
      refine g_sipush (v := 770) h dX8_save_25 (by decide) ?_
      refine g_iload_n h 2 dX8_save_28 rfl ?_
      refine g_imul h dX8_save_29 (g_name fun v15 hv15 => ?_)
      refine g_iload_n h 0 dX8_save_30 rfl ?_
      refine g_iadd h dX8_save_31 (g_name fun v16 hv16 => ?_)
      refine g_aload_n h 1 dX8_save_32 rfl ?_
      refine q_8_at h rfl tw_708 dX8_save_33 ?_
      refine g_iload_n h 0 dX8_save_36 rfl ?_
      refine g_ia (q := 22) h rfl rfl (by decide) (vp_n hlt14 (by decide)) dX8_save_37 (fun v17 hv17 => ?_)
      refine g_is (q := 24) h iv9 rfl rfl (by decide) (by clear ih7; replace hv1 := hv1.symm; replace hv15 := hv15.symm; replace hv16 := hv16.symm; replace hv17 := hv17.symm; subst hv17 hv16 hv15 hv1; exact ixS (btw_2 c2).1 hlt14) dX8_save_38 (fun w18 hw18 iw18 => ?_)
      obtain ⟨v19, hv19⟩ : ∃ z : Int32, z = (nI j3) + 1 := ⟨_, rfl⟩
      refine g_iinc (v := v19) (loc2 := [(2, .int v19), (0, .ref (F + 647)), (1, .int s)]) h 0 dX8_save_39 rfl (by rw [hv19]; rfl) (by decide) rfl ?_
      refine g_goto (tgt := 14) h dX8_save_42 (by decide) ?_
      have e20 : v19 = nI (j3 + 1) := by clear ih7 iw18; replace hv1 := hv1.symm; replace hv15 := hv15.symm; replace hv16 := hv16.symm; replace hv17 := hv17.symm; replace hw18 := hw18.symm; replace hv19 := hv19.symm; subst hv19 hw18 hv17 hv16 hv15 hv1; first | rfl | exact nI_1 _ | (rw [nI_succ])
      have e21 : w18 = m_saL s ω (j3 + 1) := by clear ih7 iw18; replace hv1 := hv1.symm; replace hv15 := hv15.symm; replace hv16 := hv16.symm; replace hv17 := hv17.symm; replace hw18 := hw18.symm; replace hv19 := hv19.symm; subst hv19 hw18 hv17 hv16 hv15 hv1; rw [nI_clamp (Nat.lt_trans hlt14 (by decide))]; rfl
      exact g_lt e21 (lc_i e20 rfl) rfl (ih7 hlt14 (e21 ▸ iw18))
  · refine g_bipush (v := (-2)) h dX8_save_9 (by decide) ?_
    exact e_iret h hI dX8_save_11 (by replace hv1 := hv1.symm; subst hv1; unfold m_save; first | (simp only [if_pos c2]; done) | (simp only [if_pos c2]; rfl)) (by replace hv1 := hv1.symm; subst hv1; unfold m_save; first | (simp only [if_pos c2]; done) | (simp only [if_pos c2]; rfl))
set_option maxHeartbeats 4000000 in
set_option maxRecDepth 100000 in
theorem tX8_restore (l0 : Launch) (G : fG) (F : Nat) (ω : fOm) (hI : Inv ω) (s : Int32) (hK : MK ω) : CT l0 G F yX8_restore cX8_restore 3 (some .int) 1 [.ref (F + 647), .int s] ω (some (.int ((m_rest ω s).1))) ((m_rest ω s).2) := by
  refine ct_met (own := RX8) (by decide +kernel) rfl (Nat.le_of_ble_eq_true rfl) (fun X hXl hX h => ?_)
  subst hXl
  refine g_iload_n h 1 dX8_restore_0 rfl ?_
  refine g_iconst (v := 0) h dX8_restore_1 (by decide) ?_
  refine g_iconst (v := 1) h dX8_restore_2 (by decide) ?_
  refine k_S_i (st := []) h hX (tX8_in (xl X) G F ω hI s 0 1) rfl miX8_in tw_761 (by decide) (by decide) rfl (Nat.le_of_ble_eq_true rfl) (by rw [hX]; exact Nat.zero_le _) (by rw [hX]; exact Nat.zero_le _) dX8_restore_3 (fun v1 hv1 => ?_)
  refine g_if_ne (tgt := 12) h dX8_restore_6 (by decide) (fun c2 => ?_) (fun c2 => ?_)
  · refine g_aload_n h 0 dX8_restore_12 rfl ?_
    refine q_8_isSaved h rfl tw_713 dX8_restore_13 ?_
    refine g_iload_n h 1 dX8_restore_16 rfl ?_
    refine g_za (q := 25) h rfl (by decide) (by replace hv1 := hv1.symm; subst hv1; exact (btw_2 c2).2) dX8_restore_17 (fun v3 hv3 => ?_)
    refine g_if_ne (tgt := 24) h dX8_restore_18 (by decide) (fun c4 => ?_) (fun c4 => ?_)
    · refine g_aload_n h 0 dX8_restore_24 rfl ?_
      refine k_V_v (st := []) h hX (tX8_keep (xl X) G F ω hI (hK)) rfl ⟨kd_lt rfl, ob_21 rfl⟩ rfl miX8_keep tw_767 (by decide) (by decide) rfl (Nat.le_of_ble_eq_true rfl) (by rw [hX]; exact Nat.zero_le _) (by rw [hX]; exact Nat.zero_le _) dX8_restore_25 (fun w5 hw5 iw5 => ?_)
      refine g_iconst (v := 0) h dX8_restore_28 (by decide) ?_
      refine g_istore_n (loc2 := [(2, .int 0), (0, .ref (F + 647)), (1, .int s)]) h dX8_restore_29 (by decide) rfl ?_
      have e7 : 0 = nI 0 := by clear iw5; replace hv1 := hv1.symm; replace hv3 := hv3.symm; replace hw5 := hw5.symm; subst hw5 hv3 hv1; first | rfl | exact nI_0.symm | exact nI_0 | decide
      have e8 : w5 = m_reL s w5 0 := rfl
      refine g_lt (ω2 := m_reL s w5 0) (loc2 := [(2, .int (nI 0)), (0, .ref (F + 647)), (1, .int s)]) e8 (lc_i e7 rfl) rfl ?_
      refine g_loop3 (hd := 30) (770) (fun j6 => Inv (m_reL s w5 j6)) (fun j6 => [(2, .int (nI j6)), (0, .ref (F + 647)), (1, .int s)]) (fun j6 => cel F G (m_reL s w5 j6)) (e8 ▸ iw5) (fun j6 hj11 hP9 ih10 => ?_)
      (try dsimp only)
      have iv12 := hP9
      refine g_iload_n h 0 dX8_restore_30 rfl ?_
      refine g_sipush (v := 770) h dX8_restore_31 (by decide) ?_
      refine g_icmp_ge (tgt := 61) h dX8_restore_34 (by decide) (fun c13 => ?_) (fun c13 => ?_)
      · have hN14 : j6 = 770 := lpc_ge (x := 770) (M := 770) rfl (by decide) c13 hj11
        refine g_aload_n h 1 dX8_restore_61 rfl ?_
        refine q_8_at h rfl tw_708 dX8_restore_62 ?_
        refine g_iconst (v := 4) h dX8_restore_65 (by decide) ?_
        refine g_ia (q := 22) h rfl rfl (by decide) (vp_n (j := 4) (Nat.le_of_ble_eq_true rfl) (Nat.le_of_ble_eq_true rfl)) dX8_restore_66 (fun v15 hv15 => ?_)
        replace hv15 : v15 = (m_reL s w5 j6) 648 4 := hv15
        exact e_iret h iv12 dX8_restore_67 (by clear iw5 ih10; replace hv1 := hv1.symm; replace hv3 := hv3.symm; replace hw5 := hw5.symm; replace hv15 := hv15.symm; subst hv15 hw5 hv3 hv1; rw [hN14]; unfold m_rest; first | (simp only [if_neg c2, if_neg c4, if_pos c13]; done) | (simp only [if_neg c2, if_neg c4, if_pos c13]; rfl)) (by clear iw5 ih10; replace hv1 := hv1.symm; replace hv3 := hv3.symm; replace hw5 := hw5.symm; replace hv15 := hv15.symm; subst hv15 hw5 hv3 hv1; rw [hN14]; unfold m_rest; first | (simp only [if_neg c2, if_neg c4, if_pos c13]; done) | (simp only [if_neg c2, if_neg c4, if_pos c13]; rfl))
      · have hlt16 : j6 < 770 := lpc_lt (x := 770) (M := 770) rfl (by decide) c13 hj11
        refine g_aload_n h 1 dX8_restore_37 rfl ?_
        refine q_8_at h rfl tw_708 dX8_restore_38 ?_
        refine g_iload_n h 0 dX8_restore_41 rfl ?_
        refine g_aload_n h 1 dX8_restore_42 rfl ?_
        refine q_8_slots h rfl tw_712 dX8_restore_43 ?_
        refine g_sipush (v := 770) h dX8_restore_46 (by decide) ?_
        refine g_iload_n h 2 dX8_restore_49 rfl ?_
        refine g_imul h dX8_restore_50 (g_name fun v17 hv17 => ?_)
        refine g_iload_n h 0 dX8_restore_51 rfl ?_
        refine g_iadd h dX8_restore_52 (g_name fun v18 hv18 => ?_)
        refine g_ia (q := 24) h rfl rfl (by decide) (by clear iw5 ih10; replace hv1 := hv1.symm; replace hv3 := hv3.symm; replace hw5 := hw5.symm; replace hv17 := hv17.symm; replace hv18 := hv18.symm; subst hv18 hv17 hw5 hv3 hv1; exact ixS (btw_2 c2).1 hlt16) dX8_restore_53 (fun v19 hv19 => ?_)
        refine g_is (q := 22) h iv12 rfl rfl (by decide) (vp_n hlt16 (by decide)) dX8_restore_54 (fun w20 hw20 iw20 => ?_)
        obtain ⟨v21, hv21⟩ : ∃ z : Int32, z = (nI j6) + 1 := ⟨_, rfl⟩
        refine g_iinc (v := v21) (loc2 := [(2, .int v21), (0, .ref (F + 647)), (1, .int s)]) h 0 dX8_restore_55 rfl (by rw [hv21]; rfl) (by decide) rfl ?_
        refine g_goto (tgt := 30) h dX8_restore_58 (by decide) ?_
        have e22 : v21 = nI (j6 + 1) := by clear iw5 ih10 iw20; replace hv1 := hv1.symm; replace hv3 := hv3.symm; replace hw5 := hw5.symm; replace hv17 := hv17.symm; replace hv18 := hv18.symm; replace hv19 := hv19.symm; replace hw20 := hw20.symm; replace hv21 := hv21.symm; subst hv21 hw20 hv19 hv18 hv17 hw5 hv3 hv1; first | rfl | exact nI_1 _ | (rw [nI_succ])
        have e23 : w20 = m_reL s w5 (j6 + 1) := by clear iw5 ih10 iw20; replace hv1 := hv1.symm; replace hv3 := hv3.symm; replace hw5 := hw5.symm; replace hv17 := hv17.symm; replace hv18 := hv18.symm; replace hv19 := hv19.symm; replace hw20 := hw20.symm; replace hv21 := hv21.symm; subst hv21 hw20 hv19 hv18 hv17 hw5 hv3 hv1; rw [nI_clamp (Nat.lt_trans hlt16 (by decide))]; rfl
        exact g_lt e23 (lc_i e22 rfl) rfl (ih10 hlt16 (e23 ▸ iw20))
    · refine g_bipush (v := (-5)) h dX8_restore_21 (by decide) ?_
      exact e_iret h hI dX8_restore_23 (by replace hv1 := hv1.symm; replace hv3 := hv3.symm; subst hv3 hv1; unfold m_rest; first | (simp only [if_neg c2, if_pos c4]; done) | (simp only [if_neg c2, if_pos c4]; rfl)) (by replace hv1 := hv1.symm; replace hv3 := hv3.symm; subst hv3 hv1; unfold m_rest; first | (simp only [if_neg c2, if_pos c4]; done) | (simp only [if_neg c2, if_pos c4]; rfl))
  · refine g_bipush (v := (-2)) h dX8_restore_9 (by decide) ?_
    exact e_iret h hI dX8_restore_11 (by replace hv1 := hv1.symm; subst hv1; unfold m_rest; first | (simp only [if_pos c2]; done) | (simp only [if_pos c2]; rfl)) (by replace hv1 := hv1.symm; subst hv1; unfold m_rest; first | (simp only [if_pos c2]; done) | (simp only [if_pos c2]; rfl))
