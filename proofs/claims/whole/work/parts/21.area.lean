/-! THE CLASS Area, over maps -/
def ar (h : hm_H) (a : Nat) (l t : Int) (w g : Nat) : Prop := ob h a 0 [.long (iL l), .long (iL t), .int (nI w), .int (nI g)]
def sm (z : Int) : Prop := -17592186044416 ≤ z ∧ z ≤ 17592186044416
theorem sm_L {z : Int} (h : sm z) : -9223372036854775808 ≤ z ∧ z < 9223372036854775808 := by unfold sm at h; omega
theorem ar_l {h : hm_H} {a : Nat} {l t : Int} {w g : Nat} (H : ar h a l t w g) : hm_gl 0 0 h (some a) = some (iL l) := ob_gl H rfl
theorem ar_t {h : hm_H} {a : Nat} {l t : Int} {w g : Nat} (H : ar h a l t w g) : hm_gl 0 1 h (some a) = some (iL t) := ob_gl H rfl
theorem ar_w {h : hm_H} {a : Nat} {l t : Int} {w g : Nat} (H : ar h a l t w g) : hm_gi 0 2 h (some a) = some (nI w) := ob_gi H rfl
theorem ar_g {h : hm_H} {a : Nat} {l t : Int} {w g : Nat} (H : ar h a l t w g) : hm_gi 0 3 h (some a) = some (nI g) := ob_gi H rfl
theorem ar_rc {h : hm_H} {a : Nat} {l t : Int} {w g : Nat} (H : ar h a l t w g) : hm_rc 0 h (some a) = some a := ob_rc H
theorem p_size {h : hm_H} {a : Nat} {l t : Int} {w g : Nat} (H : ar h a l t w g) : fX0_size a h = some (nI (w * g), h) := by
  simp only [fX0_size, ar_w H, ar_g H, hb_s, pk_mul]
theorem p_holds {h : hm_H} {a : Nat} {l t x y : Int} {w g : Nat} (H : ar h a l t w g) (hl : sm l) (ht : sm t) (hw : w < 2 ^ 31) (hg : g < 2 ^ 31) (hx : sm x) (hy : sm y) :
    fX0_holds a (iL x) (iL y) h = some (if l ≤ x ∧ x < l + w ∧ t ≤ y ∧ y < t + g then 1 else 0, h) := by
  unfold sm at hl ht hx hy
  have c1 : iL x < iL l ↔ x < l := iL_lt (by omega) (by omega)
  have c2 : iL (l + w) ≤ iL x ↔ l + w ≤ x := iL_le (by omega) (by omega)
  have c3 : iL y < iL t ↔ y < t := iL_lt (by omega) (by omega)
  have c4 : iL (t + g) ≤ iL y ↔ t + g ≤ y := iL_le (by omega) (by omega)
  simp only [fX0_holds, ar_l H, ar_t H, ar_w H, ar_g H, hb_s, nI_L hw, nI_L hg, iL_add, lg_lt, lg_ge, c1, c2, c3, c4]
  by_cases q1 : x < l
  · rw [if_pos q1, if_neg (by omega)]
  · rw [if_neg q1]
    by_cases q2 : l + w ≤ x
    · rw [if_pos q2, if_neg (by omega)]
    · rw [if_neg q2]
      by_cases q3 : y < t
      · rw [if_pos q3, if_neg (by omega)]
      · rw [if_neg q3]
        by_cases q4 : t + g ≤ y
        · rw [if_pos q4, if_neg (by omega)]
        · rw [if_neg q4, if_pos (by omega)]
/-- a new cell -/
theorem hn_self (h : hm_H) (x : hm_E) : (hm_n h x).1 h.2 = some x := va_up_self _ _ _
theorem hn_ne {h : hm_H} {x : hm_E} {a : Nat} (ha : a ≠ h.2) : (hm_n h x).1 a = h.1 a := va_up_ne _ _ ha
theorem hn_2 (h : hm_H) (x : hm_E) : (hm_n h x).2 = h.2 + 1 := rfl
theorem up_up {f : Nat → Option hm_E} {a : Nat} {x y : Option hm_E} : va_up (va_up f a x) a y = va_up f a y := by
  funext b
  unfold va_up
  by_cases hb : b = a
  · simp [hb]
  · simp [hb]
/-- Area's constructor on a new cell -/
theorem p_area (h : hm_H) (l t : Int64) (w g : Int32) : fX0_init h.2 l t w g (hm_n h (.inr (0, [.long 0, .long 0, .int 0, .int 0]))) = some (hm_n h (.inr (0, [.long l, .long t, .int w, .int g]))) := by
  have e0 : ob (hm_n h (.inr (0, [.long 0, .long 0, .int 0, .int 0]))) h.2 0 [.long 0, .long 0, .int 0, .int 0] := hn_self _ _
  unfold fX0_init
  rw [ob_p e0 (by decide), hb_s]
  have e1 : ob (va_up (hm_n h (.inr (0, [.long 0, .long 0, .int 0, .int 0]))).1 h.2 (some (.inr (0, [.long l, .long 0, .int 0, .int 0]))), h.2 + 1) h.2 0 [.long l, .long 0, .int 0, .int 0] := va_up_self _ _ _
  show hm_b (hm_p 0 1 (.long t) (va_up (hm_n h (.inr (0, [.long 0, .long 0, .int 0, .int 0]))).1 h.2 (some (.inr (0, [.long l, .long 0, .int 0, .int 0]))), h.2 + 1) (some h.2)) _ = _
  rw [ob_p e1 (Nat.le_of_ble_eq_true rfl), hb_s]
  have e2 : ob (va_up (va_up (hm_n h (.inr (0, [.long 0, .long 0, .int 0, .int 0]))).1 h.2 (some (.inr (0, [.long l, .long 0, .int 0, .int 0])))) h.2 (some (.inr (0, [.long l, .long t, .int 0, .int 0]))), h.2 + 1) h.2 0 [.long l, .long t, .int 0, .int 0] := va_up_self _ _ _
  show hm_b (hm_p 0 2 (.int w) (va_up (va_up (hm_n h (.inr (0, [.long 0, .long 0, .int 0, .int 0]))).1 h.2 (some (.inr (0, [.long l, .long 0, .int 0, .int 0])))) h.2 (some (.inr (0, [.long l, .long t, .int 0, .int 0]))), h.2 + 1) (some h.2)) _ = _
  rw [ob_p e2 (Nat.le_of_ble_eq_true rfl), hb_s]
  have e3 : ob (va_up (va_up (va_up (hm_n h (.inr (0, [.long 0, .long 0, .int 0, .int 0]))).1 h.2 (some (.inr (0, [.long l, .long 0, .int 0, .int 0])))) h.2 (some (.inr (0, [.long l, .long t, .int 0, .int 0])))) h.2 (some (.inr (0, [.long l, .long t, .int w, .int 0]))), h.2 + 1) h.2 0 [.long l, .long t, .int w, .int 0] := va_up_self _ _ _
  show hm_b (hm_p 0 3 (.int g) (va_up (va_up (va_up (hm_n h (.inr (0, [.long 0, .long 0, .int 0, .int 0]))).1 h.2 (some (.inr (0, [.long l, .long 0, .int 0, .int 0])))) h.2 (some (.inr (0, [.long l, .long t, .int 0, .int 0])))) h.2 (some (.inr (0, [.long l, .long t, .int w, .int 0]))), h.2 + 1) (some h.2)) _ = _
  rw [ob_p e3 (Nat.le_of_ble_eq_true rfl), hb_s]
  show some _ = some _
  congr 1
  unfold hm_n
  simp only [up_up]
  rfl
/-- an Area as a cell -/
def aC (l t : Int) (w g : Nat) : hm_E := .inr (0, [.long (iL l), .long (iL t), .int (nI w), .int (nI g)])
theorem ar_new (h : hm_H) (l t : Int) (w g : Nat) : ar (hm_n h (aC l t w g)) h.2 l t w g := hn_self _ _
theorem p_moved {h : hm_H} {a : Nat} {l t dx dy : Int} {w g : Nat} (H : ar h a l t w g) (ha : a ≠ h.2) : fX0_movedBy a (iL dx) (iL dy) h = some (some h.2, hm_n h (aC (l + dx) (t + dy) w g)) := by
  have H1 : ar (hm_n h (.inr (0, [.long 0, .long 0, .int 0, .int 0]))) a l t w g := (hn_ne ha).trans H
  simp only [fX0_movedBy, hlet_s, ar_l H1, ar_t H1, ar_w H1, ar_g H1, hb_s, iL_add, p_area, aC]
/-- what two rectangles share -/
def sh (l t : Int) (w g : Nat) (l2 t2 : Int) (w2 g2 : Nat) : Int × Int × Nat × Nat :=
  let nl := max l l2
  let nt := max t t2
  let nw := min (l + w) (l2 + w2) - nl
  let ng := min (t + g) (t2 + g2) - nt
  if nw ≤ 0 ∨ ng ≤ 0 then (0, 0, 0, 0) else (nl, nt, nw.toNat, ng.toNat)
theorem p_shared {h : hm_H} {a a2 : Nat} {l t l2 t2 : Int} {w g w2 g2 : Nat} (H : ar h a l t w g) (H2 : ar h a2 l2 t2 w2 g2) (hl : sm l) (ht : sm t) (hw : w < 2 ^ 31) (hg : g < 2 ^ 31) (hl2 : sm l2) (ht2 : sm t2) (hw2 : w2 < 2 ^ 31) (hg2 : g2 < 2 ^ 31) :
    fX0_shared a (some a2) h = some (some h.2, hm_n h (aC (sh l t w g l2 t2 w2 g2).1 (sh l t w g l2 t2 w2 g2).2.1 (sh l t w g l2 t2 w2 g2).2.2.1 (sh l t w g l2 t2 w2 g2).2.2.2)) := by
  unfold sm at hl ht hl2 ht2
  have c1 : (if iL l2 < iL l then iL l else iL l2) = iL (max l l2) := by
    have := iL_lt (a := l2) (b := l) (by omega) (by omega)
    by_cases q : l2 < l
    · rw [if_pos (this.mpr q)]; congr 1; omega
    · rw [if_neg (fun z => q (this.mp z))]; congr 1; omega
  have c2 : (if iL t2 < iL t then iL t else iL t2) = iL (max t t2) := by
    have := iL_lt (a := t2) (b := t) (by omega) (by omega)
    by_cases q : t2 < t
    · rw [if_pos (this.mpr q)]; congr 1; omega
    · rw [if_neg (fun z => q (this.mp z))]; congr 1; omega
  have c3 : (if iL (l2 + w2) < iL (l + w) then iL (l2 + w2) else iL (l + w)) = iL (min (l + w) (l2 + w2)) := by
    have := iL_lt (a := l2 + w2) (b := l + w) (by omega) (by omega)
    by_cases q : l2 + w2 < l + w
    · rw [if_pos (this.mpr q)]; congr 1; omega
    · rw [if_neg (fun z => q (this.mp z))]; congr 1; omega
  have c4 : (if iL (t2 + g2) < iL (t + g) then iL (t2 + g2) else iL (t + g)) = iL (min (t + g) (t2 + g2)) := by
    have := iL_lt (a := t2 + g2) (b := t + g) (by omega) (by omega)
    by_cases q : t2 + g2 < t + g
    · rw [if_pos (this.mpr q)]; congr 1; omega
    · rw [if_neg (fun z => q (this.mp z))]; congr 1; omega
  have z0 : (0 : Int64) = iL 0 := rfl
  have c5 : iL (min (l + w) (l2 + w2) - max l l2) ≤ iL 0 ↔ min (l + w) (l2 + w2) - max l l2 ≤ 0 := iL_le (by omega) (by omega)
  have c6 : iL 0 < iL (min (t + g) (t2 + g2) - max t t2) ↔ 0 < min (t + g) (t2 + g2) - max t t2 := iL_lt (by omega) (by omega)
  have e94 : fX0_shared_94 h = some (some h.2, hm_n h (aC 0 0 0 0)) := by
    simp only [fX0_shared_94, hlet_s, p_area, hb_s]
    rfl
  simp only [fX0_shared, ar_l H, ar_t H, ar_w H, ar_g H, ar_l H2, ar_t H2, ar_w H2, ar_g H2, hb_s, hlet_s, c1, c2, nI_L hw, nI_L hg, nI_L hw2, nI_L hg2, iL_add, c3, c4, iL_sub, lg_le, lg_gt, p_area, e94, iL_I]
  rw [z0]
  simp only [c5, c6]
  unfold sh
  by_cases q1 : min (l + w) (l2 + w2) - max l l2 ≤ 0
  · rw [if_pos q1, if_pos (Or.inl q1)]
  · rw [if_neg q1]
    by_cases q2 : 0 < min (t + g) (t2 + g2) - max t t2
    · rw [if_pos q2, if_neg (by omega)]
      have i1 : iI (min (l + w) (l2 + w2) - max l l2) = nI (min (l + w) (l2 + w2) - max l l2).toNat := by
        rw [← iI_nat]; congr 1; omega
      have i2 : iI (min (t + g) (t2 + g2) - max t t2) = nI (min (t + g) (t2 + g2) - max t t2).toNat := by
        rw [← iI_nat]; congr 1; omega
      rw [i1, i2]
      rfl
    · rw [if_neg q2, if_pos (Or.inr (by omega))]
