/-! NUMBERS: longs and ints by whole numbers -/
def iL (z : Int) : Int64 := Int64.ofInt z
def iI (z : Int) : Int32 := Int32.ofInt z
theorem iL_add (a b : Int) : iL a + iL b = iL (a + b) := (Int64.ofInt_add a b).symm
theorem iL_sub (a b : Int) : iL a - iL b = iL (a - b) := (Int64.ofInt_sub a b).symm
theorem iL_mul (a b : Int) : iL a * iL b = iL (a * b) := (Int64.ofInt_mul a b).symm
theorem iL_neg (a : Int) : -iL a = iL (-a) := (Int64.ofInt_neg a).symm
theorem iI_add (a b : Int) : iI a + iI b = iI (a + b) := (Int32.ofInt_add a b).symm
theorem iI_sub (a b : Int) : iI a - iI b = iI (a - b) := (Int32.ofInt_sub a b).symm
theorem iI_mul (a b : Int) : iI a * iI b = iI (a * b) := (Int32.ofInt_mul a b).symm
theorem iI_nat (n : Nat) : iI (n : Int) = nI n := Int32.ofInt_eq_ofNat
theorem iL_of (x : Int64) : iL x.toInt = x := Int64.ofInt_toInt x
theorem iI_of (x : Int32) : iI x.toInt = x := Int32.ofInt_toInt x
theorem iL_toInt {z : Int} (h1 : -9223372036854775808 ≤ z) (h2 : z < 9223372036854775808) : (iL z).toInt = z := Int64.toInt_ofInt_of_le h1 h2
theorem iI_toInt {z : Int} (h1 : -2147483648 ≤ z) (h2 : z < 2147483648) : (iI z).toInt = z := Int32.toInt_ofInt_of_le h1 h2
theorem i_rng (x : Int32) : -2147483648 ≤ x.toInt ∧ x.toInt < 2147483648 := ⟨Int32.le_toInt x, Int32.toInt_lt x⟩
theorem i2L (x : Int32) : x.toInt64 = iL x.toInt := by
  apply Int64.toInt_inj.mp
  rw [Int32.toInt_toInt64, iL_toInt]
  · have := i_rng x; omega
  · have := i_rng x; omega
theorem nI_L {n : Nat} (h : n < 2 ^ 31) : (nI n).toInt64 = iL n := by rw [i2L, nI_toInt h]
theorem iL_I (z : Int) : (iL z).toInt32 = iI z := Int64.toInt32_ofInt
theorem iL_lt {a b : Int} (ha : -9223372036854775808 ≤ a ∧ a < 9223372036854775808) (hb : -9223372036854775808 ≤ b ∧ b < 9223372036854775808) : iL a < iL b ↔ a < b := by
  rw [Int64.lt_iff_toInt_lt, iL_toInt ha.1 ha.2, iL_toInt hb.1 hb.2]
theorem iL_le {a b : Int} (ha : -9223372036854775808 ≤ a ∧ a < 9223372036854775808) (hb : -9223372036854775808 ≤ b ∧ b < 9223372036854775808) : iL a ≤ iL b ↔ a ≤ b := by
  rw [Int64.le_iff_toInt_le, iL_toInt ha.1 ha.2, iL_toInt hb.1 hb.2]
theorem lg_lt (x y : Int64) : lg_cmp x y < 0 ↔ x < y := by
  unfold lg_cmp
  rw [Int64.lt_iff_toInt_lt]
  by_cases h1 : x > y
  · rw [if_pos h1]
    have h2 := Int64.lt_iff_toInt_lt.mp h1
    constructor
    · intro h; exact absurd h (by decide)
    · intro h; omega
  · rw [if_neg h1]
    by_cases h2 : x = y
    · rw [if_pos h2]
      subst h2
      constructor
      · intro h; exact absurd h (by decide)
      · intro h; omega
    · rw [if_neg h2]
      have h3 : ¬ y.toInt < x.toInt := fun q => h1 (Int64.lt_iff_toInt_lt.mpr q)
      have h4 : x.toInt ≠ y.toInt := fun q => h2 (Int64.toInt_inj.mp q)
      constructor
      · intro _; omega
      · intro _; decide
theorem lg_eq (x y : Int64) : lg_cmp x y = 0 ↔ x = y := by
  unfold lg_cmp
  by_cases h1 : x > y
  · rw [if_pos h1]
    constructor
    · intro h; exact absurd h (by decide)
    · intro h; subst h; exact absurd h1 (by have := Int64.lt_iff_toInt_lt.mp h1; omega)
  · rw [if_neg h1]
    by_cases h2 : x = y
    · rw [if_pos h2]; exact ⟨fun _ => h2, fun _ => rfl⟩
    · rw [if_neg h2]; exact ⟨fun h => absurd h (by decide), fun h => absurd h h2⟩
theorem lg_val (x y : Int64) : lg_cmp x y = 1 ∨ lg_cmp x y = 0 ∨ lg_cmp x y = -1 := by
  unfold lg_cmp
  by_cases h1 : x > y
  · rw [if_pos h1]; exact Or.inl rfl
  · rw [if_neg h1]
    by_cases h2 : x = y
    · rw [if_pos h2]; exact Or.inr (Or.inl rfl)
    · rw [if_neg h2]; exact Or.inr (Or.inr rfl)
theorem lg_ge (x y : Int64) : 0 ≤ lg_cmp x y ↔ y ≤ x := by
  have h1 := lg_lt x y
  rw [Int32.lt_iff_toInt_lt, Int64.lt_iff_toInt_lt] at h1
  rw [Int32.le_iff_toInt_le, Int64.le_iff_toInt_le]
  have h0 : (0 : Int32).toInt = 0 := rfl
  omega
theorem lg_gt (x y : Int64) : 0 < lg_cmp x y ↔ y < x := by
  have h1 := lg_lt x y
  have h2 := lg_eq x y
  rw [Int32.lt_iff_toInt_lt, Int64.lt_iff_toInt_lt] at h1
  rw [Int32.lt_iff_toInt_lt, Int64.lt_iff_toInt_lt]
  rw [← Int32.toInt_inj, ← Int64.toInt_inj] at h2
  have h0 : (0 : Int32).toInt = 0 := rfl
  omega
theorem lg_le (x y : Int64) : lg_cmp x y ≤ 0 ↔ x ≤ y := by
  have h1 := lg_gt x y
  rw [Int32.lt_iff_toInt_lt, Int64.lt_iff_toInt_lt] at h1
  rw [Int32.le_iff_toInt_le, Int64.le_iff_toInt_le]
  have h0 : (0 : Int32).toInt = 0 := rfl
  omega
/-- an int from 0 to n, or not -/
theorem i_cases (x : Int32) {n : Nat} (hn : n < 2 ^ 31) : (∃ k : Nat, k ≤ n ∧ x = nI k) ∨ (x < 0 ∨ nI n < x) := by
  by_cases h : x < 0
  · exact Or.inr (Or.inl h)
  · obtain ⟨j, hj, rfl⟩ := nI_of h
    by_cases h2 : j ≤ n
    · exact Or.inl ⟨j, h2, rfl⟩
    · exact Or.inr (Or.inr (nI_lt (by omega) hj))
/-! BINDS -/
theorem hb_s {α γ : Type} (a : α) (k : α → Option γ) : hm_b (some a) k = k a := rfl
theorem hb2_s {α β γ : Type} (a : α) (b : β) (k : α → β → Option γ) : hm_b2 (some (a, b)) k = k a b := rfl
theorem hlet_s {α γ : Type} (a : α) (k : α → γ) : hm_let a k = k a := rfl
/-! CELLS -/
def ob (h : hm_H) (a ci : Nat) (fs : List Value) : Prop := h.1 a = some (.inr (ci, fs))
def ia (h : hm_H) (a n : Nat) (f : Nat → Int32) : Prop := h.1 a = some (.inl (0, n, .inl f))
def za (h : hm_H) (a n : Nat) (f : Nat → Int32) : Prop := h.1 a = some (.inl (1, n, .inl f))
def qa (kd : Nat) (h : hm_H) (a n : Nat) (f : Nat → Option Nat) : Prop := h.1 a = some (.inl (kd, n, .inr (.inr (.inr (.inr f)))))
theorem ob_gi {h : hm_H} {a ci k : Nat} {fs : List Value} {v : Int32} (hb : ob h a ci fs) (hk : fs[k]? = some (.int v)) : hm_gi ci k h (some a) = some v := by
  simp [hm_gi, hm_g, show h.1 a = _ from hb, hk]
theorem ob_gl {h : hm_H} {a ci k : Nat} {fs : List Value} {v : Int64} (hb : ob h a ci fs) (hk : fs[k]? = some (.long v)) : hm_gl ci k h (some a) = some v := by
  simp [hm_gl, hm_g, show h.1 a = _ from hb, hk]
theorem ob_gq {h : hm_H} {a ci k : Nat} {fs : List Value} {v : Nat} (hb : ob h a ci fs) (hk : fs[k]? = some (.ref v)) : hm_gq ci k h (some a) = some (some v) := by
  simp [hm_gq, hm_g, show h.1 a = _ from hb, hk]
theorem ob_rc {h : hm_H} {a ci : Nat} {fs : List Value} (hb : ob h a ci fs) : hm_rc ci h (some a) = some a := by
  simp [hm_rc, show h.1 a = _ from hb]
theorem ob_p {h : hm_H} {a ci k : Nat} {fs : List Value} {v : Value} (hb : ob h a ci fs) (hk : k < fs.length) : hm_p ci k v h (some a) = some (va_up h.1 a (some (.inr (ci, fs.set k v))), h.2) := by
  simp [hm_p, show h.1 a = _ from hb, hk]
theorem vin_nI {n N : Nat} (h : n < N) (hN : N < 2 ^ 31) : ¬ (nI n < 0 ∨ N ≤ (nI n).toNatClampNeg) := nI_in h hN
theorem ia_ai {h : hm_H} {a n j : Nat} {f : Nat → Int32} (hb : ia h a n f) (hj : j < n) (hn : n < 2 ^ 31) : hm_ai 0 h (some a) (nI j) = some (f j) := by
  have h1 := vin_nI hj hn
  have h2 : (nI j).toNatClampNeg = j := nI_clamp (by omega)
  simp only [hm_ai, show h.1 a = _ from hb]
  rw [if_pos ⟨trivial, h1⟩, h2]
theorem ia_si {h : hm_H} {a n j : Nat} {f : Nat → Int32} {x : Int32} (hb : ia h a n f) (hj : j < n) (hn : n < 2 ^ 31) : hm_si 0 h (some a) (nI j) x = some (va_up h.1 a (some (.inl (0, n, .inl (upd f j x)))), h.2) := by
  have h1 := vin_nI hj hn
  have h2 : (nI j).toNatClampNeg = j := nI_clamp (by omega)
  simp only [hm_si, show h.1 a = _ from hb]
  rw [if_pos ⟨trivial, h1⟩, h2]
theorem za_ai {h : hm_H} {a n j : Nat} {f : Nat → Int32} (hb : za h a n f) (hj : j < n) (hn : n < 2 ^ 31) : hm_ai 1 h (some a) (nI j) = some (f j) := by
  have h1 := vin_nI hj hn
  have h2 : (nI j).toNatClampNeg = j := nI_clamp (by omega)
  simp only [hm_ai, show h.1 a = _ from hb]
  rw [if_pos ⟨trivial, h1⟩, h2]
theorem za_si {h : hm_H} {a n j : Nat} {f : Nat → Int32} {x : Int32} (hb : za h a n f) (hj : j < n) (hn : n < 2 ^ 31) : hm_si 1 h (some a) (nI j) x = some (va_up h.1 a (some (.inl (1, n, .inl (upd f j x)))), h.2) := by
  have h1 := vin_nI hj hn
  have h2 : (nI j).toNatClampNeg = j := nI_clamp (by omega)
  simp only [hm_si, show h.1 a = _ from hb]
  rw [if_pos ⟨trivial, h1⟩, h2]
theorem qa_aq {kd : Nat} {h : hm_H} {a n j : Nat} {f : Nat → Option Nat} (hb : qa kd h a n f) (hj : j < n) (hn : n < 2 ^ 31) : hm_aq kd h (some a) (nI j) = some (f j) := by
  have h1 := vin_nI hj hn
  have h2 : (nI j).toNatClampNeg = j := nI_clamp (by omega)
  simp only [hm_aq, show h.1 a = _ from hb]
  rw [if_pos ⟨trivial, h1⟩, h2]
theorem qa_sq {kd ci : Nat} {h : hm_H} {a n j v : Nat} {f : Nat → Option Nat} {fs : List Value} (hb : qa kd h a n f) (hv : ob h v ci fs) (hj : j < n) (hn : n < 2 ^ 31) : hm_sq kd ci h (some a) (nI j) (some v) = some (va_up h.1 a (some (.inl (kd, n, .inr (.inr (.inr (.inr (va_up f j (some v)))))))), h.2) := by
  have h1 := vin_nI hj hn
  have h2 : (nI j).toNatClampNeg = j := nI_clamp (by omega)
  simp only [hm_sq, ob_rc hv, show h.1 a = _ from hb]
  rw [if_pos ⟨trivial, h1⟩, h2]
theorem ia_al {h : hm_H} {a n : Nat} {f : Nat → Int32} (hb : ia h a n f) : hm_al 0 h (some a) = some (nI n) := by
  simp [hm_al, show h.1 a = _ from hb, nI]
