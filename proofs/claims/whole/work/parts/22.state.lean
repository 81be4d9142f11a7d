/-! THE STATE OF THE CLASS, over a map: the board at b, its arrays at b+1, b+2, b+13, the five sprites at P 0 .. P 4 (the last is the spare one), their bytes behind each; surface i at S i, its whole and its dots behind it, its clip at C i -/
def CO (b n : Nat) (S C P : Nat → Nat) (D : Nat → Nat × Nat × Nat) (K : Nat → Nat × Nat × Nat × Nat) (Z : Nat → Int32 × Int32) (h : hm_H) : Prop :=
  ob h b 5 [.ref (b + 1), .int (nI n), .ref (b + 2), .ref (P 4), .ref (b + 13)] ∧
  (∀ i, i < n → ob h (S i) 3 [.int (nI (D i).1), .int (nI (2 ^ (D i).1 - 1)), .ref (S i + 1), .ref (S i + 2), .ref (C i)] ∧ ar h (S i + 1) 0 0 (D i).2.1 (D i).2.2 ∧ ar h (C i) (K i).1 (K i).2.1 (K i).2.2.1 (K i).2.2.2) ∧
  (∀ k, k < 5 → ob h (P k) 2 [.ref (P k + 1), .int (Z k).1, .int (Z k).2])
def CA (b n : Nat) (S P : Nat → Nat) (D : Nat → Nat × Nat × Nat) (tk : Nat → Int32) (G Y : Nat → Nat → Int32) (h : hm_H) : Prop :=
  (∃ f, qa 3 h (b + 1) 8 f ∧ ∀ i, i < n → f i = some (S i)) ∧ (∃ f, qa 2 h (b + 2) 4 f ∧ ∀ k, k < 4 → f k = some (P k)) ∧
  ia h (b + 13) 4096 tk ∧ (∀ i, i < n → ia h (S i + 2) ((D i).2.1 * (D i).2.2) (G i)) ∧ (∀ k, k < 5 → ia h (P k + 1) 5000 (Y k))
def AD (b n : Nat) (S P : Nat → Nat) (h : hm_H) : Prop :=
  (∀ i, i < n → b + 14 ≤ S i ∧ S i + 3 ≤ h.2) ∧ (∀ i j, i < j → j < n → S i + 3 ≤ S j) ∧ (∀ k, k < 5 → ∃ j, j < 5 ∧ P k = b + 3 + 2 * j) ∧ (∀ k k', k < 5 → k' < 5 → P k = P k' → k = k') ∧ b + 14 ≤ h.2 ∧ ∀ a, h.2 ≤ a → h.1 a = none
def DK (n : Nat) (D : Nat → Nat × Nat × Nat) (K : Nat → Nat × Nat × Nat × Nat) : Prop :=
  n ≤ 8 ∧ ∀ i, i < n → ((D i).1 = 1 ∨ (D i).1 = 4 ∨ (D i).1 = 8) ∧ 1 ≤ (D i).2.1 ∧ (D i).2.1 ≤ 64 ∧ 1 ≤ (D i).2.2 ∧ (D i).2.2 ≤ 64 ∧ (K i).1 + (K i).2.2.1 ≤ (D i).2.1 ∧ (K i).2.1 + (K i).2.2.2 ≤ (D i).2.2
def CH (b n : Nat) (S C P : Nat → Nat) (D : Nat → Nat × Nat × Nat) (K : Nat → Nat × Nat × Nat × Nat) (Z : Nat → Int32 × Int32) (tk : Nat → Int32) (G Y : Nat → Nat → Int32) (h : hm_H) : Prop :=
  CO b n S C P D K Z h ∧ CA b n S P D tk G Y h ∧ AD b n S P h ∧ DK n D K
/-- no object has changed -/
def obs (h h' : hm_H) : Prop := ∀ (a : Nat) (o : Nat × List Value), h.1 a = some (.inr o) → h'.1 a = some (.inr o)
theorem obs.rf (h : hm_H) : obs h h := fun _ _ e => e
theorem obs.tr {h1 h2 h3 : hm_H} (a : obs h1 h2) (b : obs h2 h3) : obs h1 h3 := fun q o e => b q o (a q o e)
theorem obs.ob {h h' : hm_H} (H : obs h h') {a ci : Nat} {fs : List Value} (ho : ob h a ci fs) : ob h' a ci fs := H a _ ho
theorem obs.ar {h h' : hm_H} (H : obs h h') {a : Nat} {l t : Int} {w g : Nat} (ho : ar h a l t w g) : ar h' a l t w g := H a _ ho
theorem obs.arr {h : hm_H} {a : Nat} {x y : Nat × vp_A} (ha : h.1 a = some (.inl x)) : obs h (va_up h.1 a (some (.inl y)), h.2) := by
  intro q o e
  by_cases hq : q = a
  · subst hq
    rw [ha] at e
    cases e
  · show va_up h.1 a _ q = _
    rw [va_up_ne _ _ hq]
    exact e
theorem obs.new {h : hm_H} {x : hm_E} (hf : h.1 h.2 = none) : obs h (hm_n h x) := by
  intro q o e
  by_cases hq : q = h.2
  · subst hq
    rw [hf] at e
    cases e
  · rw [hn_ne hq]
    exact e
theorem CO.obs {b n : Nat} {S C P : Nat → Nat} {D : Nat → Nat × Nat × Nat} {K : Nat → Nat × Nat × Nat × Nat} {Z : Nat → Int32 × Int32} {h h' : hm_H} (H : CO b n S C P D K Z h) (o : obs h h') : CO b n S C P D K Z h' :=
  ⟨o.ob H.1, fun i hi => ⟨o.ob (H.2.1 i hi).1, o.ar (H.2.1 i hi).2.1, o.ar (H.2.1 i hi).2.2⟩, fun k hk => o.ob (H.2.2 k hk)⟩
theorem up_ne {f : Nat → Option hm_E} {n a q : Nat} {x : Option hm_E} (h : q ≠ a) : (va_up f a x, n).1 q = f q := va_up_ne _ _ h
section CHS
variable {b n : Nat} {S C P : Nat → Nat} {D : Nat → Nat × Nat × Nat} {K : Nat → Nat × Nat × Nat × Nat} {Z : Nat → Int32 × Int32} {tk : Nat → Int32} {G Y : Nat → Nat → Int32} {h : hm_H}
/-- the taken dots change -/
theorem CH.taken (H : CH b n S C P D K Z tk G Y h) (f : Nat → Int32) : CH b n S C P D K Z f G Y (va_up h.1 (b + 13) (some (.inl (0, 4096, .inl f))), h.2) ∧ obs h (va_up h.1 (b + 13) (some (.inl (0, 4096, .inl f))), h.2) := by
  obtain ⟨ho, ⟨⟨f1, a1, a1'⟩, ⟨f2, a2, a2'⟩, a3, a4, a5⟩, ⟨d1, d2, d3, d4, d5, d6⟩, hd⟩ := H
  have o := obs.arr (y := (0, 4096, .inl f)) a3
  refine ⟨⟨ho.obs o, ⟨⟨f1, (up_ne (by omega)).trans a1, a1'⟩, ⟨f2, (up_ne (by omega)).trans a2, a2'⟩, va_up_self _ _ _, fun i hi => (up_ne ?_).trans (a4 i hi), fun k hk => (up_ne ?_).trans (a5 k hk)⟩, ⟨d1, d2, d3, d4, d5, fun a ha => (up_ne ?_).trans (d6 a ha)⟩, hd⟩, o⟩
  · have := d1 i hi; omega
  · obtain ⟨j, hj, e⟩ := d3 k hk; omega
  · have : h.2 ≤ a := ha; omega
/-- a surface's dots change -/
theorem CH.dots (H : CH b n S C P D K Z tk G Y h) {i : Nat} (hi : i < n) (f : Nat → Int32) : CH b n S C P D K Z tk (va_up G i f) Y (va_up h.1 (S i + 2) (some (.inl (0, (D i).2.1 * (D i).2.2, .inl f))), h.2) ∧ obs h (va_up h.1 (S i + 2) (some (.inl (0, (D i).2.1 * (D i).2.2, .inl f))), h.2) := by
  obtain ⟨ho, ⟨⟨f1, a1, a1'⟩, ⟨f2, a2, a2'⟩, a3, a4, a5⟩, ⟨d1, d2, d3, d4, d5, d6⟩, hd⟩ := H
  have o := obs.arr (y := (0, (D i).2.1 * (D i).2.2, .inl f)) (a4 i hi)
  have hsi := d1 i hi
  refine ⟨⟨ho.obs o, ⟨⟨f1, (up_ne (by omega)).trans a1, a1'⟩, ⟨f2, (up_ne (by omega)).trans a2, a2'⟩, (up_ne (by omega)).trans a3, fun j hj => ?_, fun k hk => (up_ne ?_).trans (a5 k hk)⟩, ⟨d1, d2, d3, d4, d5, fun a ha => (up_ne ?_).trans (d6 a ha)⟩, hd⟩, o⟩
  · by_cases hij : j = i
    · subst hij
      rw [va_up_self]
      exact va_up_self _ _ _
    · rw [va_up_ne _ _ hij]
      refine (up_ne ?_).trans (a4 j hj)
      rcases Nat.lt_or_gt_of_ne hij with q | q
      · have := d2 j i q hi; omega
      · have := d2 i j q hj; omega
  · obtain ⟨j, hj, e⟩ := d3 k hk; omega
  · have : h.2 ≤ a := ha; omega
/-- a new cell -/
theorem CH.new (H : CH b n S C P D K Z tk G Y h) (x : hm_E) : CH b n S C P D K Z tk G Y (hm_n h x) ∧ obs h (hm_n h x) := by
  obtain ⟨ho, ⟨⟨f1, a1, a1'⟩, ⟨f2, a2, a2'⟩, a3, a4, a5⟩, ⟨d1, d2, d3, d4, d5, d6⟩, hd⟩ := H
  have o := obs.new (x := x) (d6 _ (Nat.le_refl _))
  refine ⟨⟨ho.obs o, ⟨⟨f1, (hn_ne (by omega)).trans a1, a1'⟩, ⟨f2, (hn_ne (by omega)).trans a2, a2'⟩, (hn_ne (by omega)).trans a3, fun i hi => (hn_ne ?_).trans (a4 i hi), fun k hk => (hn_ne ?_).trans (a5 k hk)⟩, ⟨fun i hi => ?_, d2, d3, d4, ?_, fun a ha => (hn_ne ?_).trans (d6 a ?_)⟩, hd⟩, o⟩
  · have := d1 i hi; omega
  · obtain ⟨j, hj, e⟩ := d3 k hk; omega
  · have := d1 i hi; rw [hn_2]; omega
  · rw [hn_2]; omega
  · rw [hn_2] at ha; omega
  · rw [hn_2] at ha; omega
theorem CH.fresh (H : CH b n S C P D K Z tk G Y h) {a : Nat} {x : hm_E} (ha : h.1 a = some x) : a ≠ h.2 := fun e => by
  have := H.2.2.1.2.2.2.2.2 a (by omega)
  rw [ha] at this
  cases this
end CHS
/-- an int as a surface's number -/
def isf (n : Nat) (s : Int32) : Prop := 0 ≤ s.toInt ∧ s.toInt < n
theorem isf_nI {n : Nat} {s : Int32} (hn : n < 2 ^ 31) (h : isf n s) : ∃ k, k < n ∧ s = nI k := by
  refine ⟨s.toInt.toNat, by unfold isf at h; omega, ?_⟩
  apply Int32.toInt_inj.mp
  unfold isf at h
  rw [nI_toInt (by omega)]
  omega
theorem nI_isf {n k : Nat} (hn : n < 2 ^ 31) (hk : k < n) : isf n (nI k) := by
  unfold isf
  rw [nI_toInt (by omega)]
  omega
theorem i_lt0 {s : Int32} : s < 0 ↔ s.toInt < 0 := Int32.lt_iff_toInt_lt
theorem i_lt {s t : Int32} : s < t ↔ s.toInt < t.toInt := Int32.lt_iff_toInt_lt
theorem i_le {s t : Int32} : s ≤ t ↔ s.toInt ≤ t.toInt := Int32.le_iff_toInt_le
theorem p_surfaceAt {b n : Nat} {S C P : Nat → Nat} {D : Nat → Nat × Nat × Nat} {K : Nat → Nat × Nat × Nat × Nat} {Z : Nat → Int32 × Int32} {tk : Nat → Int32} {G Y : Nat → Nat → Int32} {h : hm_H} (H : CH b n S C P D K Z tk G Y h) (s : Int32) :
    (¬ isf n s → fX5_surfaceAt b s h = some (none, h)) ∧ (∀ k, k < n → s = nI k → fX5_surfaceAt b s h = some (some (S k), h)) := by
  obtain ⟨ho, ⟨⟨f1, a1, a1'⟩, -⟩, -, hd⟩ := H
  have hn := hd.1
  have e1 : hm_gi 5 1 h (some b) = some (nI n) := ob_gi ho.1 rfl
  have e2 : hm_gq 5 0 h (some b) = some (some (b + 1)) := ob_gq ho.1 rfl
  have tn : (nI n).toInt = n := nI_toInt (by omega)
  constructor
  · intro hs
    unfold isf at hs
    unfold fX5_surfaceAt
    by_cases q : s < 0
    · rw [if_pos q]
    · rw [if_neg q, e1, hb_s, if_pos (by rw [i_le, tn]; rw [i_lt0] at q; omega)]
  · rintro k hk rfl
    unfold fX5_surfaceAt
    have tk : (nI k).toInt = k := nI_toInt (by omega)
    rw [if_neg (nI_pos (by omega)), e1, hb_s, if_neg (by rw [i_le, tn, tk]; omega), e2, hb_s, qa_aq a1 (by omega) (by decide), hb_s, a1' k hk]
theorem p_isSide (s : Int32) (h : hm_H) : fX5_isSide s h = some (if 0 ≤ s.toInt ∧ s.toInt ≤ 64 then 1 else 0, h) := by
  have t64 : (64 : Int32).toInt = 64 := rfl
  unfold fX5_isSide
  simp only [i_lt, t64, Int32.toInt_zero]
  by_cases q : s.toInt < 0
  · rw [if_pos q, if_neg (by omega)]
  · rw [if_neg q]
    by_cases q2 : 64 < s.toInt
    · rw [if_pos q2, if_neg (by omega)]
    · rw [if_neg q2, if_pos (by omega)]
theorem p_isOperation (s : Int32) (h : hm_H) : fX5_isOperation s h = some (if 0 ≤ s.toInt ∧ s.toInt ≤ 15 then 1 else 0, h) := by
  have t64 : (15 : Int32).toInt = 15 := rfl
  unfold fX5_isOperation
  simp only [i_lt, t64, Int32.toInt_zero]
  by_cases q : s.toInt < 0
  · rw [if_pos q, if_neg (by omega)]
  · rw [if_neg q]
    by_cases q2 : 15 < s.toInt
    · rw [if_pos q2, if_neg (by omega)]
    · rw [if_neg q2, if_pos (by omega)]
/-- a number that fits a depth -/
def fit (d : Nat) (v : Int32) : Prop := 0 ≤ v.toInt ∧ v.toInt < ((2 ^ d : Nat) : Int)
theorem fit_nI {d : Nat} {v : Int32} (h : fit d v) : ∃ k, k < 2 ^ d ∧ v = nI k := by
  have := i_rng v
  unfold fit at h
  refine ⟨v.toInt.toNat, by omega, ?_⟩
  apply Int32.toInt_inj.mp
  rw [nI_toInt (by omega)]
  omega
theorem pw_d {d : Nat} (h : d = 1 ∨ d = 4 ∨ d = 8) : 1 ≤ 2 ^ d ∧ 2 ^ d ≤ 256 := by rcases h with rfl | rfl | rfl <;> decide
