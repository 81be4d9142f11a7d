/-! targets, in the words of both -/
theorem cq_int {p : Nat → Bool} {lo hi : Int} (hp : ∀ a : Nat, p a = true ↔ lo ≤ a ∧ (a : Int) < hi) (N : Nat) : cq p N = (min (N : Int) hi - max 0 lo).toNat := by
  induction N with
  | zero =>
    show 0 = _
    omega
  | succ N ih =>
    rw [cq_s, ih]
    by_cases q : p N = true
    · have := (hp N).mp q
      rw [q]
      simp only [Bool.toNat_true]
      omega
    · have h1 : ¬ (lo ≤ N ∧ (N : Int) < hi) := fun z => q ((hp N).mpr z)
      have h2 : p N = false := by cases z : p N with | true => exact absurd z q | false => rfl
      rw [h2]
      simp only [Bool.toNat_false]
      omega
theorem tg_cq (x u : Int) (W c cw w : Nat) : cq (inb x u W c cw) w = (tgX x u W c cw w).2.toNat := by
  rw [cq_int (lo := max (-x) (c - u)) (hi := min (W - x) (c + cw - u)) (fun a => by rw [inb_t]; omega)]
  unfold tgX
  simp only
  omega
theorem tg_in {x u : Int} {W c cw w a : Nat} (ha : a < w) : inb x u W c cw a = true ↔ (tgX x u W c cw w).1 ≤ u + a ∧ u + a < (tgX x u W c cw w).1 + (tgX x u W c cw w).2 := by
  rw [inb_t]
  unfold tgX
  simp only
  omega
theorem tg_of {x u p : Int} {W c cw w : Nat} (h1 : (tgX x u W c cw w).1 ≤ p) (h2 : p < (tgX x u W c cw w).1 + (tgX x u W c cw w).2) : ∃ a : Nat, a < w ∧ p = u + a ∧ inb x u W c cw a = true := by
  unfold tgX at h1 h2
  simp only at h1 h2
  refine ⟨(p - u).toNat, by omega, by omega, ?_⟩
  rw [inb_t]
  omega
theorem tg_bd {x u : Int} {W c cw w : Nat} (h : 0 < (tgX x u W c cw w).2) : (c : Int) ≤ (tgX x u W c cw w).1 ∧ (tgX x u W c cw w).1 + (tgX x u W c cw w).2 ≤ c + cw ∧ 0 ≤ (tgX x u W c cw w).1 + -(u - x) ∧ (tgX x u W c cw w).1 + -(u - x) + (tgX x u W c cw w).2 ≤ W := by
  unfold tgX at h ⊢
  simp only at h ⊢
  omega
section TGS
variable {n : Nat} {D : Nat → Nat × Nat × Nat} {K : Nat → Nat × Nat × Nat × Nat}
/-- all about a target -/
theorem tg_all (hD : DK n D K) {kf kt : Nat} (hf : kf < n) (ht : kt < n) (x y u v : Int) {w g : Nat} (hw : w ≤ 64) (hg : g ≤ 64) : ∃ l t tw tg : Nat, tgR x y u v (D kf).2.1 (D kf).2.2 (K kt).1 (K kt).2.1 (K kt).2.2.1 (K kt).2.2.2 w g = ((l : Int), (t : Int), tw, tg) ∧ l + tw ≤ (D kt).2.1 ∧ t + tg ≤ (D kt).2.2 ∧ tw ≤ 64 ∧ tg ≤ 64 ∧
    cq (inb y v (D kf).2.2 (K kt).2.1 (K kt).2.2.2) g * cq (inb x u (D kf).2.1 (K kt).1 (K kt).2.2.1) w = tw * tg ∧
    (0 < tg → ∃ sl st : Nat, (l : Int) + -(u - x) = sl ∧ (t : Int) + -(v - y) = st ∧ sl + tw ≤ (D kf).2.1 ∧ st + tg ≤ (D kf).2.2) ∧
    (∀ a b, a < w → b < g → inb x u (D kf).2.1 (K kt).1 (K kt).2.2.1 a = true → inb y v (D kf).2.2 (K kt).2.1 (K kt).2.2.2 b = true → (l : Int) ≤ u + a ∧ u + a < l + tw ∧ (t : Int) ≤ v + b ∧ v + b < t + tg) ∧
    (∀ p q : Nat, l ≤ p → p < l + tw → t ≤ q → q < t + tg → ∃ a b, a < w ∧ b < g ∧ inb x u (D kf).2.1 (K kt).1 (K kt).2.2.1 a = true ∧ inb y v (D kf).2.2 (K kt).2.1 (K kt).2.2.2 b = true ∧ (p : Int) = u + a ∧ (q : Int) = v + b) := by
  have hdt := hD.2 kt ht
  have hdf := hD.2 kf hf
  have c1 := tg_cq x u (D kf).2.1 (K kt).1 (K kt).2.2.1 w
  have c2 := tg_cq y v (D kf).2.2 (K kt).2.1 (K kt).2.2.2 g
  unfold tgR
  by_cases q : (tgX x u (D kf).2.1 (K kt).1 (K kt).2.2.1 w).2 ≤ 0 ∨ (tgX y v (D kf).2.2 (K kt).2.1 (K kt).2.2.2 g).2 ≤ 0
  · rw [if_pos q]
    refine ⟨0, 0, 0, 0, rfl, by omega, by omega, by omega, by omega, ?_, fun z => absurd z (by omega), fun a b p1 p2 p3 p4 => ?_, fun p q' h1 h2 => absurd h2 (by omega)⟩
    · rw [c1, c2]
      rcases q with q | q
      · rw [show (tgX x u (D kf).2.1 (K kt).1 (K kt).2.2.1 w).2.toNat = 0 by omega, Nat.mul_zero]
      · rw [show (tgX y v (D kf).2.2 (K kt).2.1 (K kt).2.2.2 g).2.toNat = 0 by omega, Nat.zero_mul]
    · have e1 := (tg_in p1).mp p3
      have e2 := (tg_in p2).mp p4
      omega
  · rw [if_neg q]
    have b1 := tg_bd (x := x) (u := u) (W := (D kf).2.1) (c := (K kt).1) (cw := (K kt).2.2.1) (w := w) (by omega)
    have b2 := tg_bd (x := y) (u := v) (W := (D kf).2.2) (c := (K kt).2.1) (cw := (K kt).2.2.2) (w := g) (by omega)
    generalize hX : tgX x u (D kf).2.1 (K kt).1 (K kt).2.2.1 w = X at *
    generalize hY : tgX y v (D kf).2.2 (K kt).2.1 (K kt).2.2.2 g = Y at *
    refine ⟨X.1.toNat, Y.1.toNat, X.2.toNat, Y.2.toNat, ?_, by omega, by omega, by omega, by omega, by rw [c1, c2, Nat.mul_comm], fun _ => ⟨(X.1 + -(u - x)).toNat, (Y.1 + -(v - y)).toNat, by omega, by omega, by omega, by omega⟩, fun a b p1 p2 p3 p4 => ?_, fun p q' h1 h2 h3 h4 => ?_⟩
    · rw [show ((X.1.toNat : Nat) : Int) = X.1 by omega, show ((Y.1.toNat : Nat) : Int) = Y.1 by omega]
    · have e1 := (tg_in p1).mp p3
      have e2 := (tg_in p2).mp p4
      rw [hX] at e1
      rw [hY] at e2
      omega
    · obtain ⟨a, ha, ea, ga⟩ := tg_of (x := x) (u := u) (p := p) (W := (D kf).2.1) (c := (K kt).1) (cw := (K kt).2.2.1) (w := w) (by rw [hX]; omega) (by rw [hX]; omega)
      obtain ⟨b, hb, eb, gb⟩ := tg_of (x := y) (u := v) (p := q') (W := (D kf).2.2) (c := (K kt).2.1) (cw := (K kt).2.2.2) (w := g) (by rw [hY]; omega) (by rw [hY]; omega)
      exact ⟨a, b, ha, hb, ga, gb, ea, eb⟩
/-- the two pictures agree again -/
theorem blit_DR {G F F2 : Nat → Nat → Int32} (hDR : DR n D G F) (hD : DK n D K) {kf kt way km : Nat} (hf : kf < n) (ht : kt < n) {one two : Int32} {x y u v : Int} {w g l t tw tg : Nat} {f : Nat → Int32} {NV : Nat → Nat → Int32}
    (inT : ∀ a b, a < w → b < g → inb x u (D kf).2.1 (K kt).1 (K kt).2.2.1 a = true → inb y v (D kf).2.2 (K kt).2.1 (K kt).2.2.2 b = true → (l : Int) ≤ u + a ∧ u + a < l + tw ∧ (t : Int) ≤ v + b ∧ v + b < t + tg)
    (ofT : ∀ p q : Nat, l ≤ p → p < l + tw → t ≤ q → q < t + tg → ∃ a b, a < w ∧ b < g ∧ inb x u (D kf).2.1 (K kt).1 (K kt).2.2.1 a = true ∧ inb y v (D kf).2.2 (K kt).2.1 (K kt).2.2.2 b = true ∧ (p : Int) = u + a ∧ (q : Int) = v + b)
    (cf : ∀ p q, p < (D kt).2.1 → q < (D kt).2.2 → f (q * (D kt).2.1 + p) = if l ≤ p ∧ p < l + tw ∧ t ≤ q ∧ q < t + tg then NV p q else G kt (q * (D kt).2.1 + p))
    (m1 : ∀ a b, a < w → b < g → inb x u (D kf).2.1 (K kt).1 (K kt).2.2.1 a = true → inb y v (D kf).2.2 (K kt).2.1 (K kt).2.2.2 b = true → F2 5 (4096 * kt + bat u v a b) = if bcm F D kf way km one x y a b = 0 then F 5 (4096 * kt + bat u v a b) else bfr F D kf kt way one two x y u v a b)
    (m2 : ∀ j, j < 4096 → (∀ a b, a < w → b < g → inb x u (D kf).2.1 (K kt).1 (K kt).2.2.1 a = true → inb y v (D kf).2.2 (K kt).2.1 (K kt).2.2.2 b = true → j ≠ bat u v a b) → F2 5 (4096 * kt + j) = F 5 (4096 * kt + j))
    (m3 : ∀ i, (i < 4096 * kt ∨ 4096 * kt + 4096 ≤ i) → F2 5 i = F 5 i)
    (key : ∀ a b p q : Nat, a < w → b < g → inb x u (D kf).2.1 (K kt).1 (K kt).2.2.1 a = true → inb y v (D kf).2.2 (K kt).2.1 (K kt).2.2.2 b = true → (p : Int) = u + a → (q : Int) = v + b → p < (D kt).2.1 → q < (D kt).2.2 → NV p q = (if bcm F D kf way km one x y a b = 0 then F 5 (4096 * kt + bat u v a b) else bfr F D kf kt way one two x y u v a b) ∧ ∃ r, r < 2 ^ (D kt).1 ∧ NV p q = nI r) :
    DR n D (va_up G kt f) F2 := by
  intro i p q hi hp hq
  have hdt := hD.2 kt ht
  have hdi := hD.2 i hi
  by_cases e : i = kt
  · subst e
    rw [va_up_self, cf p q hp hq]
    by_cases qT : l ≤ p ∧ p < l + tw ∧ t ≤ q ∧ q < t + tg
    · rw [if_pos qT]
      obtain ⟨a, b, ha, hb, ga, gb, ea, eb⟩ := ofT p q qT.1 qT.2.1 qT.2.2.1 qT.2.2.2
      obtain ⟨k1, r, hr, k2⟩ := key a b p q ha hb ga gb ea eb hp hq
      have eb2 : bat u v a b = 64 * q + p := by unfold bat; omega
      have mm := m1 a b ha hb ga gb
      rw [eb2, show 4096 * i + (64 * q + p) = 4096 * i + 64 * q + p by omega] at mm
      rw [eb2, show 4096 * i + (64 * q + p) = 4096 * i + 64 * q + p by omega] at k1
      rw [mm, ← k1]
      exact ⟨rfl, r, hr, k2⟩
    · rw [if_neg qT, show 4096 * i + 64 * q + p = 4096 * i + (64 * q + p) by omega, m2 (64 * q + p) (by omega) (fun a b ha hb ga gb ee => ?_)]
      · rw [show 4096 * i + (64 * q + p) = 4096 * i + 64 * q + p by omega]
        exact hDR i p q hi hp hq
      · have ii := inT a b ha hb ga gb
        have ga' := inb_t.mp ga
        have gb' := inb_t.mp gb
        unfold bat at ee
        omega
  · rw [va_up_ne _ _ e, m3 _ (by omega)]
    exact hDR i p q hi hp hq
end TGS
