section BRH
variable {m n : Nat} {ms dr : Int32} {F : Nat → Nat → Int32} {D : Nat → Nat × Nat × Nat} {K : Nat → Nat × Nat × Nat × Nat}
/-- the last pass -/
theorem m_bring3 {kt : Nat} (ht : kt < 8) (c : Int32) (f5 f6 f7 : Nat → Int32) : ∀ r j fu (F1 : Nat → Nat → Int32) h, j + r = 4096 → r < fu → MH m n ms dr F1 h → F1 6 = f6 → F1 7 = f7 → (∀ i, i < j → F1 5 (4096 * kt + i) = if f7 i = 0 then f5 (4096 * kt + i) else f6 i) → (∀ i, (i < 4096 * kt ∨ 4096 * kt + j ≤ i) → F1 5 i = f5 i) →
    ∃ (F2 : Nat → Nat → Int32) (h' : hm_H), hm_loop (fun _ _ _ _ _ => none) fX6_bring_270 fu (some m) (nI kt) c (nI j) h = some (c, h') ∧ MH m n ms dr F2 h' ∧ (∀ k, k ≠ 5 → F2 k = F1 k) ∧ (∀ i, i < 4096 → F2 5 (4096 * kt + i) = if f7 i = 0 then f5 (4096 * kt + i) else f6 i) ∧ (∀ i, (i < 4096 * kt ∨ 4096 * kt + 4096 ≤ i) → F2 5 i = f5 i) := by
  intro r
  induction r with
  | zero =>
    intro j fu F1 h hj hfu M e6 e7 I O
    obtain ⟨fu, rfl⟩ : ∃ q, fu = q + 1 := ⟨fu - 1, by omega⟩
    refine ⟨F1, h, ?_, M, fun _ _ => rfl, fun i hi => I i (by omega), fun i hi => O i (by omega)⟩
    rw [hm_loop_s, fX6_bring_270, if_pos (by rw [show (4096 : Int32) = nI 4096 from rfl]; exact nI_le (by omega) (by omega))]
  | succ r ih =>
    intro j fu F1 h hj hfu M e6 e7 I O
    obtain ⟨fu, rfl⟩ : ∃ q, fu = q + 1 := ⟨fu - 1, by omega⟩
    have ix : (4096 : Int32) * nI kt + nI j = nI (4096 * kt + j) := by rw [show (4096 : Int32) = nI 4096 from rfl, pk_mul, nI_add]
    obtain ⟨h1, e1, M1, -⟩ := M.si 5 (j := 4096 * kt + j) (if f7 j = 0 then f5 (4096 * kt + j) else f6 j) (by decide) (by show _ < 32768; omega)
    obtain ⟨F2, h', e', M', k', I', O'⟩ := ih (j + 1) fu _ h1 (by omega) (by omega) M1 (by rw [va_up_ne _ _ (by decide)]; exact e6) (by rw [va_up_ne _ _ (by decide)]; exact e7) (fun i hi => by
      rw [va_up_self]
      by_cases q : i = j
      · subst q; exact upd_s
      · rw [upd_n (by omega)]; exact I i (by omega)) (fun i hi => by rw [va_up_self, upd_n (by omega)]; exact O i (by omega))
    refine ⟨F2, h', ?_, M', fun k hk => by rw [k' k hk, va_up_ne _ _ hk], I', O'⟩
    rw [hm_loop_s, fX6_bring_270, if_neg (by rw [show (4096 : Int32) = nI 4096 from rfl]; exact nI_ge (by omega) (by omega)), M.q5, hb_s, M.q7, hb_s, M.zi (by omega), hb_s, e7]
    by_cases q : f7 j = 0
    · rw [if_pos q, hb_s, ix, M.ai 5 (by decide) (by show _ < 32768; omega), hb_s, O _ (by omega), fX6_bring_325]
      rw [if_pos q] at e1
      rw [e1, hb_s, nI_1]
      exact e'
    · rw [if_neg q, M.q6, hb_s, M.ai 6 (by decide) (by show j < 4096; omega), hb_s, e6, ix, fX6_bring_325]
      rw [if_neg q] at e1
      rw [e1, hb_s, nI_1]
      exact e'
theorem m_bring31 (R : MR n D K F) (hD : DK n D K) {kf kt way km w g : Nat} (hf : kf < n) (ht : kt < n) (hway : way ≤ 3) {one : Int32} (two : Int32) (hkm : way = 2 → km < n ∧ one = nI km) (x y u v : Int32) (hw : w ≤ 64) (hg : g ≤ 64) :
    ∀ r b fu (F1 : Nat → Nat → Int32) h, b + r = g → r < fu → MH m n ms dr F1 h → (∀ j, j ≠ 6 → j ≠ 7 → F1 j = F j) → brI F F1 D K kf kt way km w g one two x.toInt y.toInt u.toInt v.toInt b 0 →
    ∃ (F2 F3 : Nat → Nat → Int32) (h' : hm_H), hm_loop (fun _ _ _ _ _ _ _ _ _ _ _ _ _ _ _ => none) fX6_bring_31 fu (some m) (nI kf) x y (nI w) (nI g) (nI kt) u v (nI way) one two (nI (cq (inb y.toInt v.toInt (D kf).2.2 (K kt).2.1 (K kt).2.2.2) b * cq (inb x.toInt u.toInt (D kf).2.1 (K kt).1 (K kt).2.2.1) w)) (nI b) h = some (nI (cq (inb y.toInt v.toInt (D kf).2.2 (K kt).2.1 (K kt).2.2.2) g * cq (inb x.toInt u.toInt (D kf).2.1 (K kt).1 (K kt).2.2.1) w), h') ∧ MH m n ms dr F2 h' ∧ (∀ j, j ≠ 5 → j ≠ 6 → j ≠ 7 → F2 j = F j) ∧ brI F F3 D K kf kt way km w g one two x.toInt y.toInt u.toInt v.toInt g 0 ∧ (∀ i, i < 4096 → F2 5 (4096 * kt + i) = if F3 7 i = 0 then F 5 (4096 * kt + i) else F3 6 i) ∧ (∀ i, (i < 4096 * kt ∨ 4096 * kt + 4096 ≤ i) → F2 5 i = F 5 i) := by
  have hn := hD.1
  intro r
  induction r with
  | zero =>
    intro b fu F1 h hb hfu M hj I
    obtain ⟨fu, rfl⟩ : ∃ q, fu = q + 1 := ⟨fu - 1, by omega⟩
    have : b = g := by omega
    subst this
    obtain ⟨F2, h', e', M', k', I', O'⟩ := m_bring3 (ms := ms) (dr := dr) (m := m) (n := n) (kt := kt) (by omega) (nI (cq (inb y.toInt v.toInt (D kf).2.2 (K kt).2.1 (K kt).2.2.2) b * cq (inb x.toInt u.toInt (D kf).2.1 (K kt).1 (K kt).2.2.1) w)) (F 5) (F1 6) (F1 7) 4096 0 hm_fu F1 h (by omega) (by unfold hm_fu; omega) M rfl rfl (fun i hi => absurd hi (by omega)) (fun i hi => by rw [hj 5 (by decide) (by decide)])
    refine ⟨F2, F1, h', ?_, M', fun j p1 p2 p3 => by rw [k' j p1]; exact hj j p2 p3, I, I', O'⟩
    rw [hm_loop_s, fX6_bring_31, if_pos (nI_le (Nat.le_refl _) (by omega))]
    exact e'
  | succ r ih =>
    intro b fu F1 h hb hfu M hj I
    obtain ⟨fu, rfl⟩ : ∃ q, fu = q + 1 := ⟨fu - 1, by omega⟩
    obtain ⟨F2, h2, e2, M2, j2, I2⟩ := m_bring2 R hD hf ht hway two hkm x y u v hw hg (hm_loop (fun _ _ _ _ _ _ _ _ _ _ _ _ _ _ _ => none) fX6_bring_31 fu) (b := b) (by omega) (cq (inb y.toInt v.toInt (D kf).2.2 (K kt).2.1 (K kt).2.2.2) b * cq (inb x.toInt u.toInt (D kf).2.1 (K kt).1 (K kt).2.2.1) w) w 0 hm_fu F1 h (by omega) (by unfold hm_fu; omega) M hj I
    obtain ⟨F3, F4, h', e', M', j', I', g', O'⟩ := ih (b + 1) fu F2 h2 (by omega) (by omega) M2 j2 I2
    refine ⟨F3, F4, h', ?_, M', j', I', g', O'⟩
    rw [hm_loop_s, fX6_bring_31, if_neg (nI_ge (by omega) (by omega)), show (0 : Int32) = nI 0 from rfl]
    rw [show cq (inb x.toInt u.toInt (D kf).2.1 (K kt).1 (K kt).2.2.1) 0 = 0 from rfl, Nat.mul_zero, Nat.add_zero] at e2
    rw [e2, ← Nat.add_mul, ← cq_s]
    exact e'
/-- what bring answers and leaves -/
theorem m_bring {h : hm_H} (M : MH m n ms dr F h) (R : MR n D K F) (hD : DK n D K) {kf kt way km w g : Nat} (hf : kf < n) (ht : kt < n) (hway : way ≤ 3) {one : Int32} (two : Int32) (hkm : way = 2 → km < n ∧ one = nI km) (x y u v : Int32) (hw : w ≤ 64) (hg : g ≤ 64) :
    ∃ (F2 : Nat → Nat → Int32) (h' : hm_H), fX6_bring m (nI kf) x y (nI w) (nI g) (nI kt) u v (nI way) one two h = some (nI (cq (inb y.toInt v.toInt (D kf).2.2 (K kt).2.1 (K kt).2.2.2) g * cq (inb x.toInt u.toInt (D kf).2.1 (K kt).1 (K kt).2.2.1) w), h') ∧ MH m n ms dr F2 h' ∧ (∀ j, j ≠ 5 → j ≠ 6 → j ≠ 7 → F2 j = F j) ∧ (∀ i, (i < 4096 * kt ∨ 4096 * kt + 4096 ≤ i) → F2 5 i = F 5 i) ∧
      (∀ a b, a < w → b < g → inb x.toInt u.toInt (D kf).2.1 (K kt).1 (K kt).2.2.1 a = true → inb y.toInt v.toInt (D kf).2.2 (K kt).2.1 (K kt).2.2.2 b = true → F2 5 (4096 * kt + bat u.toInt v.toInt a b) = if bcm F D kf way km one x.toInt y.toInt a b = 0 then F 5 (4096 * kt + bat u.toInt v.toInt a b) else bfr F D kf kt way one two x.toInt y.toInt u.toInt v.toInt a b) ∧
      (∀ j, j < 4096 → (∀ a b, a < w → b < g → inb x.toInt u.toInt (D kf).2.1 (K kt).1 (K kt).2.2.1 a = true → inb y.toInt v.toInt (D kf).2.2 (K kt).2.1 (K kt).2.2.2 b = true → j ≠ bat u.toInt v.toInt a b) → F2 5 (4096 * kt + j) = F 5 (4096 * kt + j)) := by
  have hdt := hD.2 kt ht
  have clr : ∀ r j fu (F1 : Nat → Nat → Int32) h, j + r = 4096 → r < fu → MH m n ms dr F1 h → (∀ j, j ≠ 7 → F1 j = F j) → (∀ i, i < j → F1 7 i = 0) →
      ∃ (F2 : Nat → Nat → Int32) (h2 : hm_H), hm_loop (fun _ _ _ _ _ _ _ _ _ _ _ _ _ _ => none) fX6_bring_3 fu (some m) (nI kf) x y (nI w) (nI g) (nI kt) u v (nI way) one two (nI j) h = hm_loop (fun _ _ _ _ _ _ _ _ _ _ _ _ _ _ _ => none) fX6_bring_31 hm_fu (some m) (nI kf) x y (nI w) (nI g) (nI kt) u v (nI way) one two (nI 0) (nI 0) h2 ∧ MH m n ms dr F2 h2 ∧ (∀ j, j ≠ 7 → F2 j = F j) ∧ (∀ i, i < 4096 → F2 7 i = 0) := by
    intro r
    induction r with
    | zero =>
      intro j fu F1 h hj hfu M hk I
      obtain ⟨fu, rfl⟩ : ∃ q, fu = q + 1 := ⟨fu - 1, by omega⟩
      refine ⟨F1, h, ?_, M, hk, fun i hi => I i (by omega)⟩
      rw [hm_loop_s, fX6_bring_3, if_pos (by rw [show (4096 : Int32) = nI 4096 from rfl]; exact nI_le (by omega) (by omega))]
      rfl
    | succ r ih =>
      intro j fu F1 h hj hfu M hk I
      obtain ⟨fu, rfl⟩ : ∃ q, fu = q + 1 := ⟨fu - 1, by omega⟩
      obtain ⟨h1, e1, M1, -⟩ := M.zs (j := j) 0 (by omega)
      obtain ⟨F2, h2, e2, M2, k2, I2⟩ := ih (j + 1) fu _ h1 (by omega) (by omega) M1 (fun j' p => by rw [va_up_ne _ _ p]; exact hk j' p) (fun i hi => by
        rw [va_up_self]
        by_cases q : i = j
        · subst q; exact upd_s
        · rw [upd_n q]; exact I i (by omega))
      refine ⟨F2, h2, ?_, M2, k2, I2⟩
      rw [hm_loop_s, fX6_bring_3, if_neg (by rw [show (4096 : Int32) = nI 4096 from rfl]; exact nI_ge (by omega) (by omega)), M.q7, hb_s, show vp_nar .boolean (0 : Int32) = 0 from rfl, e1, hb_s, nI_1]
      exact e2
  obtain ⟨F1, h1, e1, M1, k1, I1⟩ := clr 4096 0 hm_fu F h (by omega) (by unfold hm_fu; omega) M (fun _ _ => rfl) (fun i hi => absurd hi (by omega))
  obtain ⟨F2, F3, h2, e2, M2, j2, I2, g2, O2⟩ := m_bring31 R hD hf ht hway two hkm x y u v hw hg g 0 hm_fu F1 h1 (by omega) (by unfold hm_fu; omega) M1 (fun j _ p => k1 j p) ⟨fun a b p1 p2 p3 p4 p5 => absurd p5 (by omega), fun j p1 _ => I1 j p1⟩
  refine ⟨F2, h2, ?_, M2, j2, O2, fun a b p1 p2 p3 p4 => ?_, fun j p1 p2 => ?_⟩
  · unfold fX6_bring
    rw [show (0 : Int32) = nI 0 from rfl, e1]
    rw [show cq (inb y.toInt v.toInt (D kf).2.2 (K kt).2.1 (K kt).2.2.2) 0 = 0 from rfl, Nat.zero_mul] at e2
    exact e2
  · have p3' := inb_t.mp p3
    have p4' := inb_t.mp p4
    have hb4 : bat u.toInt v.toInt a b < 4096 := by unfold bat; omega
    obtain ⟨c1, c2⟩ := I2.1 a b p1 p2 p3 p4 (by omega)
    rw [g2 _ hb4, c1, c2]
  · rw [g2 j p1, I2.2 j p1 (fun a b q1 q2 q3 q4 _ => p2 a b q1 q2 q3 q4), if_pos rfl]
end BRH
