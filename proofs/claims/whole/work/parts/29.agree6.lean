/-- the dots that turn leaves -/
def tnF (w g way : Nat) (o : Nat → Nat → Int32) (x y : Nat) : Int32 := if way = 0 then o (w - 1 - x) y else o x (g - 1 - y)
section MTN
variable {m n : Nat} {ms dr : Int32} {F : Nat → Nat → Int32} {h : hm_H} {D : Nat → Nat × Nat × Nat} {K : Nat → Nat × Nat × Nat × Nat}
theorem MR.keep5 (R : MR n D K F) {F' : Nat → Nat → Int32} (hj : ∀ j, j ≤ 5 → F' j = F j) : MR n D K F' := R.keep (hj 1 (by decide)) (hj 2 (by decide)) (hj 3 (by decide)) (hj 4 (by decide)) (fun i j _ _ _ => by rw [hj 5 (by decide)])
theorem m_turn (M : MH m n ms dr F h) (R : MR n D K F) (hD : DK n D K) {k way : Nat} (hk : k < n) (hway : way ≤ 1) : ∃ F' h', fX6_turn m (nI k) (nI way) h = some (1, h') ∧ MH m n ms dr F' h' ∧ (∀ j, j ≠ 5 → j ≠ 6 → F' j = F j) ∧ (∀ x y, x < (D k).2.1 → y < (D k).2.2 → F' 5 (4096 * k + 64 * y + x) = tnF (D k).2.1 (D k).2.2 way (fun x y => F 5 (4096 * k + 64 * y + x)) x y) ∧ (∀ i, (i < 4096 * k ∨ 4096 * k + 4096 ≤ i) → F' 5 i = F 5 i) := by
  have hd := hD.2 k hk
  have hn := hD.1
  obtain ⟨-, r2, r3, -⟩ := R.1 k hk
  have tf : ∀ {x y : Nat}, x < (D k).2.1 → y < (D k).2.2 → 64 * y + x < 4096 := fun {x y} _ _ => by omega
  -- the first pass
  have in1 : ∀ (K21 : Option Nat → Int32 → Int32 → Int32 → hm_H → Option (Int32 × hm_H)) (y : Nat), y < (D k).2.2 → ∀ r x fu (F1 : Nat → Nat → Int32) h, x + r = (D k).2.1 → r < fu → MH m n ms dr F1 h → (∀ j, j ≠ 6 → F1 j = F j) → (∀ x' y', x' < (D k).2.1 → y' < (D k).2.2 → (y' < y ∨ y' = y ∧ x' < x) → F1 6 (64 * y' + x') = tnF (D k).2.1 (D k).2.2 way (fun x y => F 5 (4096 * k + 64 * y + x)) x' y') → ∃ (F2 : Nat → Nat → Int32) (h' : hm_H), hm_loop (fun _ _ _ _ _ _ => none) (fX6_turn_34 K21) fu (some m) (nI k) (nI way) (nI y) (nI x) h = K21 (some m) (nI k) (nI way) (nI (y + 1)) h' ∧ MH m n ms dr F2 h' ∧ (∀ j, j ≠ 6 → F2 j = F j) ∧ (∀ x' y', x' < (D k).2.1 → y' < (D k).2.2 → y' < y + 1 → F2 6 (64 * y' + x') = tnF (D k).2.1 (D k).2.2 way (fun x y => F 5 (4096 * k + 64 * y + x)) x' y') := by
    intro K21 y hy r
    induction r with
    | zero =>
      intro x fu F1 h hx hfu M1 hj I
      obtain ⟨fu, rfl⟩ : ∃ q, fu = q + 1 := ⟨fu - 1, by omega⟩
      have e2 := M1.ai 2 (j := k) (by decide) (by show k < 8; omega)
      rw [hj 2 (by decide), r2] at e2
      refine ⟨F1, h, ?_, M1, hj, fun x' y' a1 a2 a3 => I x' y' a1 a2 (by omega)⟩
      rw [hm_loop_s, fX6_turn_34, M1.q2, hb_s, e2, hb_s, if_pos (nI_le (by omega) (by omega)), nI_1]
    | succ r ih =>
      intro x fu F1 h hx hfu M1 hj I
      obtain ⟨fu, rfl⟩ : ∃ q, fu = q + 1 := ⟨fu - 1, by omega⟩
      have R1 := R.keep5 (F' := F1) (fun j h9 => hj j (by omega))
      have e2 := M1.ai 2 (j := k) (by decide) (by show k < 8; omega)
      have e3 := M1.ai 3 (j := k) (by decide) (by show k < 8; omega)
      rw [hj 2 (by decide), r2] at e2
      rw [hj 3 (by decide), r3] at e3
      obtain ⟨h1, e1, M2, -⟩ := M1.si 6 (j := 64 * y + x) (tnF (D k).2.1 (D k).2.2 way (fun x y => F 5 (4096 * k + 64 * y + x)) x y) (by decide) (tf (by omega) hy)
      obtain ⟨F2, h', e', M', j', I'⟩ := ih (x + 1) fu _ h1 (by omega) (by omega) M2 (fun j h9 => by rw [va_up_ne _ _ h9]; exact hj j h9) (fun x' y' a1 a2 a3 => by
        rw [va_up_self]
        by_cases q : x' = x ∧ y' = y
        · obtain ⟨rfl, rfl⟩ := q
          exact upd_s
        · rw [upd_n (by omega)]
          exact I x' y' a1 a2 (by omega))
      refine ⟨F2, h', ?_, M', j', I'⟩
      have ix : (64 : Int32) * nI y + nI x = nI (64 * y + x) := by rw [show (64 : Int32) = nI 64 from rfl, pk_mul, nI_add]
      rw [hm_loop_s, fX6_turn_34, M1.q2, hb_s, e2, hb_s, if_neg (nI_ge (by omega) (by omega)), M1.q6, hb_s]
      by_cases q : way = 0
      · subst q
        have sb : nI (D k).2.1 - (1 : Int32) - nI x = nI ((D k).2.1 - 1 - x) := by
          rw [show (1 : Int32) = nI 1 from rfl, pk_sub (by omega), pk_sub (by omega)]
        rw [if_pos (show nI 0 = 0 from rfl), hb_s, e2, hb_s, M1.rc, hb_s, sb, nI_L (show (D k).2.1 - 1 - x < 2 ^ 31 by omega), nI_L (show y < 2 ^ 31 by omega), m_dotIn M1 R1 hD hk (by omega) hy, hb2_s, fX6_turn_101, ix]
        rw [show F1 5 = F 5 from hj 5 (by decide)]
        unfold tnF at e1
        rw [if_pos rfl] at e1
        rw [e1, hb_s, nI_1]
        exact e'
      · have w1 : way = 1 := by omega
        subst w1
        have sb : nI (D k).2.2 - (1 : Int32) - nI y = nI ((D k).2.2 - 1 - y) := by
          rw [show (1 : Int32) = nI 1 from rfl, pk_sub (by omega), pk_sub (by omega)]
        rw [if_neg (by decide), M1.q3, hb_s, e3, hb_s, M1.rc, hb_s, sb, nI_L (show (D k).2.2 - 1 - y < 2 ^ 31 by omega), nI_L (show x < 2 ^ 31 by omega), m_dotIn M1 R1 hD hk (by omega) (by omega), hb2_s, fX6_turn_101, ix]
        rw [show F1 5 = F 5 from hj 5 (by decide)]
        unfold tnF at e1
        rw [if_neg (by decide)] at e1
        rw [e1, hb_s, nI_1]
        exact e'
  -- the second pass
  have in2 : ∀ (K116 : Option Nat → Int32 → Int32 → hm_H → Option (Int32 × hm_H)) (f6 : Nat → Int32) (y : Nat), y < (D k).2.2 → ∀ r x fu (F1 : Nat → Nat → Int32) h, x + r = (D k).2.1 → r < fu → MH m n ms dr F1 h → (∀ j, j ≠ 5 → j ≠ 6 → F1 j = F j) → F1 6 = f6 → (∀ i, (i < 4096 * k ∨ 4096 * k + 4096 ≤ i) → F1 5 i = F 5 i) → (∀ x' y', x' < (D k).2.1 → y' < (D k).2.2 → (y' < y ∨ y' = y ∧ x' < x) → F1 5 (4096 * k + 64 * y' + x') = f6 (64 * y' + x')) → ∃ (F2 : Nat → Nat → Int32) (h' : hm_H), hm_loop (fun _ _ _ _ _ => none) (fX6_turn_129 K116) fu (some m) (nI k) (nI y) (nI x) h = K116 (some m) (nI k) (nI (y + 1)) h' ∧ MH m n ms dr F2 h' ∧ (∀ j, j ≠ 5 → j ≠ 6 → F2 j = F j) ∧ F2 6 = f6 ∧ (∀ i, (i < 4096 * k ∨ 4096 * k + 4096 ≤ i) → F2 5 i = F 5 i) ∧ (∀ x' y', x' < (D k).2.1 → y' < (D k).2.2 → y' < y + 1 → F2 5 (4096 * k + 64 * y' + x') = f6 (64 * y' + x')) := by
    intro K116 f6 y hy r
    induction r with
    | zero =>
      intro x fu F1 h hx hfu M1 hj h6 h5 I
      obtain ⟨fu, rfl⟩ : ∃ q, fu = q + 1 := ⟨fu - 1, by omega⟩
      have e2 := M1.ai 2 (j := k) (by decide) (by show k < 8; omega)
      rw [hj 2 (by decide) (by decide), r2] at e2
      refine ⟨F1, h, ?_, M1, hj, h6, h5, fun x' y' a1 a2 a3 => I x' y' a1 a2 (by omega)⟩
      rw [hm_loop_s, fX6_turn_129, M1.q2, hb_s, e2, hb_s, if_pos (nI_le (by omega) (by omega)), nI_1]
    | succ r ih =>
      intro x fu F1 h hx hfu M1 hj h6 h5 I
      obtain ⟨fu, rfl⟩ : ∃ q, fu = q + 1 := ⟨fu - 1, by omega⟩
      have e2 := M1.ai 2 (j := k) (by decide) (by show k < 8; omega)
      rw [hj 2 (by decide) (by decide), r2] at e2
      have e6 := M1.ai 6 (j := 64 * y + x) (by decide) (tf (by omega) hy)
      obtain ⟨h1, e1, M2, -⟩ := M1.si 5 (j := 4096 * k + 64 * y + x) (F1 6 (64 * y + x)) (by decide) (by show _ < 32768; omega)
      obtain ⟨F2, h', e', M', j', h6', h5', I'⟩ := ih (x + 1) fu _ h1 (by omega) (by omega) M2 (fun j h9 h8 => by rw [va_up_ne _ _ h9]; exact hj j h9 h8) (by rw [va_up_ne _ _ (by decide)]; exact h6) (fun i hi => by rw [va_up_self, upd_n (by omega)]; exact h5 i hi) (fun x' y' a1 a2 a3 => by
        rw [va_up_self]
        by_cases q : x' = x ∧ y' = y
        · obtain ⟨rfl, rfl⟩ := q
          rw [upd_s, h6]
        · rw [upd_n (by omega)]
          exact I x' y' a1 a2 (by omega))
      refine ⟨F2, h', ?_, M', j', h6', h5', I'⟩
      have ix : (64 : Int32) * nI y + nI x = nI (64 * y + x) := by rw [show (64 : Int32) = nI 64 from rfl, pk_mul, nI_add]
      have ix2 : (4096 : Int32) * nI k + (64 : Int32) * nI y + nI x = nI (4096 * k + 64 * y + x) := by rw [show (64 : Int32) = nI 64 from rfl, show (4096 : Int32) = nI 4096 from rfl, pk_mul, pk_mul, nI_add, nI_add]
      rw [hm_loop_s, fX6_turn_129, M1.q2, hb_s, e2, hb_s, if_neg (nI_ge (by omega) (by omega)), M1.q5, hb_s, M1.q6, hb_s, ix, e6, hb_s, ix2, e1, hb_s, nI_1]
      exact e'
  have out2 : ∀ (f6 : Nat → Int32) r y fu (F1 : Nat → Nat → Int32) h, y + r = (D k).2.2 → r < fu → MH m n ms dr F1 h → (∀ j, j ≠ 5 → j ≠ 6 → F1 j = F j) → F1 6 = f6 → (∀ i, (i < 4096 * k ∨ 4096 * k + 4096 ≤ i) → F1 5 i = F 5 i) → (∀ x' y', x' < (D k).2.1 → y' < (D k).2.2 → y' < y → F1 5 (4096 * k + 64 * y' + x') = f6 (64 * y' + x')) → ∃ (F2 : Nat → Nat → Int32) (h' : hm_H), hm_loop (fun _ _ _ _ => none) fX6_turn_116 fu (some m) (nI k) (nI y) h = some (1, h') ∧ MH m n ms dr F2 h' ∧ (∀ j, j ≠ 5 → j ≠ 6 → F2 j = F j) ∧ (∀ i, (i < 4096 * k ∨ 4096 * k + 4096 ≤ i) → F2 5 i = F 5 i) ∧ (∀ x' y', x' < (D k).2.1 → y' < (D k).2.2 → F2 5 (4096 * k + 64 * y' + x') = f6 (64 * y' + x')) := by
    intro f6 r
    induction r with
    | zero =>
      intro y fu F1 h hy hfu M1 hj h6 h5 I
      obtain ⟨fu, rfl⟩ : ∃ q, fu = q + 1 := ⟨fu - 1, by omega⟩
      have e3 := M1.ai 3 (j := k) (by decide) (by show k < 8; omega)
      rw [hj 3 (by decide) (by decide), r3] at e3
      refine ⟨F1, h, ?_, M1, hj, h5, fun x' y' a1 a2 => I x' y' a1 a2 (by omega)⟩
      rw [hm_loop_s, fX6_turn_116, M1.q3, hb_s, e3, hb_s, if_pos (nI_le (by omega) (by omega))]
    | succ r ih =>
      intro y fu F1 h hy hfu M1 hj h6 h5 I
      obtain ⟨fu, rfl⟩ : ∃ q, fu = q + 1 := ⟨fu - 1, by omega⟩
      have e3 := M1.ai 3 (j := k) (by decide) (by show k < 8; omega)
      rw [hj 3 (by decide) (by decide), r3] at e3
      obtain ⟨F2, h2, e2, M2, j2, h62, h52, I2⟩ := in2 (hm_loop (fun _ _ _ _ => none) fX6_turn_116 fu) f6 y (by omega) (D k).2.1 0 hm_fu F1 h (by omega) (by unfold hm_fu; omega) M1 hj h6 h5 (fun x' y' a1 a2 a3 => I x' y' a1 a2 (by omega))
      obtain ⟨F3, h3, e3', M3, j3, h53, I3⟩ := ih (y + 1) fu F2 h2 (by omega) (by omega) M2 j2 h62 h52 I2
      refine ⟨F3, h3, ?_, M3, j3, h53, I3⟩
      rw [hm_loop_s, fX6_turn_116, M1.q3, hb_s, e3, hb_s, if_neg (nI_ge (by omega) (by omega)), show (0 : Int32) = nI 0 from rfl, e2]
      exact e3'
  have out1 : ∀ r y fu (F1 : Nat → Nat → Int32) h, y + r = (D k).2.2 → r < fu → MH m n ms dr F1 h → (∀ j, j ≠ 6 → F1 j = F j) → (∀ x' y', x' < (D k).2.1 → y' < (D k).2.2 → y' < y → F1 6 (64 * y' + x') = tnF (D k).2.1 (D k).2.2 way (fun x y => F 5 (4096 * k + 64 * y + x)) x' y') → ∃ (F2 : Nat → Nat → Int32) (h' : hm_H), hm_loop (fun _ _ _ _ _ => none) fX6_turn_21 fu (some m) (nI k) (nI way) (nI y) h = some (1, h') ∧ MH m n ms dr F2 h' ∧ (∀ j, j ≠ 5 → j ≠ 6 → F2 j = F j) ∧ (∀ i, (i < 4096 * k ∨ 4096 * k + 4096 ≤ i) → F2 5 i = F 5 i) ∧ (∀ x' y', x' < (D k).2.1 → y' < (D k).2.2 → F2 5 (4096 * k + 64 * y' + x') = tnF (D k).2.1 (D k).2.2 way (fun x y => F 5 (4096 * k + 64 * y + x)) x' y') := by
    intro r
    induction r with
    | zero =>
      intro y fu F1 h hy hfu M1 hj I
      obtain ⟨fu, rfl⟩ : ∃ q, fu = q + 1 := ⟨fu - 1, by omega⟩
      have e3 := M1.ai 3 (j := k) (by decide) (by show k < 8; omega)
      rw [hj 3 (by decide), r3] at e3
      obtain ⟨F2, h2, e2, M2, j2, h52, I2⟩ := out2 (F1 6) (D k).2.2 0 hm_fu F1 h (by omega) (by unfold hm_fu; omega) M1 (fun j _ h9 => hj j h9) rfl (fun i _ => by rw [hj 5 (by decide)]) (fun x' y' _ _ a3 => absurd a3 (by omega))
      refine ⟨F2, h2, ?_, M2, j2, h52, fun x' y' a1 a2 => ?_⟩
      · rw [hm_loop_s, fX6_turn_21, M1.q3, hb_s, e3, hb_s, if_pos (nI_le (by omega) (by omega))]
        exact e2
      · rw [I2 x' y' a1 a2]
        exact I x' y' a1 a2 (by omega)
    | succ r ih =>
      intro y fu F1 h hy hfu M1 hj I
      obtain ⟨fu, rfl⟩ : ∃ q, fu = q + 1 := ⟨fu - 1, by omega⟩
      have e3 := M1.ai 3 (j := k) (by decide) (by show k < 8; omega)
      rw [hj 3 (by decide), r3] at e3
      obtain ⟨F2, h2, e2, M2, j2, I2⟩ := in1 (hm_loop (fun _ _ _ _ _ => none) fX6_turn_21 fu) y (by omega) (D k).2.1 0 hm_fu F1 h (by omega) (by unfold hm_fu; omega) M1 hj (fun x' y' a1 a2 a3 => I x' y' a1 a2 (by omega))
      obtain ⟨F3, h3, e3', M3, j3, h53, I3⟩ := ih (y + 1) fu F2 h2 (by omega) (by omega) M2 j2 I2
      refine ⟨F3, h3, ?_, M3, j3, h53, I3⟩
      rw [hm_loop_s, fX6_turn_21, M1.q3, hb_s, e3, hb_s, if_neg (nI_ge (by omega) (by omega)), show (0 : Int32) = nI 0 from rfl, e2]
      exact e3'
  obtain ⟨F2, h2, e2, M2, j2, h52, I2⟩ := out1 (D k).2.2 0 hm_fu F h (by omega) (by unfold hm_fu; omega) M (fun _ _ => rfl) (fun x' y' _ _ a3 => absurd a3 (by omega))
  refine ⟨F2, h2, ?_, M2, j2, I2, h52⟩
  unfold fX6_turn
  rw [M.rc, hb_s, (m_isSurface M hn (nI k)).2 k hk rfl, hb2_s, if_neg (by decide), if_neg (nI_pos (by omega)), if_pos (show nI way ≤ 1 from nI_le hway (by decide))]
  exact e2
end MTN
theorem ag_turn (b m : Nat) (s w : Int32) : AO b m (fX5_turn b s w) (fX6_turn m s w) := by
  intro hc hm hAG
  have hAG0 := hAG
  obtain ⟨n, S, C, P, D, K, Z, tk, G, Y, ms, dr, F, H, M, R, hDR, hSR⟩ := hAG
  have hn := H.dk.1
  have t1 : (1 : Int32).toInt = 1 := rfl
  by_cases hs : isf n s
  · obtain ⟨k, hk, rfl⟩ := isf_nI (by omega) hs
    have hd := H.dk.2 k hk
    have hsc := (p_surfaceAt H (nI k)).2 k hk rfl
    have hsm := (m_isSurface M hn (nI k)).2 k hk rfl
    by_cases qw : 0 ≤ w.toInt ∧ w.toInt ≤ 1
    · obtain ⟨way, rfl, ew⟩ := i_nat qw.1
      obtain ⟨F', hm', em, M', Fj, F5, F5o⟩ := m_turn M R H.dk hk (way := way) (by omega)
      have kc : ∃ f hc', fX5_turn b (nI k) (nI way) hc = some (1, hc') ∧ CH b n S C P D K Z tk (va_up G k f) Y hc' ∧ ∀ x y, x < (D k).2.1 → y < (D k).2.2 → f (y * (D k).2.1 + x) = tnF (D k).2.1 (D k).2.2 way (fun x y => G k (y * (D k).2.1 + x)) x y := by
        by_cases q : way = 0
        · subst q
          obtain ⟨f, hc', e, H', I⟩ := p_lr hk H
          refine ⟨f, hc', ?_, H', fun x y hx hy => ?_⟩
          · unfold fX5_turn
            rw [H.brc, hb_s, hsc, hb2_s, if_neg (by simp), if_neg (by decide), if_pos (by decide), if_pos (by decide), H.src hk, hb_s, e, hb_s]
          · rw [I x y hx hy]; unfold tnF; rw [if_pos rfl]
        · have w1 : way = 1 := by omega
          subst w1
          obtain ⟨f, hc', e, H', I⟩ := p_tb hk H
          refine ⟨f, hc', ?_, H', fun x y hx hy => ?_⟩
          · unfold fX5_turn
            rw [H.brc, hb_s, hsc, hb2_s, if_neg (by simp), if_neg (by decide), if_pos (by decide), if_neg (by decide), H.src hk, hb_s, e, hb_s]
          · rw [I x y hx hy]; unfold tnF; rw [if_neg (by decide)]
      obtain ⟨f, hc', ec, H', I⟩ := kc
      refine ⟨1, hc', hm', ec, em, n, S, C, P, D, K, Z, tk, _, Y, ms, dr, F', H', M', R.keep (Fj 1 (by decide) (by decide)) (Fj 2 (by decide) (by decide)) (Fj 3 (by decide) (by decide)) (Fj 4 (by decide) (by decide)) (fun i j a1 a2 a3 => F5o _ (by omega)), fun i x y hi hx hy => ?_, hSR.keep (Fj 8 (by decide) (by decide)) (Fj 9 (by decide) (by decide))⟩
      by_cases e : i = k
      · subst e
        rw [va_up_self, I x y hx hy, F5 x y hx hy]
        unfold tnF
        by_cases q : way = 0
        · rw [if_pos q, if_pos q]
          exact hDR i ((D i).2.1 - 1 - x) y hi (by omega) hy
        · rw [if_neg q, if_neg q]
          exact hDR i x ((D i).2.2 - 1 - y) hi hx (by omega)
      · have hdi := H.dk.2 i hi
        rw [va_up_ne _ _ e, F5o _ (by omega)]
        exact hDR i x y hi hx hy
    · refine ⟨0, hc, hm, ?_, ?_, hAG0⟩
      · unfold fX5_turn
        rw [H.brc, hb_s, hsc, hb2_s, if_neg (by simp)]
        by_cases q : w < 0
        · rw [if_pos q]
        · rw [if_neg q, if_neg (by rw [i_le, t1]; rw [i_lt0] at q; omega)]
      · unfold fX6_turn
        rw [M.rc, hb_s, hsm, hb2_s, if_neg (by decide)]
        by_cases q : w < 0
        · rw [if_pos q]
        · rw [if_neg q, if_neg (by rw [i_le, t1]; rw [i_lt0] at q; omega)]
  · refine ⟨0, hc, hm, ?_, ?_, hAG0⟩
    · unfold fX5_turn
      rw [H.brc, hb_s, (p_surfaceAt H s).1 hs, hb2_s, if_pos rfl]
    · unfold fX6_turn
      rw [M.rc, hb_s, (m_isSurface M hn s).1 hs, hb2_s, if_pos rfl]
