/-! check -/
theorem ix_of {w g j : Nat} (hj : j < w * g) : j % w < w ∧ j / w < g ∧ j = j / w * w + j % w := by
  have hw : 0 < w := Nat.pos_of_ne_zero (fun e => by subst e; omega)
  refine ⟨Nat.mod_lt _ hw, (Nat.div_lt_iff_lt_mul hw).mpr (by rw [Nat.mul_comm]; exact hj), ?_⟩
  rw [Nat.mul_comm]
  exact (Nat.div_add_mod j w).symm
theorem DR.at {n : Nat} {D : Nat → Nat × Nat × Nat} {G F : Nat → Nat → Int32} (H : DR n D G F) {i j : Nat} (hi : i < n) (hj : j < (D i).2.1 * (D i).2.2) : G i j = F 5 (4096 * i + 64 * (j / (D i).2.1) + j % (D i).2.1) ∧ ∃ v, v < 2 ^ (D i).1 ∧ G i j = nI v := by
  obtain ⟨h1, h2, h3⟩ := ix_of hj
  obtain ⟨e1, v, hv, e2⟩ := H i (j % (D i).2.1) (j / (D i).2.1) hi h1 h2
  rw [← h3] at e1
  exact ⟨e1, v, hv, e1.trans e2⟩
theorem nI_fit {d v : Nat} (hd : d = 1 ∨ d = 4 ∨ d = 8) (hv : v < 2 ^ d) : fit d (nI v) := by
  have := pw_d hd
  unfold fit
  rw [nI_toInt (by omega)]
  omega
section CKS
variable {b n : Nat} {S C P : Nat → Nat} {D : Nat → Nat × Nat × Nat} {K : Nat → Nat × Nat × Nat × Nat} {Z : Nat → Int32 × Int32} {tk : Nat → Int32} {G Y F : Nat → Nat → Int32} {h : hm_H}
theorem p_isSound (H : CH b n S C P D K Z tk G Y h) (hDR : DR n D G F) {k : Nat} (hk : k < n) : fX3_isSound (S k) h = some (1, h) := by
  have hd := H.dk.2 k hk
  have hwg := wg_le hd.2.2.1 hd.2.2.2.2.1
  have cr := H.car hk
  have wr := H.war hk
  have z0 : (0 : Int64) = iL 0 := rfl
  have fin : fX3_isSound_66 (some (S k)) 1 h = some (1, h) := by
    unfold fX3_isSound_66
    rw [if_neg (by decide), H.scq hk, hb_s, ar_l cr, hb_s, hb_s, ar_w cr, hb_s, H.swq hk, hb_s, ar_w wr, hb_s, nI_L (show (K k).2.2.1 < 2 ^ 31 by omega), nI_L (show (D k).2.1 < 2 ^ 31 by omega), iL_add, if_neg (by rw [lg_gt, iL_lt (by omega) (by omega)]; omega), hb_s, ar_t cr, hb_s, hb_s, ar_g cr, hb_s, hb_s, ar_g wr, hb_s, nI_L (show (K k).2.2.2 < 2 ^ 31 by omega), nI_L (show (D k).2.2 < 2 ^ 31 by omega), iL_add, if_neg (by rw [lg_gt, iL_lt (by omega) (by omega)]; omega)]
  have key : ∀ r j fu, j + r = (D k).2.1 * (D k).2.2 → r < fu → hm_loop (fun _ _ _ _ _ => none) fX3_isSound_10 fu (some (S k)) (some (S k + 2)) (nI ((D k).2.1 * (D k).2.2)) (nI j) h = some (1, h) := by
    intro r
    induction r with
    | zero =>
      intro j fu hj hfu
      obtain ⟨fu, rfl⟩ : ∃ q, fu = q + 1 := ⟨fu - 1, by omega⟩
      rw [hm_loop_s]
      unfold fX3_isSound_10
      rw [if_pos (nI_le (by omega) (by omega)), H.scq hk, hb_s, ar_l cr, hb_s, z0, if_neg (by rw [lg_lt, iL_lt (by omega) (by omega)]; omega), hb_s, ar_t cr, hb_s, if_neg (by rw [lg_lt, iL_lt (by omega) (by omega)]; omega)]
      exact fin
    | succ r ih =>
      intro j fu hj hfu
      obtain ⟨fu, rfl⟩ : ∃ q, fu = q + 1 := ⟨fu - 1, by omega⟩
      rw [hm_loop_s]
      unfold fX3_isSound_10
      obtain ⟨-, v, hv, ev⟩ := hDR.at hk (j := j) (by omega)
      rw [if_neg (nI_ge (by omega) (by omega)), ia_ai (H.dia hk) (by omega) (by omega), hb_s, H.src hk, hb_s, ev, (p_fits H hk _).1 (nI_fit hd.1 hv), hb2_s, if_neg (by decide), nI_1]
      exact ih (j + 1) fu (by omega) (by omega)
  unfold fX3_isSound
  rw [H.sdq hk, hb_s, ia_al (H.dia hk), hb_s]
  exact key ((D k).2.1 * (D k).2.2) 0 _ (by omega) (by unfold hm_fu; omega)
theorem p_check (H : CH b n S C P D K Z tk G Y h) (hDR : DR n D G F) : fX5_check b h = some (1, h) := by
  have hn := H.dk.1
  obtain ⟨f1, a1, a1'⟩ := H.2.1.1
  have e1 : hm_gi 5 1 h (some b) = some (nI n) := ob_gi H.1.1 rfl
  have e2 : hm_gq 5 0 h (some b) = some (some (b + 1)) := ob_gq H.1.1 rfl
  have key : ∀ r j fu, j + r = n → r < fu → hm_loop (fun _ _ _ => none) fX5_check_2 fu (some b) (nI j) h = some (1, h) := by
    intro r
    induction r with
    | zero =>
      intro j fu hj hfu
      obtain ⟨fu, rfl⟩ : ∃ q, fu = q + 1 := ⟨fu - 1, by omega⟩
      rw [hm_loop_s]
      unfold fX5_check_2
      rw [e1, hb_s, if_pos (nI_le (by omega) (by omega))]
    | succ r ih =>
      intro j fu hj hfu
      obtain ⟨fu, rfl⟩ : ∃ q, fu = q + 1 := ⟨fu - 1, by omega⟩
      rw [hm_loop_s]
      unfold fX5_check_2
      rw [e1, hb_s, if_neg (nI_ge (by omega) (by omega)), e2, hb_s, qa_aq a1 (by omega) (by decide), hb_s, a1' j (by omega), H.src (by omega), hb_s, p_isSound H hDR (by omega), hb2_s, if_neg (by decide), nI_1]
      exact ih (j + 1) fu (by omega) (by omega)
  unfold fX5_check
  exact key n 0 _ (by omega) (by unfold hm_fu; omega)
end CKS
theorem ag_check (b m : Nat) : AO b m (fX5_check b) (fX6_check m) := by
  intro hc hm hAG
  have hAG0 := hAG
  obtain ⟨n, S, C, P, D, K, Z, tk, G, Y, ms, dr, F, H, M, R, hDR, hSR⟩ := hAG
  exact ⟨1, hc, hm, p_check H hDR, rfl, hAG0⟩
/-! count -/
def cn (f : Nat → Int32) (v : Int32) : Nat → Nat
  | 0 => 0
  | j + 1 => cn f v j + if f j = v then 1 else 0
theorem cn_s (f : Nat → Int32) (v : Int32) (j : Nat) : cn f v (j + 1) = cn f v j + if f j = v then 1 else 0 := rfl
theorem m_dotIn {m n : Nat} {ms dr : Int32} {F : Nat → Nat → Int32} {h : hm_H} {D : Nat → Nat × Nat × Nat} {K : Nat → Nat × Nat × Nat × Nat} (M : MH m n ms dr F h) (R : MR n D K F) (hD : DK n D K) {k : Nat} (hk : k < n) {x y : Nat} (hx : x < (D k).2.1) (hy : y < (D k).2.2) : fX6_dot m (nI k) (iL x) (iL y) h = some (F 5 (4096 * k + 64 * y + x), h) := by
  have hd := hD.2 k hk
  rw [m_dot M R hD hk (by unfold sm; omega) (by unfold sm; omega), if_pos (by omega)]
  rfl
theorem ag_count (b m : Nat) (s v : Int32) : AO b m (fX5_count b s v) (fX6_count m s v) := by
  intro hc hm hAG
  have hAG0 := hAG
  obtain ⟨n, S, C, P, D, K, Z, tk, G, Y, ms, dr, F, H, M, R, hDR, hSR⟩ := hAG
  have hn := H.dk.1
  by_cases hs : isf n s
  · obtain ⟨k, hk, rfl⟩ := isf_nI (by omega) hs
    have hd := H.dk.2 k hk
    have hwg := wg_le hd.2.2.1 hd.2.2.2.2.1
    have hsc := (p_surfaceAt H (nI k)).2 k hk rfl
    have hsm := (m_isSurface M hn (nI k)).2 k hk rfl
    obtain ⟨-, r2, r3, -⟩ := R.1 k hk
    have e2 := M.ai 2 (j := k) (by decide) (by show k < 8; omega)
    have e3 := M.ai 3 (j := k) (by decide) (by show k < 8; omega)
    rw [r2] at e2
    rw [r3] at e3
    refine ⟨nI (cn (G k) v ((D k).2.1 * (D k).2.2)), hc, hm, ?_, ?_, hAG0⟩
    · have key : ∀ r j fu, j + r = (D k).2.1 * (D k).2.2 → r < fu → hm_loop (fun _ _ _ _ _ _ => none) fX5_count_29 fu v (nI (cn (G k) v j)) (some (S k + 2)) (nI ((D k).2.1 * (D k).2.2)) (nI j) hc = some (nI (cn (G k) v ((D k).2.1 * (D k).2.2)), hc) := by
        intro r
        induction r with
        | zero =>
          intro j fu hj hfu
          obtain ⟨fu, rfl⟩ : ∃ q, fu = q + 1 := ⟨fu - 1, by omega⟩
          rw [hm_loop_s]
          unfold fX5_count_29
          rw [if_pos (nI_le (by omega) (by omega)), show j = (D k).2.1 * (D k).2.2 by omega]
        | succ r ih =>
          intro j fu hj hfu
          obtain ⟨fu, rfl⟩ : ∃ q, fu = q + 1 := ⟨fu - 1, by omega⟩
          rw [hm_loop_s]
          rw [fX5_count_29, if_neg (nI_ge (by omega) (by omega)), ia_ai (H.dia hk) (by omega) (by omega), hb_s]
          have := ih (j + 1) fu (by omega) (by omega)
          rw [cn_s] at this
          by_cases q : G k j = v
          · rw [if_pos q, fX5_count_52, nI_1, nI_1]
            rw [if_pos q] at this
            exact this
          · rw [if_neg q, fX5_count_52, nI_1]
            rw [if_neg q] at this
            exact this
      unfold fX5_count
      rw [H.brc, hb_s, hsc, hb2_s, if_neg (by simp), H.sdq hk, hb_s, ia_al (H.dia hk), hb_s]
      exact key ((D k).2.1 * (D k).2.2) 0 _ (by omega) (by unfold hm_fu; omega)
    · have inner : ∀ (K15 : Option Nat → Int32 → Int32 → Int32 → Int32 → hm_H → Option (Int32 × hm_H)) (y : Nat), y < (D k).2.2 → ∀ r x fu, x + r = (D k).2.1 → r < fu → hm_loop (fun _ _ _ _ _ _ _ => none) (fX6_count_29 K15) fu (some m) (nI k) v (nI (cn (G k) v (y * (D k).2.1 + x))) (nI y) (nI x) hm = K15 (some m) (nI k) v (nI (cn (G k) v ((y + 1) * (D k).2.1))) (nI (y + 1)) hm := by
        intro K15 y hy r
        induction r with
        | zero =>
          intro x fu hx hfu
          obtain ⟨fu, rfl⟩ : ∃ q, fu = q + 1 := ⟨fu - 1, by omega⟩
          rw [hm_loop_s]
          unfold fX6_count_29
          rw [M.q2, hb_s, e2, hb_s, if_pos (nI_le (by omega) (by omega)), nI_1, show y * (D k).2.1 + x = (y + 1) * (D k).2.1 by rw [Nat.add_mul, Nat.one_mul]; omega]
        | succ r ih =>
          intro x fu hx hfu
          obtain ⟨fu, rfl⟩ : ∃ q, fu = q + 1 := ⟨fu - 1, by omega⟩
          rw [hm_loop_s]
          rw [fX6_count_29, M.q2, hb_s, e2, hb_s, if_neg (nI_ge (by omega) (by omega)), M.rc, hb_s, nI_L (show x < 2 ^ 31 by omega), nI_L (show y < 2 ^ 31 by omega), m_dotIn M R H.dk hk (by omega) hy, hb2_s]
          have := ih (x + 1) fu (by omega) (by omega)
          rw [show y * (D k).2.1 + (x + 1) = y * (D k).2.1 + x + 1 by omega] at this
          rw [cn_s, (hDR k x y hk (by omega) hy).1] at this
          by_cases q : F 5 (4096 * k + 64 * y + x) = v
          · rw [if_pos q, fX6_count_61, hlet_s, nI_1, nI_1]
            rw [if_pos q] at this
            exact this
          · rw [if_neg q, fX6_count_61, hlet_s, nI_1, show nI (cn (G k) v (y * (D k).2.1 + x)) + (0 : Int32) = nI (cn (G k) v (y * (D k).2.1 + x)) from nI_add _ 0]
            rw [if_neg q] at this
            exact this
      have outer : ∀ r y fu, y + r = (D k).2.2 → r < fu → hm_loop (fun _ _ _ _ _ _ => none) fX6_count_15 fu (some m) (nI k) v (nI (cn (G k) v (y * (D k).2.1))) (nI y) hm = some (nI (cn (G k) v ((D k).2.1 * (D k).2.2)), hm) := by
        intro r
        induction r with
        | zero =>
          intro y fu hy hfu
          obtain ⟨fu, rfl⟩ : ∃ q, fu = q + 1 := ⟨fu - 1, by omega⟩
          rw [hm_loop_s]
          unfold fX6_count_15
          rw [M.q3, hb_s, e3, hb_s, if_pos (nI_le (by omega) (by omega)), show y = (D k).2.2 by omega, Nat.mul_comm]
        | succ r ih =>
          intro y fu hy hfu
          obtain ⟨fu, rfl⟩ : ∃ q, fu = q + 1 := ⟨fu - 1, by omega⟩
          rw [hm_loop_s]
          rw [fX6_count_15, M.q3, hb_s, e3, hb_s, if_neg (nI_ge (by omega) (by omega))]
          have := inner (hm_loop (fun _ _ _ _ _ _ => none) fX6_count_15 fu) y (by omega) (D k).2.1 0 hm_fu (by omega) (by unfold hm_fu; omega)
          rw [Nat.add_zero] at this
          rw [show (0 : Int32) = nI 0 from rfl, this]
          exact ih (y + 1) fu (by omega) (by omega)
      unfold fX6_count
      rw [M.rc, hb_s, hsm, hb2_s, if_neg (by decide)]
      have := outer (D k).2.2 0 hm_fu (by omega) (by unfold hm_fu; omega)
      rw [Nat.zero_mul] at this
      exact this
  · refine ⟨-1, hc, hm, ?_, ?_, hAG0⟩
    · unfold fX5_count
      rw [H.brc, hb_s, (p_surfaceAt H s).1 hs, hb2_s, if_pos rfl]
    · unfold fX6_count
      rw [M.rc, hb_s, (m_isSurface M hn s).1 hs, hb2_s, if_pos rfl]
