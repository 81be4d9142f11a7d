/-! CLASS AND REFERENCE AGREE -/
def DR (n : Nat) (D : Nat → Nat × Nat × Nat) (G F : Nat → Nat → Int32) : Prop := ∀ i x y, i < n → x < (D i).2.1 → y < (D i).2.2 → G i (y * (D i).2.1 + x) = F 5 (4096 * i + 64 * y + x) ∧ ∃ v, v < 2 ^ (D i).1 ∧ F 5 (4096 * i + 64 * y + x) = nI v
def SR (Z : Nat → Int32 × Int32) (Y F : Nat → Nat → Int32) : Prop := ∀ k, k < 4 → ∃ z, z ≤ 5000 ∧ (Z k).1 = nI z ∧ F 8 k = nI z ∧ ∀ j, j < z → Y k j = F 9 (5000 * k + j) ∧ ∃ v, v < 256 ∧ F 9 (5000 * k + j) = nI v
def AG (b m : Nat) (hc hm : hm_H) : Prop := ∃ n S C P D K Z tk G Y ms dr F, CH b n S C P D K Z tk G Y hc ∧ MH m n ms dr F hm ∧ MR n D K F ∧ DR n D G F ∧ SR Z Y F
def AO (b m : Nat) (fc fm : hm_H → Option (Int32 × hm_H)) : Prop := ∀ hc hm, AG b m hc hm → ∃ r hc' hm', fc hc = some (r, hc') ∧ fm hm = some (r, hm') ∧ AG b m hc' hm'
theorem bif_t {q : Prop} [Decidable q] {h : hm_H} {f : Option (Int32 × hm_H)} (e : f = some (if q then 1 else 0, h)) (hq : q) : f = some (1, h) := by rw [e, if_pos hq]
theorem bif_f {q : Prop} [Decidable q] {h : hm_H} {f : Option (Int32 × hm_H)} (e : f = some (if q then 1 else 0, h)) (hq : ¬ q) : f = some (0, h) := by rw [e, if_neg hq]
theorem sm_i (x : Int32) : sm x.toInt := by have := i_rng x; unfold sm; omega
theorem sm_0 : sm 0 := by unfold sm; omega
section SFS
variable {b n : Nat} {S C P : Nat → Nat} {D : Nat → Nat × Nat × Nat} {K : Nat → Nat × Nat × Nat × Nat} {Z : Nat → Int32 × Int32} {tk : Nat → Int32} {G Y : Nat → Nat → Int32} {h : hm_H}
theorem CH.brc (H : CH b n S C P D K Z tk G Y h) : hm_rc 5 h (some b) = some b := ob_rc H.1.1
theorem CH.swq (H : CH b n S C P D K Z tk G Y h) {k : Nat} (hk : k < n) : hm_gq 3 2 h (some (S k)) = some (some (S k + 1)) := ob_gq (H.1.2.1 k hk).1 rfl
theorem CH.sdq (H : CH b n S C P D K Z tk G Y h) {k : Nat} (hk : k < n) : hm_gq 3 3 h (some (S k)) = some (some (S k + 2)) := ob_gq (H.1.2.1 k hk).1 rfl
theorem CH.scq (H : CH b n S C P D K Z tk G Y h) {k : Nat} (hk : k < n) : hm_gq 3 4 h (some (S k)) = some (some (C k)) := ob_gq (H.1.2.1 k hk).1 rfl
theorem CH.sdp (H : CH b n S C P D K Z tk G Y h) {k : Nat} (hk : k < n) : hm_gi 3 0 h (some (S k)) = some (nI (D k).1) := ob_gi (H.1.2.1 k hk).1 rfl
theorem CH.slg (H : CH b n S C P D K Z tk G Y h) {k : Nat} (hk : k < n) : hm_gi 3 1 h (some (S k)) = some (nI (2 ^ (D k).1 - 1)) := ob_gi (H.1.2.1 k hk).1 rfl
theorem CH.src (H : CH b n S C P D K Z tk G Y h) {k : Nat} (hk : k < n) : hm_rc 3 h (some (S k)) = some (S k) := ob_rc (H.1.2.1 k hk).1
theorem CH.war (H : CH b n S C P D K Z tk G Y h) {k : Nat} (hk : k < n) : ar h (S k + 1) 0 0 (D k).2.1 (D k).2.2 := (H.1.2.1 k hk).2.1
theorem CH.car (H : CH b n S C P D K Z tk G Y h) {k : Nat} (hk : k < n) : ar h (C k) (K k).1 (K k).2.1 (K k).2.2.1 (K k).2.2.2 := (H.1.2.1 k hk).2.2
theorem CH.dia (H : CH b n S C P D K Z tk G Y h) {k : Nat} (hk : k < n) : ia h (S k + 2) ((D k).2.1 * (D k).2.2) (G k) := H.2.1.2.2.2.1 k hk
theorem CH.dk (H : CH b n S C P D K Z tk G Y h) : DK n D K := H.2.2.2
theorem p_indexOf (H : CH b n S C P D K Z tk G Y h) {k : Nat} (hk : k < n) (x y : Int) : fX3_indexOf (S k) (iL x) (iL y) h = some (iI (y * (D k).2.1 + x), h) := by
  have hd := H.dk.2 k hk
  unfold fX3_indexOf
  rw [H.swq hk, hb_s, ar_w (H.war hk), hb_s, nI_L (by omega), iL_mul, iL_add, iL_I]
theorem idx_lt {w g x y : Nat} (hx : x < w) (hy : y < g) : y * w + x < w * g := by
  calc y * w + x < y * w + w := by omega
    _ = (y + 1) * w := by rw [Nat.add_mul, Nat.one_mul]
    _ ≤ g * w := Nat.mul_le_mul_right _ hy
    _ = w * g := Nat.mul_comm _ _
theorem wg_le {w g : Nat} (hw : w ≤ 64) (hg : g ≤ 64) : w * g ≤ 4096 := Nat.mul_le_mul hw hg
theorem p_fits (H : CH b n S C P D K Z tk G Y h) {k : Nat} (hk : k < n) (v : Int32) : (fit (D k).1 v → fX3_fits (S k) v h = some (1, h)) ∧ (¬ fit (D k).1 v → fX3_fits (S k) v h = some (0, h)) := by
  have hd := H.dk.2 k hk
  have pw := pw_d hd.1
  have tp : (nI (2 ^ (D k).1 - 1)).toInt = ((2 ^ (D k).1 - 1 : Nat) : Int) := nI_toInt (by omega)
  unfold fit fX3_fits
  simp only [H.slg hk, hb_s, i_lt, Int32.toInt_zero, tp]
  constructor
  · intro hv
    rw [if_neg (by omega), if_neg (by omega)]
  · intro hv
    by_cases q : v.toInt < 0
    · rw [if_pos q]
    · rw [if_neg q, if_pos (by omega)]
theorem p_inWhole (H : CH b n S C P D K Z tk G Y h) {k : Nat} (hk : k < n) {x y : Int} (hx : sm x) (hy : sm y) : fX0_holds (S k + 1) (iL x) (iL y) h = some (if 0 ≤ x ∧ x < (D k).2.1 ∧ 0 ≤ y ∧ y < (D k).2.2 then 1 else 0, h) := by
  have hd := H.dk.2 k hk
  rw [p_holds (H.war hk) sm_0 sm_0 (by omega) (by omega) hx hy]
  simp only [Int.zero_add]
theorem p_inClip (H : CH b n S C P D K Z tk G Y h) {k : Nat} (hk : k < n) {x y : Int} (hx : sm x) (hy : sm y) : fX0_holds (C k) (iL x) (iL y) h = some (if ((K k).1 : Int) ≤ x ∧ x < (K k).1 + (K k).2.2.1 ∧ ((K k).2.1 : Int) ≤ y ∧ y < (K k).2.1 + (K k).2.2.2 then 1 else 0, h) := by
  have hd := H.dk.2 k hk
  exact p_holds (H.car hk) (by unfold sm; omega) (by unfold sm; omega) (by omega) (by omega) hx hy
end SFS
theorem ag_get (b m : Nat) (s x y : Int32) : AO b m (fX5_get b s x y) (fX6_get m s x y) := by
  intro hc hm hAG
  have hAG0 := hAG
  obtain ⟨n, S, C, P, D, K, Z, tk, G, Y, ms, dr, F, H, M, R, hDR, hSR⟩ := hAG
  have hn := H.dk.1
  by_cases hs : isf n s
  · obtain ⟨k, hk, rfl⟩ := isf_nI (by omega) hs
    have hd := H.dk.2 k hk
    have hsc := (p_surfaceAt H (nI k)).2 k hk rfl
    have hsm := (m_isSurface M hn (nI k)).2 k hk rfl
    by_cases q : 0 ≤ x.toInt ∧ x.toInt < (D k).2.1 ∧ 0 ≤ y.toInt ∧ y.toInt < (D k).2.2
    · obtain ⟨q1, q2, q3, q4⟩ := q
      obtain ⟨x', ex⟩ := Int.eq_ofNat_of_zero_le q1
      obtain ⟨y', ey⟩ := Int.eq_ofNat_of_zero_le q3
      have hx' : x' < (D k).2.1 := by omega
      have hy' : y' < (D k).2.2 := by omega
      have hi := idx_lt hx' hy'
      have hw := wg_le hd.2.2.1 hd.2.2.2.2.1
      refine ⟨G k (y' * (D k).2.1 + x'), hc, hm, ?_, ?_, hAG0⟩
      · unfold fX5_get
        rw [H.brc, hb_s, hsc, hb2_s, if_neg (by simp), H.swq hk, hb_s, ar_rc (H.war hk), hb_s, i2L, i2L, bif_t (p_inWhole H hk (sm_i x) (sm_i y)) ⟨q1, q2, q3, q4⟩, hb2_s, if_neg (by decide), H.sdq hk, hb_s, H.src hk, hb_s, p_indexOf H hk, hb2_s, ex, ey,
          show ((y' : Int) * ((D k).2.1 : Int) + (x' : Int)) = ((y' * (D k).2.1 + x' : Nat) : Int) by push_cast; rfl, iI_nat, ia_ai (H.dia hk) hi (by omega), hb_s]
      · unfold fX6_get
        rw [M.rc, hb_s, hsm, hb2_s, if_neg (by decide), M.rc, hb_s, i2L, i2L, bif_t (m_isPlace M R H.dk hk (sm_i x) (sm_i y)) ⟨q1, q2, q3, q4⟩, hb2_s, if_neg (by decide), M.rc, hb_s, m_dot M R H.dk hk (sm_i x) (sm_i y), hb2_s, if_pos ⟨q1, q2, q3, q4⟩, ex, ey, (hDR k x' y' hk hx' hy').1]
        rfl
    · refine ⟨-1, hc, hm, ?_, ?_, hAG0⟩
      · unfold fX5_get
        rw [H.brc, hb_s, hsc, hb2_s, if_neg (by simp), H.swq hk, hb_s, ar_rc (H.war hk), hb_s, i2L, i2L, bif_f (p_inWhole H hk (sm_i x) (sm_i y)) q, hb2_s, if_pos rfl]
      · unfold fX6_get
        rw [M.rc, hb_s, hsm, hb2_s, if_neg (by decide), M.rc, hb_s, i2L, i2L, bif_f (m_isPlace M R H.dk hk (sm_i x) (sm_i y)) q, hb2_s, if_pos rfl]
  · refine ⟨-1, hc, hm, ?_, ?_, hAG0⟩
    · unfold fX5_get
      rw [H.brc, hb_s, (p_surfaceAt H s).1 hs, hb2_s, if_pos rfl]
    · unfold fX6_get
      rw [M.rc, hb_s, (m_isSurface M hn s).1 hs, hb2_s, if_pos rfl]
theorem ag_told (b m : Nat) (s w : Int32) : AO b m (fX5_told b s w) (fX6_told m s w) := by
  intro hc hm hAG
  have hAG0 := hAG
  obtain ⟨n, S, C, P, D, K, Z, tk, G, Y, ms, dr, F, H, M, R, hDR, hSR⟩ := hAG
  have hn := H.dk.1
  by_cases hs : isf n s
  · obtain ⟨k, hk, rfl⟩ := isf_nI (by omega) hs
    have hd := H.dk.2 k hk
    have hsc := (p_surfaceAt H (nI k)).2 k hk rfl
    have hsm := (m_isSurface M hn (nI k)).2 k hk rfl
    obtain ⟨r1, r2, r3, r4, r5, r6, r7⟩ := R.1 k hk
    have e1 := M.ai 1 (j := k) (by decide) (by show k < 8; omega)
    have e2 := M.ai 2 (j := k) (by decide) (by show k < 8; omega)
    have e3 := M.ai 3 (j := k) (by decide) (by show k < 8; omega)
    have e4 := M.ai 4 (j := 4 * k) (by decide) (by show _ < 32; omega)
    have e5 := M.ai 4 (j := 4 * k + 1) (by decide) (by show _ < 32; omega)
    have e6 := M.ai 4 (j := 4 * k + 2) (by decide) (by show _ < 32; omega)
    have e7 := M.ai 4 (j := 4 * k + 3) (by decide) (by show _ < 32; omega)
    rw [r1] at e1; rw [r2] at e2; rw [r3] at e3; rw [r4] at e4; rw [r5] at e5; rw [r6] at e6; rw [r7] at e7
    have f4 : (4 : Int32) * nI k = nI (4 * k) := pk_mul 4 k
    have a3 : nI (4 * k) + (3 : Int32) - (3 : Int32) = nI (4 * k) := by rw [show (3 : Int32) = nI 3 from rfl, nI_add, pk_sub (by omega)]; rfl
    have a4 : nI (4 * k) + (4 : Int32) - (3 : Int32) = nI (4 * k + 1) := by rw [show (3 : Int32) = nI 3 from rfl, show (4 : Int32) = nI 4 from rfl, nI_add, pk_sub (by omega)]; rfl
    have a5 : nI (4 * k) + (5 : Int32) - (3 : Int32) = nI (4 * k + 2) := by rw [show (3 : Int32) = nI 3 from rfl, show (5 : Int32) = nI 5 from rfl, nI_add, pk_sub (by omega)]; rfl
    have a6 : nI (4 * k) + (6 : Int32) - (3 : Int32) = nI (4 * k + 3) := by rw [show (3 : Int32) = nI 3 from rfl, show (6 : Int32) = nI 6 from rfl, nI_add, pk_sub (by omega)]; rfl
    have hcl := H.car hk
    have hwh := H.war hk
    have key : ∃ r, fX5_told b (nI k) w hc = some (r, hc) ∧ fX6_told m (nI k) w hm = some (r, hm) := by
      unfold fX5_told fX6_told
      simp only [H.brc, hb_s, hsc, hb2_s, M.rc, hsm, if_neg (show ¬ (some (S k) = none) by simp), if_neg (show ¬ (1 : Int32) = 0 by decide)]
      by_cases q0 : w = 0
      · subst q0
        exact ⟨nI (D k).1, by rw [if_pos rfl, H.sdp hk]; rfl, by rw [if_neg (by decide), if_pos (by decide), if_pos rfl, M.q1, hb_s, e1, hb_s]⟩
      · by_cases q1 : w = 1
        · subst q1
          exact ⟨nI (D k).2.1, by rw [if_neg (by decide), if_pos rfl, H.swq hk, hb_s, ar_w hwh, hb_s], by rw [if_neg (by decide), if_pos (by decide), if_neg (by decide), if_pos rfl, M.q2, hb_s, e2, hb_s]⟩
        · by_cases q2 : w = 2
          · subst q2
            exact ⟨nI (D k).2.2, by rw [if_neg (by decide), if_neg (by decide), if_pos rfl, H.swq hk, hb_s, ar_g hwh, hb_s], by rw [if_neg (by decide), if_pos (by decide), if_neg (by decide), if_neg (by decide), if_pos rfl, M.q3, hb_s, e3, hb_s]⟩
          · by_cases q3 : w = 3
            · subst q3
              exact ⟨nI (K k).1, by rw [if_neg (by decide), if_neg (by decide), if_neg (by decide), if_pos rfl, H.scq hk, hb_s, ar_l hcl, hb_s, iL_I, iI_nat], by rw [if_neg (by decide), if_pos (by decide), if_neg (by decide), if_neg (by decide), if_neg (by decide), M.q4, hb_s, f4, a3, e4, hb_s]⟩
            · by_cases q4 : w = 4
              · subst q4
                exact ⟨nI (K k).2.1, by rw [if_neg (by decide), if_neg (by decide), if_neg (by decide), if_neg (by decide), if_pos rfl, H.scq hk, hb_s, ar_t hcl, hb_s, iL_I, iI_nat], by rw [if_neg (by decide), if_pos (by decide), if_neg (by decide), if_neg (by decide), if_neg (by decide), M.q4, hb_s, f4, a4, e5, hb_s]⟩
              · by_cases q5 : w = 5
                · subst q5
                  exact ⟨nI (K k).2.2.1, by rw [if_neg (by decide), if_neg (by decide), if_neg (by decide), if_neg (by decide), if_neg (by decide), if_pos rfl, H.scq hk, hb_s, ar_w hcl, hb_s], by rw [if_neg (by decide), if_pos (by decide), if_neg (by decide), if_neg (by decide), if_neg (by decide), M.q4, hb_s, f4, a5, e6, hb_s]⟩
                · by_cases q6 : w = 6
                  · subst q6
                    exact ⟨nI (K k).2.2.2, by rw [if_neg (by decide), if_neg (by decide), if_neg (by decide), if_neg (by decide), if_neg (by decide), if_neg (by decide), if_pos rfl, H.scq hk, hb_s, ar_g hcl, hb_s], by rw [if_neg (by decide), if_pos (by decide), if_neg (by decide), if_neg (by decide), if_neg (by decide), M.q4, hb_s, f4, a6, e7, hb_s]⟩
                  · refine ⟨-1, by rw [if_neg q0, if_neg q1, if_neg q2, if_neg q3, if_neg q4, if_neg q5, if_neg q6], ?_⟩
                    by_cases z : w < 0
                    · rw [if_pos z]
                    · have n0 : w.toInt ≠ 0 := hm_neI q0
                      have n1 : w.toInt ≠ 1 := hm_neI q1
                      have n2 : w.toInt ≠ 2 := hm_neI q2
                      have n3 : w.toInt ≠ 3 := hm_neI q3
                      have n4 : w.toInt ≠ 4 := hm_neI q4
                      have n5 : w.toInt ≠ 5 := hm_neI q5
                      have n6 : w.toInt ≠ 6 := hm_neI q6
                      rw [if_neg z, if_neg]
                      rw [i_le, show (6 : Int32).toInt = 6 from rfl]
                      rw [i_lt0] at z
                      omega
    obtain ⟨r, g1, g2⟩ := key
    exact ⟨r, hc, hm, g1, g2, hAG0⟩
  · refine ⟨-1, hc, hm, ?_, ?_, hAG0⟩
    · unfold fX5_told
      rw [H.brc, hb_s, (p_surfaceAt H s).1 hs, hb2_s, if_pos rfl]
    · unfold fX6_told
      rw [M.rc, hb_s, (m_isSurface M hn s).1 hs, hb2_s, if_pos rfl]
