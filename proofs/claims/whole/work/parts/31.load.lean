/-! load -/
def cbB (x : Int64) (i : Nat) : Int32 := ((x.toUInt64 >>> (((8 : Int32) * nI i).toInt64.toUInt64 &&& Int64.toUInt64 63)).toInt64).toInt32 &&& 255
def mbB (x : Int64) (i : Nat) : Int32 := (x >>> (((8 : Int32) * nI i).toInt64 &&& 63)).toInt32 &&& 255
theorem idx_s (r : Nat) : nI (r + 1) - (1 : Int32) = nI r := nI_pred r
theorem idx_d (r : Nat) : nI r + (-1 : Int32) = nI r - 1 := (Int32.sub_eq_add_neg _ _).symm
section LDS
variable {b n : Nat} {S C P : Nat → Nat} {D : Nat → Nat × Nat × Nat} {K : Nat → Nat × Nat × Nat × Nat} {tk : Nat → Int32} {G : Nat → Nat → Int32}
theorem p_load {k : Nat} (hk : k < 4) (x : Int64) : ∀ r fu z (Z : Nat → Int32 × Int32) (Y : Nat → Nat → Int32) h, r < fu → z + r ≤ 5000 → CH b n S C P D K Z tk G Y h → (Z k).1 = nI z → ∃ h' Z' Y', hm_loop (fun _ _ _ _ => none) fX5_load_47 fu x (some (P k)) (nI r - 1) h = some (nI (z + r), h') ∧ CH b n S C P D K Z' tk G Y' h' ∧ (Z' k).1 = nI (z + r) ∧ (∀ j, j ≠ k → Z' j = Z j ∧ Y' j = Y j) ∧ (∀ j, j < z → Y' k j = Y k j) ∧ ∀ t, t < r → Y' k (z + t) = cbB x (r - 1 - t) := by
  intro r
  induction r with
  | zero =>
    intro fu z Z Y h hfu hz H e
    obtain ⟨fu, rfl⟩ : ∃ q, fu = q + 1 := ⟨fu - 1, by omega⟩
    refine ⟨h, Z, Y, ?_, H, e, fun _ _ => ⟨rfl, rfl⟩, fun _ _ => rfl, fun t ht => absurd ht (by omega)⟩
    rw [hm_loop_s, fX5_load_47, if_pos (by decide), H.gsz (by omega), hb_s, e]
    rfl
  | succ r ih =>
    intro fu z Z Y h hfu hz H e
    obtain ⟨fu, rfl⟩ : ∃ q, fu = q + 1 := ⟨fu - 1, by omega⟩
    obtain ⟨h1, e1, H1⟩ := p_append H (k := k) (by omega) e (by omega) (cbB x r)
    obtain ⟨h', Z', Y', e', H', z', o', l', t'⟩ := ih fu (z + 1) _ _ h1 (by omega) (by omega) H1 (by rw [va_up_self])
    refine ⟨h', Z', Y', ?_, H', by rw [z']; congr 1; omega, fun j hj => ?_, fun j hj => ?_, fun t ht => ?_⟩
    · rw [hm_loop_s, fX5_load_47, idx_s, if_neg (nI_pos (by omega)), H.prc (by omega), hb_s]
      show hm_b (fX2_append (P k) (cbB x r) h) _ = _
      rw [e1, hb_s, idx_d, e']
      congr 3
      omega
    · have := o' j hj
      rw [va_up_ne _ _ hj, va_up_ne _ _ hj] at this
      exact this
    · rw [l' j (by omega), va_up_self, upd_n (by omega)]
    · by_cases q : t = 0
      · subst q
        rw [Nat.add_zero, l' z (by omega), va_up_self, upd_s]
        rfl
      · have := t' (t - 1) (by omega)
        rw [show z + 1 + (t - 1) = z + t by omega, show r - 1 - (t - 1) = r + 1 - 1 - t by omega] at this
        exact this
end LDS
theorem m_load {m n : Nat} {ms dr : Int32} {k : Nat} (hk : k < 4) (x : Int64) : ∀ r fu z (F : Nat → Nat → Int32) h, r < fu → z + r ≤ 5000 → MH m n ms dr F h → F 8 k = nI z → ∃ h' F', hm_loop (fun _ _ _ _ _ => none) fX6_load_44 fu (some m) (nI k) x (nI r - 1) h = some (nI (z + r), h') ∧ MH m n ms dr F' h' ∧ F' 8 k = nI (z + r) ∧ (∀ j, j ≠ k → F' 8 j = F 8 j) ∧ (∀ j, j ≠ 8 → j ≠ 9 → F' j = F j) ∧ (∀ j, (j < 5000 * k + z ∨ 5000 * k + z + r ≤ j) → F' 9 j = F 9 j) ∧ ∀ t, t < r → F' 9 (5000 * k + (z + t)) = mbB x (r - 1 - t) := by
  intro r
  induction r with
  | zero =>
    intro fu z F h hfu hz M e
    obtain ⟨fu, rfl⟩ : ∃ q, fu = q + 1 := ⟨fu - 1, by omega⟩
    have e8 := M.ai 8 (j := k) (by decide) hk
    refine ⟨h, F, ?_, M, e, fun _ _ => rfl, fun _ _ _ => rfl, fun _ _ => rfl, fun t ht => absurd ht (by omega)⟩
    rw [hm_loop_s, fX6_load_44, if_pos (by decide), M.q8, hb_s, e8, hb_s, e]
    rfl
  | succ r ih =>
    intro fu z F h hfu hz M e
    obtain ⟨fu, rfl⟩ : ∃ q, fu = q + 1 := ⟨fu - 1, by omega⟩
    have e8 := M.ai 8 (j := k) (by decide) hk
    obtain ⟨h1, e1, M1, -⟩ := M.si 9 (j := 5000 * k + z) (mbB x r) (by decide) (by show _ < 20000; omega)
    have e81 := M1.ai 8 (j := k) (by decide) hk
    rw [va_up_ne _ _ (by decide), e] at e81
    obtain ⟨h2, e2, M2, -⟩ := M1.si 8 (j := k) (nI (z + 1)) (by decide) hk
    obtain ⟨h', F', e', M', z', o', j', l', t'⟩ := ih fu (z + 1) _ h2 (by omega) (by omega) M2 (by rw [va_up_self, upd_s])
    have ix : (5000 : Int32) * nI k + nI z = nI (5000 * k + z) := by rw [show (5000 : Int32) = nI 5000 from rfl, pk_mul, nI_add]
    refine ⟨h', F', ?_, M', by rw [z']; congr 1; omega, fun j hj => ?_, fun j h8 h9 => ?_, fun j hj => ?_, fun t ht => ?_⟩
    · rw [hm_loop_s, fX6_load_44, idx_s, if_neg (nI_pos (by omega)), M.q9, hb_s, M.q8, hb_s, e8, hb_s, e, ix]
      show hm_b (hm_si 0 h (some (m + 9)) (nI (5000 * k + z)) (mbB x r)) _ = _
      rw [e1, hb_s, M1.q8, hb_s, e81, hb_s, nI_1, e2, hb_s, idx_d, e']
      congr 3
      omega
    · rw [o' j hj, va_up_self, upd_n hj]
      rfl
    · rw [j' j h8 h9, va_up_ne _ _ h8, va_up_ne _ _ h9]
    · rw [l' j (by omega), va_up_ne _ _ (by decide), va_up_self, upd_n (by omega)]
    · by_cases q : t = 0
      · subst q
        rw [Nat.add_zero, l' _ (by omega), va_up_ne _ _ (by decide), va_up_self, upd_s]
        rfl
      · have := t' (t - 1) (by omega)
        rw [show z + 1 + (t - 1) = z + t by omega, show r - 1 - (t - 1) = r + 1 - 1 - t by omega] at this
        exact this
theorem ag_load (b m : Nat) (s : Int32) (x : Int64) (c : Int32) : AO b m (fX5_load b s x c) (fX6_load m s x c) := by
  intro hc hm hAG
  have hAG0 := hAG
  obtain ⟨n, S, C, P, D, K, Z, tk, G, Y, ms, dr, F, H, M, R, hDR, hSR⟩ := hAG
  have t1 : (1 : Int32).toInt = 1 := rfl
  have t8 : (8 : Int32).toInt = 8 := rfl
  by_cases hs : isf 4 s
  · obtain ⟨k, hk, rfl⟩ := isf_nI (by decide) hs
    obtain ⟨z, hz, z1, z2, zb⟩ := hSR k hk
    have e8 := M.ai 8 (j := k) (by decide) hk
    have psc := (p_spriteAt H (nI k)).2 k hk rfl
    have psm := (m_isSprite m (nI k) hm).2 k hk rfl
    by_cases q1 : c < 1
    · refine ⟨-1, hc, hm, ?_, ?_, hAG0⟩
      · unfold fX5_load
        rw [H.brc, hb_s, psc, hb2_s, if_neg (by simp), if_pos q1]
      · unfold fX6_load
        rw [M.rc, hb_s, psm, hb2_s, if_neg (by decide), if_pos q1]
    · by_cases q2 : 8 < c
      · refine ⟨-1, hc, hm, ?_, ?_, hAG0⟩
        · unfold fX5_load
          rw [H.brc, hb_s, psc, hb2_s, if_neg (by simp), if_neg q1, if_pos q2]
        · unfold fX6_load
          rw [M.rc, hb_s, psm, hb2_s, if_neg (by decide), if_neg q1, if_pos q2]
      · obtain ⟨r, rfl, er⟩ := i_nat (x := c) (by rw [i_lt, t1] at q1; omega)
        have hr : 1 ≤ r ∧ r ≤ 8 := by rw [i_lt, t1] at q1; rw [i_lt, t8] at q2; omega
        have e5 : (5000 : Int32) = nI 5000 := rfl
        by_cases q3 : z + r ≤ 5000
        · obtain ⟨hc', Z', Y', ec, H', zc, oc, lc, tc⟩ := p_load hk x r hm_fu z Z Y hc (by unfold hm_fu; omega) q3 H z1
          obtain ⟨hm', F', em, M', zm, om, jm, lm, tm⟩ := m_load hk x r hm_fu z F hm (by unfold hm_fu; omega) q3 M z2
          refine ⟨nI (z + r), hc', hm', ?_, ?_, n, S, C, P, D, K, Z', tk, G, Y', ms, dr, F', H', M', R.keep (jm 1 (by decide) (by decide)) (jm 2 (by decide) (by decide)) (jm 3 (by decide) (by decide)) (jm 4 (by decide) (by decide)) (fun i j _ _ _ => by rw [jm 5 (by decide) (by decide)]), fun i x y a1 a2 a3 => by rw [jm 5 (by decide) (by decide)]; exact hDR i x y a1 a2 a3, fun j hj => ?_⟩
          · unfold fX5_load
            rw [H.brc, hb_s, psc, hb2_s, if_neg (by simp), if_neg q1, if_neg q2, H.gsz (by omega), hb_s, z1, nI_add, e5, if_pos (nI_le q3 (by decide)), hlet_s]
            exact ec
          · unfold fX6_load
            rw [M.rc, hb_s, psm, hb2_s, if_neg (by decide), if_neg q1, if_neg q2, M.q8, hb_s, e8, hb_s, z2, nI_add, e5, if_pos (nI_le q3 (by decide)), hlet_s]
            exact em
          · by_cases e : j = k
            · subst e
              refine ⟨z + r, q3, zc, zm, fun i hi => ?_⟩
              by_cases qi : i < z
              · rw [lc i qi, lm _ (by omega)]
                exact zb i qi
              · have c1 := tc (i - z) (by omega)
                have c2 := tm (i - z) (by omega)
                rw [show z + (i - z) = i by omega] at c1 c2
                rw [c1, c2]
                obtain ⟨v, hv, v1, v2⟩ := ld_eq x (k := r - 1 - (i - z)) (by omega)
                exact ⟨v1.trans v2.symm, v, hv, v2⟩
            · obtain ⟨z', hz', z1', z2', zb'⟩ := hSR j hj
              have o1 := oc j e
              refine ⟨z', hz', by rw [o1.1]; exact z1', by rw [om j e]; exact z2', fun i hi => ?_⟩
              rw [o1.2, lm _ (by omega)]
              exact zb' i hi
        · refine ⟨-1, hc, hm, ?_, ?_, hAG0⟩
          · unfold fX5_load
            rw [H.brc, hb_s, psc, hb2_s, if_neg (by simp), if_neg q1, if_neg q2, H.gsz (by omega), hb_s, z1, nI_add, e5, if_neg (nI_ge (by omega) (by omega))]
          · unfold fX6_load
            rw [M.rc, hb_s, psm, hb2_s, if_neg (by decide), if_neg q1, if_neg q2, M.q8, hb_s, e8, hb_s, z2, nI_add, e5, if_neg (nI_ge (by omega) (by omega))]
  · refine ⟨-1, hc, hm, ?_, ?_, hAG0⟩
    · unfold fX5_load
      rw [H.brc, hb_s, (p_spriteAt H s).1 hs, hb2_s, if_pos rfl]
    · unfold fX6_load
      rw [M.rc, hb_s, (m_isSprite m s hm).1 hs, hb2_s, if_pos rfl]
