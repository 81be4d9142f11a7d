/-! spread -/
section SPR
variable {b n : Nat} {S C P : Nat → Nat} {D : Nat → Nat × Nat × Nat} {K : Nat → Nat × Nat × Nat × Nat} {Z : Nat → Int32 × Int32} {tk : Nat → Int32} {G Y : Nat → Nat → Int32} {h : hm_H}
theorem p_spread (H : CH b n S C P D K Z tk G Y h) {mv ta sa kf kt : Nat} {l t tw tg : Nat} (m1 : ob h mv 1 [.ref (S kf), .ref (S kt), .ref sa, .ref ta]) (T1 : ar h ta l t tw tg) (hw : tw ≤ 64) (hg : tg ≤ 64) (zero one : Int32) : ∃ K2 tk' h', hm_loop (fun _ _ _ _ _ _ => none) (fX5_spread_89) hm_fu (some b) zero one (some mv) 0 h = fX5_spread_89 K2 (some b) zero one (some mv) (nI (tw * tg)) h' ∧ CH b n S C P D K Z tk' G Y h' ∧ obs h h' ∧ ∀ j, j < tw * tg → tk' j = if tk j = 0 then zero else one := by
  have hz := wg_le hw hg
  have lp : ∀ r j fu tk1 h, j + r = tw * tg → r < fu → CH b n S C P D K Z tk1 G Y h → ob h mv 1 [.ref (S kf), .ref (S kt), .ref sa, .ref ta] → ar h ta l t tw tg → (∀ i, i < j → tk1 i = if tk i = 0 then zero else one) → (∀ i, j ≤ i → tk1 i = tk i) → ∃ K2 tk' h', hm_loop (fun _ _ _ _ _ _ => none) (fX5_spread_89) fu (some b) zero one (some mv) (nI j) h = fX5_spread_89 K2 (some b) zero one (some mv) (nI (tw * tg)) h' ∧ CH b n S C P D K Z tk' G Y h' ∧ obs h h' ∧ ∀ j, j < tw * tg → tk' j = if tk j = 0 then zero else one := by
    intro r
    induction r with
    | zero =>
      intro j fu tk1 h hj hfu H m1 T1 I O
      obtain ⟨fu, rfl⟩ : ∃ q, fu = q + 1 := ⟨fu - 1, by omega⟩
      refine ⟨hm_loop (fun _ _ _ _ _ _ => none) (fX5_spread_89) fu, tk1, h, ?_, H, obs.rf h, fun i hi => I i (by omega)⟩
      rw [hm_loop_s, show j = tw * tg by omega]
    | succ r ih =>
      intro j fu tk1 h hj hfu H m1 T1 I O
      obtain ⟨fu, rfl⟩ : ∃ q, fu = q + 1 := ⟨fu - 1, by omega⟩
      have ej := O j (Nat.le_refl _)
      obtain ⟨h1, e1, H1, o1⟩ := H.tk1 (j := j) (by omega) (if tk j = 0 then zero else one)
      obtain ⟨K2, tk', h', e', H', o', I'⟩ := ih (j + 1) fu _ h1 (by omega) (by omega) H1 (o1.ob m1) (o1.ar T1) (fun i hi => by
        by_cases e : i = j
        · subst e; rw [upd_s]
        · rw [upd_n e]; exact I i (by omega)) (fun i hi => by rw [upd_n (by omega)]; exact O i (by omega))
      refine ⟨K2, tk', h', ?_, H', o1.tr o', I'⟩
      rw [hm_loop_s, fX5_spread_89, ob_gq m1 (v := ta) rfl, hb_s, ar_rc T1, hb_s, p_size T1, hb2_s, if_neg (nI_ge (by omega) (by omega)), H.tkq, hb_s, hb_s, H.tkr (by omega), hb_s, ej]
      by_cases q : tk j = 0
      · rw [if_pos q] at e1
        rw [if_pos q, fX5_spread_125, e1, hb_s, nI_1]
        exact e'
      · rw [if_neg q] at e1
        rw [if_neg q, fX5_spread_125, e1, hb_s, nI_1]
        exact e'
  exact lp (tw * tg) 0 hm_fu tk h (by omega) (by unfold hm_fu; omega) H m1 T1 (fun i hi => absurd hi (by omega)) (fun _ _ => rfl)
end SPR
theorem ag_spread (b m : Nat) (s x y w g t u v zero one : Int32) : AO b m (fX5_spread b s x y w g t u v zero one) (fX6_spread m s x y w g t u v zero one) := by
  intro hc hm hAG
  have hAG0 := hAG
  obtain ⟨n, S, C, P, D, K, Z, tk, G, Y, ms, dr, F, H, M, R, hDR, hSR⟩ := hAG
  have hn := H.dk.1
  have no70 : fX6_spread_70 (some m) s x y w g t u v zero one 0 hm = some (-1, hm) := by rw [fX6_spread_70, if_pos rfl]
  by_cases q : mv_ok n s w g t
  · obtain ⟨q1, q2, q3, q4⟩ := q
    obtain ⟨kf, hf, rfl⟩ := isf_nI (by omega) q1
    obtain ⟨kt, ht, rfl⟩ := isf_nI (by omega) q2
    obtain ⟨w', rfl, ew⟩ := i_nat q3.1
    obtain ⟨g', rfl, eg⟩ := i_nat q4.1
    have hdf := H.dk.2 kf hf
    have hdt := H.dk.2 kt ht
    obtain ⟨l, tt, tw, tg, eT, bl, bt', tw64, tg64, ecq, hsrc, inT, ofT⟩ := tg_all H.dk hf ht x.toInt y.toInt u.toInt v.toInt (w := w') (g := g') (by omega) (by omega)
    obtain ⟨h1, mv, ta, sa, H1, m1, T1, S1, pf⟩ := pf_ok H hf ht x y u v (by omega) (by omega) eT
    have sf := (m_isSurface M hn (nI kf)).2 kf hf rfl
    have st := (m_isSurface M hn (nI kt)).2 kt ht rfl
    have e1f := M.ai 1 (j := kf) (by decide) (by show kf < 8; omega)
    rw [(R.1 kf hf).1] at e1f
    have ed1 : nI (D kf).1 = (1 : Int32) ↔ (D kf).1 = 1 := nI_eq (b := 1) (by omega) (by decide)
    by_cases qd : (D kf).1 = 1
    · by_cases qz : fit (D kt).1 zero
      · by_cases qo : fit (D kt).1 one
        · obtain ⟨tk2, h2, e2, H2, o2, I2⟩ := p_takeDots hf H1 m1 rfl rfl S1 tg64 hsrc
          have m2 := o2.ob m1
          have T2 := o2.ar T1
          obtain ⟨K2, tk3, h3, e3, H3, o3, I3⟩ := p_spread H2 m2 T2 tw64 tg64 zero one
          have m3 := o3.ob m2
          have T3 := o3.ar T2
          obtain ⟨f, h4, e4, H4, o4, I4⟩ := p_putDots ht H3 12 T3 bl bt'
          have m4 := o4.ob m3
          have T4 := o4.ar T3
          obtain ⟨F2, hm', em, M', Fj, F5o, b1, b2⟩ := m_bring M R H.dk (kf := kf) (kt := kt) (way := 3) (km := 0) (w := w') (g := g') hf ht (by decide) (one := zero) one (fun z => absurd z (by decide)) x y u v (by omega) (by omega)
          rw [ecq] at em
          refine ⟨nI (tw * tg), h4, hm', ?_, ?_, n, S, C, P, D, K, Z, tk3, _, Y, ms, dr, F2, H4, M', R.keep (Fj 1 (by decide) (by decide) (by decide)) (Fj 2 (by decide) (by decide) (by decide)) (Fj 3 (by decide) (by decide) (by decide)) (Fj 4 (by decide) (by decide) (by decide)) (fun i j _ _ _ => F5o _ (by omega)), ?_, hSR.keep (Fj 8 (by decide) (by decide) (by decide)) (Fj 9 (by decide) (by decide) (by decide))⟩
          · rw [fX5_spread]
            show PF b (nI kf) x y (nI w') (nI g') (nI kt) u v hc _ = _
            rw [pf, if_neg (by simp), ob_gq m1 (v := S kf) rfl, hb_s, H1.sdp hf, hb_s, if_pos (ed1.mpr qd), ob_gq m1 (v := S kt) rfl, hb_s, H1.src ht, hb_s, (p_fits H1 ht zero).1 qz, hb2_s, if_neg (by decide), ob_gq m1 (v := S kt) rfl, hb_s, H1.src ht, hb_s, (p_fits H1 ht one).1 qo, hb2_s, if_neg (by decide), H1.brc, hb_s, e2, hb_s, e3, fX5_spread_89, ob_gq m3 (v := ta) rfl, hb_s, ar_rc T3, hb_s, p_size T3, hb2_s, if_pos (nI_le (by omega) (by have := wg_le tw64 tg64; omega)), ob_gq m3 (v := S kt) rfl, hb_s, ob_gq m3 (v := ta) rfl, hb_s, H3.brc, hb_s, e4, hb_s, ob_gq m4 (v := ta) rfl, hb_s, ar_rc T4, hb_s, p_size T4, hb2_s]
          · rw [fX6_spread]
            rw [M.rc, hb_s, sf, hb2_s, if_neg (by decide), M.q1, hb_s, e1f, hb_s, if_pos (ed1.mpr qd), M.rc, hb_s, st, hb2_s, if_neg (by decide), bif_t (m_isSpan _ hm) q3, hb2_s, if_neg (by decide), bif_t (m_isSpan _ hm) q4, hb2_s, if_neg (by decide), M.rc, hb_s, (m_fits M R H.dk ht zero).1 qz, hb2_s, if_neg (by decide), M.rc, hb_s, (m_fits M R H.dk ht one).1 qo, hb2_s, if_neg (by decide), fX6_spread_70, if_neg (by decide), M.rc, hb_s]
            show hm_b2 (fX6_bring m (nI kf) x y (nI w') (nI g') (nI kt) u v (nI 3) zero one hm) _ = _
            rw [em, hb2_s]
          · refine blit_DR (way := 3) (km := 0) (one := zero) (two := one) (NV := fun p q => pv (D kt).1 12 (tk3 ((q - tt) * tw + (p - l))) (G kt (q * (D kt).2.1 + p))) hDR H.dk hf ht inT ofT I4 b1 b2 F5o (fun a b' p q ha hb ga gb ep eq hp hq => ?_)
            have ii := inT a b' ha hb ga gb
            obtain ⟨c1, r, hr, c2⟩ := take_bsv hDR hf I2 hsrc ga gb ep eq (by omega) (by omega)
            have pw := pw_d hdt.1
            have c3 := I3 ((q - tt) * tw + (p - l)) (idx_lt (by omega) (by omega))
            rw [c1] at c3
            have eF : bfr F D kf kt 3 zero one x.toInt y.toInt u.toInt v.toInt a b' = if bsv F kf x.toInt y.toInt a b' = 0 then zero else one := rfl
            have eC : bcm F D kf 3 0 zero x.toInt y.toInt a b' = 1 := rfl
            rw [c3, eF, eC, if_neg (show ¬ (1 : Int32) = 0 by decide)]
            have ff : ∃ r, r < 2 ^ (D kt).1 ∧ (if bsv F kf x.toInt y.toInt a b' = 0 then zero else one) = nI r := by
              by_cases qq : bsv F kf x.toInt y.toInt a b' = 0
              · rw [if_pos qq]; exact fit_nI qz
              · rw [if_neg qq]; exact fit_nI qo
            obtain ⟨r', hr', er⟩ := ff
            unfold pv
            rw [er, if_neg (nI_nm1 (by omega)), opD_12 hdt.1 hr']
            exact ⟨rfl, r', hr', rfl⟩
        · refine ⟨-1, h1, hm, ?_, ?_, n, S, C, P, D, K, Z, tk, G, Y, ms, dr, F, H1, M, R, hDR, hSR⟩
          · rw [fX5_spread]
            show PF b (nI kf) x y (nI w') (nI g') (nI kt) u v hc _ = _
            rw [pf, if_neg (by simp), ob_gq m1 (v := S kf) rfl, hb_s, H1.sdp hf, hb_s, if_pos (ed1.mpr qd), ob_gq m1 (v := S kt) rfl, hb_s, H1.src ht, hb_s, (p_fits H1 ht zero).1 qz, hb2_s, if_neg (by decide), ob_gq m1 (v := S kt) rfl, hb_s, H1.src ht, hb_s, (p_fits H1 ht one).2 qo, hb2_s, if_pos rfl]
          · rw [fX6_spread]
            rw [M.rc, hb_s, sf, hb2_s, if_neg (by decide), M.q1, hb_s, e1f, hb_s, if_pos (ed1.mpr qd), M.rc, hb_s, st, hb2_s, if_neg (by decide), bif_t (m_isSpan _ hm) q3, hb2_s, if_neg (by decide), bif_t (m_isSpan _ hm) q4, hb2_s, if_neg (by decide), M.rc, hb_s, (m_fits M R H.dk ht zero).1 qz, hb2_s, if_neg (by decide), M.rc, hb_s, (m_fits M R H.dk ht one).2 qo, hb2_s, if_pos rfl]
            exact no70
      · refine ⟨-1, h1, hm, ?_, ?_, n, S, C, P, D, K, Z, tk, G, Y, ms, dr, F, H1, M, R, hDR, hSR⟩
        · rw [fX5_spread]
          show PF b (nI kf) x y (nI w') (nI g') (nI kt) u v hc _ = _
          rw [pf, if_neg (by simp), ob_gq m1 (v := S kf) rfl, hb_s, H1.sdp hf, hb_s, if_pos (ed1.mpr qd), ob_gq m1 (v := S kt) rfl, hb_s, H1.src ht, hb_s, (p_fits H1 ht zero).2 qz, hb2_s, if_pos rfl]
        · rw [fX6_spread]
          rw [M.rc, hb_s, sf, hb2_s, if_neg (by decide), M.q1, hb_s, e1f, hb_s, if_pos (ed1.mpr qd), M.rc, hb_s, st, hb2_s, if_neg (by decide), bif_t (m_isSpan _ hm) q3, hb2_s, if_neg (by decide), bif_t (m_isSpan _ hm) q4, hb2_s, if_neg (by decide), M.rc, hb_s, (m_fits M R H.dk ht zero).2 qz, hb2_s, if_pos rfl]
          exact no70
    · refine ⟨-1, h1, hm, ?_, ?_, n, S, C, P, D, K, Z, tk, G, Y, ms, dr, F, H1, M, R, hDR, hSR⟩
      · rw [fX5_spread]
        show PF b (nI kf) x y (nI w') (nI g') (nI kt) u v hc _ = _
        rw [pf, if_neg (by simp), ob_gq m1 (v := S kf) rfl, hb_s, H1.sdp hf, hb_s, if_neg (fun z => qd (ed1.mp z))]
      · rw [fX6_spread]
        rw [M.rc, hb_s, sf, hb2_s, if_neg (by decide), M.q1, hb_s, e1f, hb_s, if_neg (fun z => qd (ed1.mp z))]
        exact no70
  · obtain ⟨h1, H1, pf⟩ := pf_no H s x y w g t u v q
    refine ⟨-1, h1, hm, ?_, ?_, n, S, C, P, D, K, Z, tk, G, Y, ms, dr, F, H1, M, R, hDR, hSR⟩
    · rw [fX5_spread]
      show PF b s x y w g t u v hc _ = _
      rw [pf, if_pos rfl]
    · rw [fX6_spread]
      by_cases q1 : isf n s
      · obtain ⟨kf, hf, rfl⟩ := isf_nI (by omega) q1
        have hdf := H.dk.2 kf hf
        have e1f := M.ai 1 (j := kf) (by decide) (by show kf < 8; omega)
        rw [(R.1 kf hf).1] at e1f
        rw [M.rc, hb_s, (m_isSurface M hn (nI kf)).2 kf hf rfl, hb2_s, if_neg (by decide), M.q1, hb_s, e1f, hb_s]
        by_cases qd : nI (D kf).1 = (1 : Int32)
        · rw [if_pos qd, M.rc, hb_s]
          by_cases q2 : isf n t
          · obtain ⟨kt, ht, rfl⟩ := isf_nI (by omega) q2
            rw [(m_isSurface M hn (nI kt)).2 kt ht rfl, hb2_s, if_neg (by decide)]
            by_cases q3 : 0 ≤ w.toInt ∧ w.toInt ≤ 64
            · rw [bif_t (m_isSpan w hm) q3, hb2_s, if_neg (by decide)]
              by_cases q4 : 0 ≤ g.toInt ∧ g.toInt ≤ 64
              · exact absurd ⟨q1, q2, q3, q4⟩ q
              · rw [bif_f (m_isSpan g hm) q4, hb2_s, if_pos rfl]
                exact no70
            · rw [bif_f (m_isSpan w hm) q3, hb2_s, if_pos rfl]
              exact no70
          · rw [(m_isSurface M hn t).1 q2, hb2_s, if_pos rfl]
            exact no70
        · rw [if_neg qd]
          exact no70
      · rw [M.rc, hb_s, (m_isSurface M hn s).1 q1, hb2_s, if_pos rfl]
        exact no70
