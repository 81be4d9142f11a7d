theorem ag_keyed (b m : Nat) (s x y w g t u v key : Int32) : AO b m (fX5_keyed b s x y w g t u v key) (fX6_keyed m s x y w g t u v key) := by
  intro hc hm hAG
  have hAG0 := hAG
  obtain ⟨n, S, C, P, D, K, Z, tk, G, Y, ms, dr, F, H, M, R, hDR, hSR⟩ := hAG
  have hn := H.dk.1
  have no31 : fX6_keyed_29 (some m) s x y w g t u v key 0 hm = some (-1, hm) := by rw [fX6_keyed_29, if_pos rfl]
  by_cases q : mv_ok n s w g t
  · obtain ⟨q1, q2, q3, q4⟩ := q
    obtain ⟨kf, hf, rfl⟩ := isf_nI (by omega) q1
    obtain ⟨kt, ht, rfl⟩ := isf_nI (by omega) q2
    obtain ⟨w', rfl, ew⟩ := i_nat q3.1
    obtain ⟨g', rfl, eg⟩ := i_nat q4.1
    have hdf := H.dk.2 kf hf
    have hdt := H.dk.2 kt ht
    obtain ⟨l, tt, tw, tg, eT, bl, bt', tw64, tg64, ecq, hsrc, inT, ofT⟩ := tg_all H.dk hf ht x.toInt y.toInt u.toInt v.toInt (w := w') (g := g') (by omega) (by omega)
    obtain ⟨h1, mv, ta, sa, H1, m1, T1, S1, pf⟩ := pf_ok H hf ht x y u v (by omega) (by omega) eT
    have al := (m_areAlike M R H.dk (nI kf) (nI kt) (nI w') (nI g')).2 kf kt hf ht rfl rfl q3 q4
    have kd := m_keepsDepth H1 hf ht m1
    by_cases qd : (D kf).1 = (D kt).1
    · by_cases qo : fit (D kt).1 key
      · obtain ⟨tk2, h2, e2, H2, o2, I2⟩ := p_takeDots hf H1 m1 rfl rfl S1 tg64 hsrc
        have m2 := o2.ob m1
        have T2 := o2.ar T1
        obtain ⟨tk3, h3, e3, H3, o3, I3⟩ := p_dropKey H2 (z := tw * tg) (wg_le tw64 tg64) key
        have m3 := o3.ob m2
        have T3 := o3.ar T2
        obtain ⟨f, h4, e4, H4, o4, I4⟩ := p_putDots ht H3 12 T3 bl bt'
        have m4 := o4.ob m3
        have T4 := o4.ar T3
        obtain ⟨F2, hm', em, M', Fj, F5o, b1, b2⟩ := m_bring M R H.dk (kf := kf) (kt := kt) (way := 1) (km := 0) (w := w') (g := g') hf ht (by decide) (one := key) 0 (fun z => absurd z (by decide)) x y u v (by omega) (by omega)
        rw [ecq] at em
        refine ⟨nI (tw * tg), h4, hm', ?_, ?_, n, S, C, P, D, K, Z, tk3, _, Y, ms, dr, F2, H4, M', R.keep (Fj 1 (by decide) (by decide) (by decide)) (Fj 2 (by decide) (by decide) (by decide)) (Fj 3 (by decide) (by decide) (by decide)) (Fj 4 (by decide) (by decide) (by decide)) (fun i j _ _ _ => F5o _ (by omega)), ?_, hSR.keep (Fj 8 (by decide) (by decide) (by decide)) (Fj 9 (by decide) (by decide) (by decide))⟩
        · unfold fX5_keyed
          show PF b (nI kf) x y (nI w') (nI g') (nI kt) u v hc _ = _
          rw [pf, if_neg (by simp), ob_rc m1, hb_s, bif_t kd qd, hb2_s, if_neg (by decide), ob_gq m1 (v := S kt) rfl, hb_s, H1.src ht, hb_s, (p_fits H1 ht key).1 qo, hb2_s, if_neg (by decide), H1.brc, hb_s, e2, hb_s, ob_gq m2 (v := ta) rfl, hb_s, ar_rc T2, hb_s, p_size T2, hb2_s, H2.brc, hb_s, e3, hb_s, ob_gq m3 (v := S kt) rfl, hb_s, ob_gq m3 (v := ta) rfl, hb_s, H3.brc, hb_s, e4, hb_s, ob_gq m4 (v := ta) rfl, hb_s, ar_rc T4, hb_s, p_size T4, hb2_s]
        · unfold fX6_keyed
          rw [M.rc, hb_s, bif_t al qd, hb2_s, if_neg (by decide), M.rc, hb_s, (m_fits M R H.dk hf key).1 (by rw [qd]; exact qo), hb2_s, if_neg (by decide), fX6_keyed_29, if_neg (by decide), M.rc, hb_s]
          show hm_b2 (fX6_bring m (nI kf) x y (nI w') (nI g') (nI kt) u v (nI 1) key 0 hm) _ = _
          rw [em, hb2_s]
        · refine blit_DR (way := 1) (km := 0) (one := key) (two := 0) (NV := fun p q => pv (D kt).1 12 (tk3 ((q - tt) * tw + (p - l))) (G kt (q * (D kt).2.1 + p))) hDR H.dk hf ht inT ofT I4 b1 b2 F5o (fun a b' p q ha hb ga gb ep eq hp hq => ?_)
          have ii := inT a b' ha hb ga gb
          obtain ⟨c1, r, hr, c2⟩ := take_bsv hDR hf I2 hsrc ga gb ep eq (by omega) (by omega)
          have pw := pw_d hdf.1
          have old := hDR kt p q ht hp hq
          have eb : bat u.toInt v.toInt a b' = 64 * q + p := by unfold bat; omega
          have c3 := I3 ((q - tt) * tw + (p - l)) (idx_lt (by omega) (by omega))
          rw [c1] at c3
          rw [eb, show 4096 * kt + (64 * q + p) = 4096 * kt + 64 * q + p by omega]
          have eF : bfr F D kf kt 1 key 0 x.toInt y.toInt u.toInt v.toInt a b' = bsv F kf x.toInt y.toInt a b' := rfl
          have eC : bcm F D kf 1 0 key x.toInt y.toInt a b' = if bsv F kf x.toInt y.toInt a b' = key then 0 else 1 := rfl
          rw [c3, eF, eC]
          unfold pv
          by_cases qk : bsv F kf x.toInt y.toInt a b' = key
          · rw [if_pos qk, if_pos rfl, if_pos qk, if_pos rfl, old.1]
            exact ⟨rfl, old.2⟩
          · rw [if_neg qk, if_neg (by rw [c2]; exact nI_nm1 (by omega)), if_neg qk, if_neg (by decide), c2, opD_12 hdt.1 (by rw [← qd]; exact hr)]
            exact ⟨rfl, r, by rw [← qd]; exact hr, rfl⟩
      · refine ⟨-1, h1, hm, ?_, ?_, n, S, C, P, D, K, Z, tk, G, Y, ms, dr, F, H1, M, R, hDR, hSR⟩
        · unfold fX5_keyed
          show PF b (nI kf) x y (nI w') (nI g') (nI kt) u v hc _ = _
          rw [pf, if_neg (by simp), ob_rc m1, hb_s, bif_t kd qd, hb2_s, if_neg (by decide), ob_gq m1 (v := S kt) rfl, hb_s, H1.src ht, hb_s, (p_fits H1 ht key).2 qo, hb2_s, if_pos rfl]
        · unfold fX6_keyed fX6_keyed_28
          rw [M.rc, hb_s, bif_t al qd, hb2_s, if_neg (by decide), M.rc, hb_s, (m_fits M R H.dk hf key).2 (by rw [qd]; exact qo), hb2_s, if_pos rfl]
          exact no31
    · refine ⟨-1, h1, hm, ?_, ?_, n, S, C, P, D, K, Z, tk, G, Y, ms, dr, F, H1, M, R, hDR, hSR⟩
      · unfold fX5_keyed
        show PF b (nI kf) x y (nI w') (nI g') (nI kt) u v hc _ = _
        rw [pf, if_neg (by simp), ob_rc m1, hb_s, bif_f kd qd, hb2_s, if_pos rfl]
      · unfold fX6_keyed fX6_keyed_28
        rw [M.rc, hb_s, bif_f al qd, hb2_s, if_pos rfl]
        exact no31
  · obtain ⟨h1, H1, pf⟩ := pf_no H s x y w g t u v q
    refine ⟨-1, h1, hm, ?_, ?_, n, S, C, P, D, K, Z, tk, G, Y, ms, dr, F, H1, M, R, hDR, hSR⟩
    · unfold fX5_keyed
      show PF b s x y w g t u v hc _ = _
      rw [pf, if_pos rfl]
    · unfold fX6_keyed fX6_keyed_28
      rw [M.rc, hb_s, (m_areAlike M R H.dk s t w g).1 q, hb2_s, if_pos rfl]
      exact no31
theorem ag_masked (b m : Nat) (s x y w g t u v k : Int32) : AO b m (fX5_masked b s x y w g t u v k) (fX6_masked m s x y w g t u v k) := by
  intro hc hm hAG
  have hAG0 := hAG
  obtain ⟨n, S, C, P, D, K, Z, tk, G, Y, ms, dr, F, H, M, R, hDR, hSR⟩ := hAG
  have hn := H.dk.1
  have no31 : fX6_masked_39 (some m) s x y w g t u v k 0 hm = some (-1, hm) := by rw [fX6_masked_39, if_pos rfl]
  -- the mask, looked up in any state of the class
  by_cases q : mv_ok n s w g t
  · obtain ⟨q1, q2, q3, q4⟩ := q
    obtain ⟨kf, hf, rfl⟩ := isf_nI (by omega) q1
    obtain ⟨kt, ht, rfl⟩ := isf_nI (by omega) q2
    obtain ⟨w', rfl, ew⟩ := i_nat q3.1
    obtain ⟨g', rfl, eg⟩ := i_nat q4.1
    have hdf := H.dk.2 kf hf
    have hdt := H.dk.2 kt ht
    obtain ⟨l, tt, tw, tg, eT, bl, bt', tw64, tg64, ecq, hsrc, inT, ofT⟩ := tg_all H.dk hf ht x.toInt y.toInt u.toInt v.toInt (w := w') (g := g') (by omega) (by omega)
    obtain ⟨h1, mv, ta, sa, H1, m1, T1, S1, pf⟩ := pf_ok H hf ht x y u v (by omega) (by omega) eT
    have al := (m_areAlike M R H.dk (nI kf) (nI kt) (nI w') (nI g')).2 kf kt hf ht rfl rfl q3 q4
    have kd := m_keepsDepth H1 hf ht m1
    by_cases qm : isf n k
    · obtain ⟨km, hkm, rfl⟩ := isf_nI (by omega) qm
      have hdm := H.dk.2 km hkm
      have sm1 := (p_surfaceAt H1 (nI km)).2 km hkm rfl
      have smm := (m_isSurface M hn (nI km)).2 km hkm rfl
      have e1m := M.ai 1 (j := km) (by decide) (by show km < 8; omega)
      rw [(R.1 km hkm).1] at e1m
      have ed1 : nI (D km).1 = (1 : Int32) ↔ (D km).1 = 1 := nI_eq (b := 1) (by omega) (by decide)
      by_cases qd : (D kf).1 = (D kt).1
      · by_cases qo : (D km).1 = 1
        · obtain ⟨tk2, h2, e2, H2, o2, I2⟩ := p_takeDots hf H1 m1 rfl rfl S1 tg64 hsrc
          have m2 := o2.ob m1
          have T2 := o2.ar T1
          have S2 := o2.ar S1
          have rx := i_rng x
          have ry := i_rng y
          have ru := i_rng u
          have rv := i_rng v
          obtain ⟨tk3, h3, e3, H3, o3, I3⟩ := p_dropMasked hkm H2 S2 (by omega) (by omega) tw64 tg64
          have m3 := o3.ob m2
          have T3 := o3.ar T2
          obtain ⟨f, h4, e4, H4, o4, I4⟩ := p_putDots ht H3 12 T3 bl bt'
          have m4 := o4.ob m3
          have T4 := o4.ar T3
          obtain ⟨F2, hm', em, M', Fj, F5o, b1, b2⟩ := m_bring M R H.dk (kf := kf) (kt := kt) (way := 2) (km := km) (w := w') (g := g') hf ht (by decide) (one := nI km) 0 (fun _ => ⟨hkm, rfl⟩) x y u v (by omega) (by omega)
          rw [ecq] at em
          refine ⟨nI (tw * tg), h4, hm', ?_, ?_, n, S, C, P, D, K, Z, tk3, _, Y, ms, dr, F2, H4, M', R.keep (Fj 1 (by decide) (by decide) (by decide)) (Fj 2 (by decide) (by decide) (by decide)) (Fj 3 (by decide) (by decide) (by decide)) (Fj 4 (by decide) (by decide) (by decide)) (fun i j _ _ _ => F5o _ (by omega)), ?_, hSR.keep (Fj 8 (by decide) (by decide) (by decide)) (Fj 9 (by decide) (by decide) (by decide))⟩
          · unfold fX5_masked
            show PF b (nI kf) x y (nI w') (nI g') (nI kt) u v hc _ = _
            rw [pf, H1.brc, hb_s, sm1, hb2_s, if_neg (by simp), ob_rc m1, hb_s, bif_t kd qd, hb2_s, if_neg (by decide), if_neg (by simp), H1.sdp hkm, hb_s, if_pos (ed1.mpr qo), H1.brc, hb_s, e2, hb_s, ob_gq m2 (v := sa) rfl, hb_s, H2.brc, hb_s, e3, hb_s, ob_gq m3 (v := S kt) rfl, hb_s, ob_gq m3 (v := ta) rfl, hb_s, H3.brc, hb_s, e4, hb_s, ob_gq m4 (v := ta) rfl, hb_s, ar_rc T4, hb_s, p_size T4, hb2_s]
          · unfold fX6_masked
            rw [M.rc, hb_s, bif_t al qd, hb2_s, if_neg (by decide), M.rc, hb_s, smm, hb2_s, if_neg (by decide), M.q1, hb_s, e1m, hb_s, if_pos (ed1.mpr qo), fX6_masked_39, if_neg (by decide), M.rc, hb_s]
            show hm_b2 (fX6_bring m (nI kf) x y (nI w') (nI g') (nI kt) u v (nI 2) (nI km) 0 hm) _ = _
            rw [em, hb2_s]
          · refine blit_DR (way := 2) (km := km) (one := nI km) (two := 0) (NV := fun p q => pv (D kt).1 12 (tk3 ((q - tt) * tw + (p - l))) (G kt (q * (D kt).2.1 + p))) hDR H.dk hf ht inT ofT I4 b1 b2 F5o (fun a b' p q ha hb ga gb ep eq hp hq => ?_)
            have ii := inT a b' ha hb ga gb
            obtain ⟨c1, r, hr, c2⟩ := take_bsv hDR hf I2 hsrc ga gb ep eq (by omega) (by omega)
            have pw := pw_d hdf.1
            have old := hDR kt p q ht hp hq
            have eb : bat u.toInt v.toInt a b' = 64 * q + p := by unfold bat; omega
            have c3 := I3 (q - tt) (p - l) (by omega) (by omega)
            rw [c1, show (l : Int) + -(u.toInt - x.toInt) + ((p - l : Nat) : Int) = x.toInt + a by omega, show (tt : Int) + -(v.toInt - y.toInt) + ((q - tt : Nat) : Int) = y.toInt + b' by omega] at c3
            rw [eb, show 4096 * kt + (64 * q + p) = 4096 * kt + 64 * q + p by omega]
            have eF : bfr F D kf kt 2 (nI km) 0 x.toInt y.toInt u.toInt v.toInt a b' = bsv F kf x.toInt y.toInt a b' := rfl
            have eC : bcm F D kf 2 km (nI km) x.toInt y.toInt a b' = if bmk F D km x.toInt y.toInt a b' = 1 then 1 else 0 := rfl
            rw [eF, eC]
            have eM : ((0 ≤ x.toInt + a ∧ x.toInt + a < (D km).2.1 ∧ 0 ≤ y.toInt + b' ∧ y.toInt + b' < (D km).2.2) ∧ G km ((y.toInt + b').toNat * (D km).2.1 + (x.toInt + a).toNat) = 1) ↔ bmk F D km x.toInt y.toInt a b' = 1 := by
              unfold bmk
              by_cases z : 0 ≤ x.toInt + a ∧ x.toInt + a < (D km).2.1 ∧ 0 ≤ y.toInt + b' ∧ y.toInt + b' < (D km).2.2
              · rw [if_pos z, (hDR km (x.toInt + a).toNat (y.toInt + b').toNat hkm (by omega) (by omega)).1]
                exact ⟨fun z2 => z2.2, fun z2 => ⟨z, z2⟩⟩
              · rw [if_neg z]
                exact ⟨fun z2 => absurd z2.1 z, fun z2 => absurd z2 (by decide)⟩
            unfold pv
            by_cases qk : bmk F D km x.toInt y.toInt a b' = 1
            · rw [if_pos (eM.mpr qk)] at c3
              rw [c3, if_neg (by rw [c2]; exact nI_nm1 (by omega)), if_pos qk, if_neg (by decide), c2, opD_12 hdt.1 (by rw [← qd]; exact hr)]
              exact ⟨rfl, r, by rw [← qd]; exact hr, rfl⟩
            · rw [if_neg (fun z => qk (eM.mp z))] at c3
              rw [c3, if_pos rfl, if_neg qk, if_pos rfl, old.1]
              exact ⟨rfl, old.2⟩
        · refine ⟨-1, h1, hm, ?_, ?_, n, S, C, P, D, K, Z, tk, G, Y, ms, dr, F, H1, M, R, hDR, hSR⟩
          · unfold fX5_masked
            show PF b (nI kf) x y (nI w') (nI g') (nI kt) u v hc _ = _
            rw [pf, H1.brc, hb_s, sm1, hb2_s, if_neg (by simp), ob_rc m1, hb_s, bif_t kd qd, hb2_s, if_neg (by decide), if_neg (by simp), H1.sdp hkm, hb_s, if_neg (fun z => qo (ed1.mp z))]
          · unfold fX6_masked fX6_masked_38
            rw [M.rc, hb_s, bif_t al qd, hb2_s, if_neg (by decide), M.rc, hb_s, smm, hb2_s, if_neg (by decide), M.q1, hb_s, e1m, hb_s, if_neg (fun z => qo (ed1.mp z))]
            exact no31
      · refine ⟨-1, h1, hm, ?_, ?_, n, S, C, P, D, K, Z, tk, G, Y, ms, dr, F, H1, M, R, hDR, hSR⟩
        · unfold fX5_masked
          show PF b (nI kf) x y (nI w') (nI g') (nI kt) u v hc _ = _
          rw [pf, H1.brc, hb_s, sm1, hb2_s, if_neg (by simp), ob_rc m1, hb_s, bif_f kd qd, hb2_s, if_pos rfl]
        · unfold fX6_masked fX6_masked_38
          rw [M.rc, hb_s, bif_f al qd, hb2_s, if_pos rfl]
          exact no31
    · have sm1 := (p_surfaceAt H1 k).1 qm
      have smm := (m_isSurface M hn k).1 qm
      refine ⟨-1, h1, hm, ?_, ?_, n, S, C, P, D, K, Z, tk, G, Y, ms, dr, F, H1, M, R, hDR, hSR⟩
      · unfold fX5_masked
        show PF b (nI kf) x y (nI w') (nI g') (nI kt) u v hc _ = _
        rw [pf, H1.brc, hb_s, sm1, hb2_s, if_neg (by simp), ob_rc m1, hb_s]
        by_cases qd : (D kf).1 = (D kt).1
        · rw [bif_t kd qd, hb2_s, if_neg (by decide), if_pos rfl]
        · rw [bif_f kd qd, hb2_s, if_pos rfl]
      · unfold fX6_masked fX6_masked_38
        rw [M.rc, hb_s]
        by_cases qd : (D kf).1 = (D kt).1
        · rw [bif_t al qd, hb2_s, if_neg (by decide), M.rc, hb_s, smm, hb2_s, if_pos rfl]
          exact no31
        · rw [bif_f al qd, hb2_s, if_pos rfl]
          exact no31
  · obtain ⟨h1, H1, pf⟩ := pf_no H s x y w g t u v q
    refine ⟨-1, h1, hm, ?_, ?_, n, S, C, P, D, K, Z, tk, G, Y, ms, dr, F, H1, M, R, hDR, hSR⟩
    · unfold fX5_masked
      show PF b s x y w g t u v hc _ = _
      rw [pf, H1.brc, hb_s]
      by_cases qm : isf n k
      · obtain ⟨km, hkm, rfl⟩ := isf_nI (by omega) qm
        rw [(p_surfaceAt H1 (nI km)).2 km hkm rfl, hb2_s, if_pos rfl]
      · rw [(p_surfaceAt H1 k).1 qm, hb2_s, if_pos rfl]
    · unfold fX6_masked fX6_masked_38
      rw [M.rc, hb_s, (m_areAlike M R H.dk s t w g).1 q, hb2_s, if_pos rfl]
      exact no31
