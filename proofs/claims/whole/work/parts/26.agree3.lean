/-! clip -/
theorem ob_ne {h : hm_H} {a c ci cj : Nat} {fs gs : List Value} (h1 : ob h a ci fs) (h2 : ob h c cj gs) (hne : ci ≠ cj) : a ≠ c := fun e => by
  subst e
  have := h1.symm.trans h2
  simp at this
  exact hne this.1
theorem ob_ia_ne {h : hm_H} {a c ci n : Nat} {fs : List Value} {f : Nat → Int32} (h1 : ob h a ci fs) (h2 : ia h c n f) : a ≠ c := fun e => by
  subst e
  have := h1.symm.trans h2
  simp at this
theorem ob_qa_ne {h : hm_H} {kd a c ci n : Nat} {fs : List Value} {f : Nat → Option Nat} (h1 : ob h a ci fs) (h2 : qa kd h c n f) : a ≠ c := fun e => by
  subst e
  have := h1.symm.trans h2
  simp at this
theorem CH.clip {b n : Nat} {S C P : Nat → Nat} {D : Nat → Nat × Nat × Nat} {K : Nat → Nat × Nat × Nat × Nat} {Z : Nat → Int32 × Int32} {tk : Nat → Int32} {G Y : Nat → Nat → Int32} {h : hm_H} (H : CH b n S C P D K Z tk G Y h) {k : Nat} (hk : k < n) {c x y w g : Nat} (hc : ar h c x y w g) (hx : x + w ≤ (D k).2.1) (hy : y + g ≤ (D k).2.2) :
    ∃ h', hm_p 3 4 (va_rf (some c)) h (some (S k)) = some h' ∧ CH b n S (va_up C k c) P D (va_up K k (x, y, w, g)) Z tk G Y h' := by
  obtain ⟨⟨o1, o2, o3⟩, ⟨⟨f1, a1, a1'⟩, ⟨f2, a2, a2'⟩, a3, a4, a5⟩, ⟨d1, d2, d3, d4, d5, d6⟩, hD⟩ := H
  obtain ⟨s1, s2, s3⟩ := o2 k hk
  obtain ⟨h1, p1, e1, k1, g1⟩ := st_p s1 (k := 4) (Nat.le_of_ble_eq_true rfl) (va_rf (some c))
  have kob : ∀ {q ci : Nat} {fs : List Value}, ob h q ci fs → ci ≠ 3 → ob h1 q ci fs := fun {q ci fs} ho hne => (k1 q (ob_ne ho s1 hne)).trans ho
  refine ⟨h1, p1, ⟨kob o1 (by decide), fun i hi => ?_, fun j hj => kob (o3 j hj) (by decide)⟩, ⟨⟨f1, (k1 _ (Ne.symm (ob_qa_ne s1 a1))).trans a1, a1'⟩, ⟨f2, (k1 _ (Ne.symm (ob_qa_ne s1 a2))).trans a2, a2'⟩, (k1 _ (Ne.symm (ob_ia_ne s1 a3))).trans a3, fun i hi => (k1 _ (Ne.symm (ob_ia_ne s1 (a4 i hi)))).trans (a4 i hi), fun j hj => (k1 _ (Ne.symm (ob_ia_ne s1 (a5 j hj)))).trans (a5 j hj)⟩, ⟨fun i hi => by rw [g1]; exact d1 i hi, d2, d3, d4, by rw [g1]; exact d5, fun a ha => ?_⟩, hD.1, fun i hi => ?_⟩
  · obtain ⟨t1, t2, t3⟩ := o2 i hi
    by_cases e : i = k
    · subst e
      simp only [va_up_self]
      exact ⟨e1, kob t2 (by decide), kob hc (by decide)⟩
    · simp only [va_up_ne _ _ e]
      refine ⟨(k1 _ ?_).trans t1, kob t2 (by decide), kob t3 (by decide)⟩
      rcases Nat.lt_or_gt_of_ne e with z | z
      · have := d2 i k z hk; omega
      · have := d2 k i z hi; omega
  · rw [g1] at ha
    rw [k1 a (fun e => ?_)]
    · exact d6 a ha
    · have := d1 k hk; omega
  · by_cases e : i = k
    · subst e
      simp only [va_up_self]
      have := hD.2 i hi
      exact ⟨this.1, this.2.1, this.2.2.1, this.2.2.2.1, this.2.2.2.2.1, hx, hy⟩
    · simp only [va_up_ne _ _ e]
      exact hD.2 i hi
/-- the rectangle that clip leaves -/
theorem sh_clip {W V w g : Nat} {x y : Int} : ∃ a c u v : Nat, sh 0 0 W V x y w g = ((a : Int), (c : Int), u, v) ∧ a + u ≤ W ∧ c + v ≤ V := by
  unfold sh
  simp only [Int.zero_add]
  by_cases q : min (W : Int) (x + w) - max 0 x ≤ 0 ∨ min (V : Int) (y + g) - max 0 y ≤ 0
  · rw [if_pos q]
    exact ⟨0, 0, 0, 0, rfl, by omega, by omega⟩
  · rw [if_neg q]
    refine ⟨(max 0 x).toNat, (max 0 y).toNat, (min (W : Int) (x + w) - max 0 x).toNat, (min (V : Int) (y + g) - max 0 y).toNat, ?_, by omega, by omega⟩
    congr 1
    · omega
    · congr 1
      omega
theorem m_lesser {a c : Int} (ha : sm a) (hc : sm c) (h : hm_H) : fX6_lesser (iL a) (iL c) h = some (iL (min a c), h) := by
  unfold fX6_lesser
  unfold sm at ha hc
  simp only [lg_ge, iL_le (a := c) (b := a) (by omega) (by omega)]
  by_cases q : c ≤ a
  · rw [if_pos q, show min a c = c by omega]
  · rw [if_neg q, show min a c = a by omega]
/-- four stores into the clips -/
theorem m_clip111 {m n : Nat} {ms dr : Int32} {F : Nat → Nat → Int32} {h : hm_H} (M : MH m n ms dr F h) {k : Nat} (hk : k < 8) (x6 x8 x10 x12 : Int64) (s0 : Int32) {a c u v : Nat} (ha : (if s0 = 0 then 0 else x6.toInt32) = nI a) (hc : (if s0 = 0 then 0 else x8.toInt32) = nI c) (hu : (if s0 = 0 then 0 else x10.toInt32) = nI u) (hv : (if s0 = 0 then 0 else x12.toInt32) = nI v) :
    ∃ h' F', fX6_clip_111 (some m) (nI k) x6 x8 x10 x12 s0 h = some (nI (u * v), h') ∧ MH m n ms dr F' h' ∧ F' 4 = upd (upd (upd (upd (F 4) (4 * k) (nI a)) (4 * k + 1) (nI c)) (4 * k + 2) (nI u)) (4 * k + 3) (nI v) ∧ ∀ j, j ≠ 4 → F' j = F j := by
  obtain ⟨h4, e4, M4, -⟩ := M.si 4 (j := 4 * k) (nI a) (by decide) (by show _ < 32; omega)
  obtain ⟨h5, e5, M5, -⟩ := M4.si 4 (j := 4 * k + 1) (nI c) (by decide) (by show _ < 32; omega)
  obtain ⟨h6, e6, M6, -⟩ := M5.si 4 (j := 4 * k + 2) (nI u) (by decide) (by show _ < 32; omega)
  obtain ⟨h7, e7, M7, -⟩ := M6.si 4 (j := 4 * k + 3) (nI v) (by decide) (by show _ < 32; omega)
  have f4 : (4 : Int32) * nI k = nI (4 * k) := pk_mul 4 k
  have f1 : nI (4 * k) + (1 : Int32) = nI (4 * k + 1) := nI_add _ 1
  have f2 : nI (4 * k) + (2 : Int32) = nI (4 * k + 2) := nI_add _ 2
  have f3 : nI (4 * k) + (3 : Int32) = nI (4 * k + 3) := nI_add _ 3
  have r2 := M7.ai 4 (j := 4 * k + 2) (by decide) (by show _ < 32; omega)
  have r3 := M7.ai 4 (j := 4 * k + 3) (by decide) (by show _ < 32; omega)
  simp only [va_up_self] at r2 r3
  rw [upd_n (by omega), upd_s] at r2
  rw [upd_s] at r3
  have E198 : ∀ z, z = nI v → fX6_clip_198 (some m) (nI k) z (nI (4 * k + 3)) (some (m + 4)) h6 = some (nI (u * v), h7) := by
    rintro z rfl
    unfold fX6_clip_198
    rw [e7, hb_s, M7.q4, hb_s, f4, f2, r2, hb_s, hb_s, f3, r3, hb_s, pk_mul]
  have E176 : ∀ z, z = nI u → fX6_clip_176 (some m) (nI k) x12 s0 z (nI (4 * k + 2)) (some (m + 4)) h5 = some (nI (u * v), h7) := by
    rintro z rfl
    unfold fX6_clip_176
    rw [e6, hb_s, M6.q4, hb_s, f4, f3]
    by_cases q : s0 = 0
    · rw [if_pos q]; rw [if_pos q] at hv; exact E198 _ hv
    · rw [if_neg q]; rw [if_neg q] at hv; exact E198 _ hv
  have E154 : ∀ z, z = nI c → fX6_clip_154 (some m) (nI k) x10 x12 s0 z (nI (4 * k + 1)) (some (m + 4)) h4 = some (nI (u * v), h7) := by
    rintro z rfl
    unfold fX6_clip_154
    rw [e5, hb_s, M5.q4, hb_s, f4, f2]
    by_cases q : s0 = 0
    · rw [if_pos q]; rw [if_pos q] at hu; exact E176 _ hu
    · rw [if_neg q]; rw [if_neg q] at hu; exact E176 _ hu
  have E132 : ∀ z, z = nI a → fX6_clip_132 (some m) (nI k) x8 x10 x12 s0 z (nI (4 * k)) (some (m + 4)) h = some (nI (u * v), h7) := by
    rintro z rfl
    unfold fX6_clip_132
    rw [e4, hb_s, M4.q4, hb_s, f4, f1]
    by_cases q : s0 = 0
    · rw [if_pos q]; rw [if_pos q] at hc; exact E154 _ hc
    · rw [if_neg q]; rw [if_neg q] at hc; exact E154 _ hc
  refine ⟨h7, _, ?_, M7, rfl, fun j hj => ?_⟩
  · unfold fX6_clip_111
    rw [M.q4, hb_s, f4]
    by_cases q : s0 = 0
    · rw [if_pos q]; rw [if_pos q] at ha; exact E132 _ ha
    · rw [if_neg q]; rw [if_neg q] at ha; exact E132 _ ha
  · simp only [va_up_ne _ _ hj]
theorem m_clip {m n : Nat} {ms dr : Int32} {F : Nat → Nat → Int32} {h : hm_H} {D : Nat → Nat × Nat × Nat} {K : Nat → Nat × Nat × Nat × Nat} (M : MH m n ms dr F h) (R : MR n D K F) (hD : DK n D K) {k : Nat} (hk : k < n) (x y : Int32) {w g : Nat} (hw : w ≤ 64) (hg : g ≤ 64) {a c u v : Nat} (e : sh 0 0 (D k).2.1 (D k).2.2 x.toInt y.toInt w g = ((a : Int), (c : Int), u, v)) :
    ∃ h' F', fX6_clip m (nI k) x y (nI w) (nI g) h = some (nI (u * v), h') ∧ MH m n ms dr F' h' ∧ F' 4 = upd (upd (upd (upd (F 4) (4 * k) (nI a)) (4 * k + 1) (nI c)) (4 * k + 2) (nI u)) (4 * k + 3) (nI v) ∧ ∀ j, j ≠ 4 → F' j = F j := by
  have hd := hD.2 k hk
  have hn := hD.1
  have rx := i_rng x
  have ry := i_rng y
  obtain ⟨-, r2, r3, -⟩ := R.1 k hk
  have e2 := M.ai 2 (j := k) (by decide) (by show k < 8; omega)
  have e3 := M.ai 3 (j := k) (by decide) (by show k < 8; omega)
  rw [r2] at e2
  rw [r3] at e3
  have tw : (nI w).toInt = w := nI_toInt (by omega)
  have tg : (nI g).toInt = g := nI_toInt (by omega)
  have z0 : (0 : Int64) = iL 0 := rfl
  unfold sh at e
  simp only [Int.zero_add] at e
  have main : fX6_clip_48 (some m) (nI k) x y (nI w) (nI g) (iL (max 0 x.toInt)) (iL (max 0 y.toInt)) h = fX6_clip_111 (some m) (nI k) (iL (max 0 x.toInt)) (iL (max 0 y.toInt)) (iL (min (x.toInt + w) (D k).2.1 - max 0 x.toInt)) (iL (min (y.toInt + g) (D k).2.2 - max 0 y.toInt)) (if min (x.toInt + w) (D k).2.1 - max 0 x.toInt ≤ 0 ∨ min (y.toInt + g) (D k).2.2 - max 0 y.toInt ≤ 0 then 0 else 1) h := by
    unfold fX6_clip_48 fX6_clip_110
    rw [M.q2, hb_s, e2, hb_s, i2L, nI_L (show w < 2 ^ 31 by omega), nI_L (show (D k).2.1 < 2 ^ 31 by omega), iL_add, m_lesser (by unfold sm; omega) (by unfold sm; omega), hb2_s, hlet_s, iL_sub, M.q3, hb_s, e3, hb_s, i2L, nI_L (show g < 2 ^ 31 by omega), nI_L (show (D k).2.2 < 2 ^ 31 by omega), iL_add, m_lesser (by unfold sm; omega) (by unfold sm; omega), hb2_s, hlet_s, iL_sub, z0]
    simp only [lg_le, iL_le (a := min (x.toInt + w) (D k).2.1 - max 0 x.toInt) (b := 0) (by omega) (by omega), iL_le (a := min (y.toInt + g) (D k).2.2 - max 0 y.toInt) (b := 0) (by omega) (by omega)]
    by_cases q1 : min (x.toInt + w) (D k).2.1 - max 0 x.toInt ≤ 0
    · rw [if_pos q1, if_pos (Or.inl q1)]
    · rw [if_neg q1]
      by_cases q2 : min (y.toInt + g) (D k).2.2 - max 0 y.toInt ≤ 0
      · rw [if_pos q2, if_pos (Or.inr q2)]
      · rw [if_neg q2, if_neg (by omega)]
  have m1 : min (x.toInt + w) (D k).2.1 = min ((D k).2.1 : Int) (x.toInt + w) := by omega
  have m2 : min (y.toInt + g) (D k).2.2 = min ((D k).2.2 : Int) (y.toInt + g) := by omega
  rw [m1, m2] at main
  have P111 := m_clip111 M (k := k) (by omega) (iL (max 0 x.toInt)) (iL (max 0 y.toInt)) (iL (min ((D k).2.1 : Int) (x.toInt + w) - max 0 x.toInt)) (iL (min ((D k).2.2 : Int) (y.toInt + g) - max 0 y.toInt)) (if min ((D k).2.1 : Int) (x.toInt + w) - max 0 x.toInt ≤ 0 ∨ min ((D k).2.2 : Int) (y.toInt + g) - max 0 y.toInt ≤ 0 then 0 else 1) (a := a) (c := c) (u := u) (v := v)
  simp only [iL_I] at P111
  obtain ⟨h', F', p1, p2, p3, p4⟩ := P111 (by
      by_cases q : min ((D k).2.1 : Int) (x.toInt + w) - max 0 x.toInt ≤ 0 ∨ min ((D k).2.2 : Int) (y.toInt + g) - max 0 y.toInt ≤ 0
      · rw [if_pos q] at e ⊢; rw [if_pos rfl]; injection e with e1 _; rw [show a = 0 by omega]; rfl
      · rw [if_neg q] at e ⊢; rw [if_neg (by decide)]; injection e with e1 _; rw [e1, iI_nat])
    (by
      by_cases q : min ((D k).2.1 : Int) (x.toInt + w) - max 0 x.toInt ≤ 0 ∨ min ((D k).2.2 : Int) (y.toInt + g) - max 0 y.toInt ≤ 0
      · rw [if_pos q] at e ⊢; rw [if_pos rfl]; injection e with _ e1; injection e1 with e1 _; rw [show c = 0 by omega]; rfl
      · rw [if_neg q] at e ⊢; rw [if_neg (by decide)]; injection e with _ e1; injection e1 with e1 _; rw [e1, iI_nat])
    (by
      by_cases q : min ((D k).2.1 : Int) (x.toInt + w) - max 0 x.toInt ≤ 0 ∨ min ((D k).2.2 : Int) (y.toInt + g) - max 0 y.toInt ≤ 0
      · rw [if_pos q] at e ⊢; rw [if_pos rfl]; injection e with _ e1; injection e1 with _ e1; injection e1 with e1 _; rw [← e1]; rfl
      · rw [if_neg q] at e ⊢; rw [if_neg (by decide)]; injection e with _ e1; injection e1 with _ e1; injection e1 with e1 _; rw [← e1, ← iI_nat]; congr 1; omega)
    (by
      by_cases q : min ((D k).2.1 : Int) (x.toInt + w) - max 0 x.toInt ≤ 0 ∨ min ((D k).2.2 : Int) (y.toInt + g) - max 0 y.toInt ≤ 0
      · rw [if_pos q] at e ⊢; rw [if_pos rfl]; injection e with _ e1; injection e1 with _ e1; injection e1 with _ e1; rw [← e1]; rfl
      · rw [if_neg q] at e ⊢; rw [if_neg (by decide)]; injection e with _ e1; injection e1 with _ e1; injection e1 with _ e1; rw [← e1, ← iI_nat]; congr 1; omega)
  refine ⟨h', F', ?_, p2, p3, p4⟩
  unfold fX6_clip
  rw [M.rc, hb_s, (m_isSurface M hn (nI k)).2 k hk rfl, hb2_s, if_neg (by decide), bif_t (m_isSpan (nI w) h) (by omega), hb2_s, if_neg (by decide), bif_t (m_isSpan (nI g) h) (by omega), hb2_s, if_neg (by decide)]
  have E36 : ∀ s0 : Int64, s0 = iL (max 0 x.toInt) → fX6_clip_36 (some m) (nI k) x y (nI w) (nI g) s0 h = some (nI (u * v), h') := by
    rintro s0 rfl
    unfold fX6_clip_36
    by_cases q : 0 ≤ y
    · rw [if_pos q, i2L, show y.toInt = max 0 y.toInt from by rw [i_le, Int32.toInt_zero] at q; omega]
      rw [← show y.toInt = max 0 y.toInt from by rw [i_le, Int32.toInt_zero] at q; omega]
      rw [show iL y.toInt = iL (max 0 y.toInt) from by congr 1; rw [i_le, Int32.toInt_zero] at q; omega, main]
      exact p1
    · rw [if_neg q, z0, show (iL 0) = iL (max 0 y.toInt) from by congr 1; rw [i_le, Int32.toInt_zero] at q; omega, main]
      exact p1
  by_cases q : 0 ≤ x
  · rw [if_pos q]
    exact E36 _ (by rw [i2L]; congr 1; rw [i_le, Int32.toInt_zero] at q; omega)
  · rw [if_neg q]
    exact E36 _ (by rw [z0]; congr 1; rw [i_le, Int32.toInt_zero] at q; omega)
theorem ag_clip (b m : Nat) (s x y w g : Int32) : AO b m (fX5_clip b s x y w g) (fX6_clip m s x y w g) := by
  intro hc hm hAG
  have hAG0 := hAG
  obtain ⟨n, S, C, P, D, K, Z, tk, G, Y, ms, dr, F, H, M, R, hDR, hSR⟩ := hAG
  have hn := H.dk.1
  by_cases hs : isf n s
  · obtain ⟨k, hk, rfl⟩ := isf_nI (by omega) hs
    have hd := H.dk.2 k hk
    have hsc := (p_surfaceAt H (nI k)).2 k hk rfl
    have hsm := (m_isSurface M hn (nI k)).2 k hk rfl
    by_cases qw : 0 ≤ w.toInt ∧ w.toInt ≤ 64
    · by_cases qg : 0 ≤ g.toInt ∧ g.toInt ≤ 64
      · obtain ⟨w', rfl, ew⟩ := i_nat qw.1
        obtain ⟨g', rfl, eg⟩ := i_nat qg.1
        obtain ⟨a, c, u, v, e, hu, hv⟩ := sh_clip (W := (D k).2.1) (V := (D k).2.2) (w := w') (g := g') (x := x.toInt) (y := y.toInt)
        obtain ⟨hm', F', em, M', F4, Fj⟩ := m_clip M R H.dk hk x y (w := w') (g := g') (by omega) (by omega) e
        have N1 := (H.new (aC x.toInt y.toInt w' g'))
        have w1 := N1.1.war hk
        have sx := sm_i x
        have sy := sm_i y
        have sh1 := p_shared w1 (ar_new hc x.toInt y.toInt w' g') sm_0 sm_0 (by omega) (by omega) sx sy (by omega) (by omega)
        rw [e] at sh1
        have N2 := (N1.1.new (aC a c u v))
        have ac : ar (hm_n (hm_n hc (aC x.toInt y.toInt w' g')) (aC a c u v)) (hc.2 + 1) a c u v := ar_new (hm_n hc (aC x.toInt y.toInt w' g')) a c u v
        obtain ⟨hc', ec, H'⟩ := N2.1.clip hk ac hu hv
        refine ⟨nI (u * v), hc', hm', ?_, em, n, S, _, P, D, _, Z, tk, G, Y, ms, dr, F', H', M', ⟨fun i hi => ?_, fun i j p1 p2 p3 => ?_⟩, fun i x y p1 p2 p3 => ?_, hSR.keep (Fj 8 (by decide)) (Fj 9 (by decide))⟩
        · unfold fX5_clip
          rw [H.brc, hb_s, hsc, hb2_s, if_neg (by simp), bif_t (p_isSide (nI w') hc) qw, hb2_s, if_neg (by decide), bif_t (p_isSide (nI g') hc) qg, hb2_s, if_neg (by decide), H.swq hk, hb_s, hlet_s, p_area, hb_s, i2L, i2L]
          show hm_b (hm_rc 0 (hm_n hc (aC x.toInt y.toInt w' g')) (some (S k + 1))) _ = _
          rw [ar_rc w1, hb_s]
          show hm_b2 (fX0_shared (S k + 1) (some hc.2) (hm_n hc (aC x.toInt y.toInt w' g'))) _ = _
          rw [sh1, hb2_s]
          show hm_b (hm_p 3 4 (va_rf (some (hc.2 + 1))) (hm_n (hm_n hc (aC x.toInt y.toInt w' g')) (aC a c u v)) (some (S k))) _ = _
          rw [ec, hb_s, H'.scq hk, hb_s, va_up_self]
          have ac' : ar hc' (hc.2 + 1) a c u v := by
            have := H'.car hk
            simp only [va_up_self] at this
            exact this
          rw [ar_rc ac', hb_s, p_size ac', hb2_s]
        · rw [Fj 1 (by decide), Fj 2 (by decide), Fj 3 (by decide), F4]
          have := R.1 i hi
          by_cases e : i = k
          · subst e
            simp only [va_up_self]
            refine ⟨this.1, this.2.1, this.2.2.1, ?_, ?_, ?_, upd_s⟩
            · rw [upd_n (by omega), upd_n (by omega), upd_n (by omega), upd_s]
            · rw [upd_n (by omega), upd_n (by omega), upd_s]
            · rw [upd_n (by omega), upd_s]
          · simp only [va_up_ne _ _ e]
            rw [upd_n (by omega), upd_n (by omega), upd_n (by omega), upd_n (by omega), upd_n (by omega), upd_n (by omega), upd_n (by omega), upd_n (by omega), upd_n (by omega), upd_n (by omega), upd_n (by omega), upd_n (by omega), upd_n (by omega), upd_n (by omega), upd_n (by omega), upd_n (by omega)]
            exact this
        · rw [Fj 5 (by decide)]
          exact R.2 i j p1 p2 p3
        · rw [Fj 5 (by decide)]
          exact hDR i x y p1 p2 p3
      · refine ⟨-1, hc, hm, ?_, ?_, hAG0⟩
        · unfold fX5_clip
          rw [H.brc, hb_s, hsc, hb2_s, if_neg (by simp), bif_t (p_isSide w hc) qw, hb2_s, if_neg (by decide), bif_f (p_isSide g hc) qg, hb2_s, if_pos rfl]
        · unfold fX6_clip
          rw [M.rc, hb_s, hsm, hb2_s, if_neg (by decide), bif_t (m_isSpan w hm) qw, hb2_s, if_neg (by decide), bif_f (m_isSpan g hm) qg, hb2_s, if_pos rfl]
    · refine ⟨-1, hc, hm, ?_, ?_, hAG0⟩
      · unfold fX5_clip
        rw [H.brc, hb_s, hsc, hb2_s, if_neg (by simp), bif_f (p_isSide w hc) qw, hb2_s, if_pos rfl]
      · unfold fX6_clip
        rw [M.rc, hb_s, hsm, hb2_s, if_neg (by decide), bif_f (m_isSpan w hm) qw, hb2_s, if_pos rfl]
  · refine ⟨-1, hc, hm, ?_, ?_, hAG0⟩
    · unfold fX5_clip
      rw [H.brc, hb_s, (p_surfaceAt H s).1 hs, hb2_s, if_pos rfl]
    · unfold fX6_clip
      rw [M.rc, hb_s, (m_isSurface M hn s).1 hs, hb2_s, if_pos rfl]
