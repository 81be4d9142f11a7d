/-! copy, keyed, masked, spread -/
def PF {γ : Type} (b : Nat) (s x y w g t u v : Int32) (h : hm_H) (k : Option Nat → hm_H → Option γ) : Option γ :=
  hm_b (hm_rc 5 h (some b)) fun b2 =>
  hm_b2 (fX5_surfaceAt b2 s h) fun v3 h1 =>
  hm_let (hm_n h1 (.inr (0, [.long 0, .long 0, .int 0, .int 0]))) fun h4 =>
  hm_b (fX0_init h1.2 (x.toInt64) (y.toInt64) w g h4) fun h5 =>
  hm_b (hm_rc 5 h5 (some b)) fun b7 =>
  hm_b2 (fX5_surfaceAt b7 t h5) fun v8 h6 =>
  hm_b2 (fX5_moveOf v3 (some h1.2) v8 u v h6) k
def mv_ok (n : Nat) (s w g t : Int32) : Prop := isf n s ∧ isf n t ∧ (0 ≤ w.toInt ∧ w.toInt ≤ 64) ∧ (0 ≤ g.toInt ∧ g.toInt ≤ 64)
section PFS
variable {b n : Nat} {S C P : Nat → Nat} {D : Nat → Nat × Nat × Nat} {K : Nat → Nat × Nat × Nat × Nat} {Z : Nat → Int32 × Int32} {tk : Nat → Int32} {G Y : Nat → Nat → Int32} {h : hm_H}
theorem pf_no (H : CH b n S C P D K Z tk G Y h) (s x y w g t u v : Int32) (hn : ¬ mv_ok n s w g t) : ∃ h', CH b n S C P D K Z tk G Y h' ∧ ∀ {γ : Type} (k : Option Nat → hm_H → Option γ), PF b s x y w g t u v h k = k none h' := by
  have hn8 := H.dk.1
  obtain ⟨H1, o1⟩ := H.new (.inr (0, [.long x.toInt64, .long y.toInt64, .int w, .int g]))
  refine ⟨_, H1, fun k => ?_⟩
  have aw : hm_gi 0 2 (hm_n h (.inr (0, [.long x.toInt64, .long y.toInt64, .int w, .int g]))) (some h.2) = some w := ob_gi (hn_self h _) rfl
  have ag : hm_gi 0 3 (hm_n h (.inr (0, [.long x.toInt64, .long y.toInt64, .int w, .int g]))) (some h.2) = some g := ob_gi (hn_self h _) rfl
  unfold PF
  by_cases q1 : isf n s
  · obtain ⟨kf, hf, rfl⟩ := isf_nI (by omega) q1
    rw [H.brc, hb_s, (p_surfaceAt H (nI kf)).2 kf hf rfl, hb2_s, hlet_s, p_area, hb_s, H1.brc, hb_s]
    by_cases q2 : isf n t
    · obtain ⟨kt, ht, rfl⟩ := isf_nI (by omega) q2
      rw [(p_surfaceAt H1 (nI kt)).2 kt ht rfl, hb2_s]
      unfold fX5_moveOf
      rw [if_neg (by simp), if_neg (by simp), aw, hb_s]
      by_cases q3 : 0 ≤ w.toInt ∧ w.toInt ≤ 64
      · rw [bif_t (p_isSide w _) q3, hb2_s, if_neg (by decide), ag, hb_s]
        by_cases q4 : 0 ≤ g.toInt ∧ g.toInt ≤ 64
        · exact absurd ⟨q1, q2, q3, q4⟩ hn
        · rw [bif_f (p_isSide g _) q4, hb2_s, if_pos rfl, hb2_s]
      · rw [bif_f (p_isSide w _) q3, hb2_s, if_pos rfl, hb2_s]
    · rw [(p_surfaceAt H1 t).1 q2, hb2_s]
      unfold fX5_moveOf
      rw [if_neg (by simp), if_pos rfl, hb2_s]
  · rw [H.brc, hb_s, (p_surfaceAt H s).1 q1, hb2_s, hlet_s, p_area, hb_s, H1.brc, hb_s]
    by_cases q2 : isf n t
    · obtain ⟨kt, ht, rfl⟩ := isf_nI (by omega) q2
      rw [(p_surfaceAt H1 (nI kt)).2 kt ht rfl, hb2_s]
      unfold fX5_moveOf
      rw [if_pos rfl, hb2_s]
    · rw [(p_surfaceAt H1 t).1 q2, hb2_s]
      unfold fX5_moveOf
      rw [if_pos rfl, hb2_s]
theorem pf_ok (H : CH b n S C P D K Z tk G Y h) {kf kt : Nat} (hf : kf < n) (ht : kt < n) (x y u v : Int32) {w g l t tw tg : Nat} (hw : w ≤ 64) (hg : g ≤ 64) (eT : tgR x.toInt y.toInt u.toInt v.toInt (D kf).2.1 (D kf).2.2 (K kt).1 (K kt).2.1 (K kt).2.2.1 (K kt).2.2.2 w g = ((l : Int), (t : Int), tw, tg)) : ∃ h' mv ta sa, CH b n S C P D K Z tk G Y h' ∧ ob h' mv 1 [.ref (S kf), .ref (S kt), .ref sa, .ref ta] ∧ ar h' ta l t tw tg ∧ ar h' sa ((l : Int) + -(u.toInt - x.toInt)) ((t : Int) + -(v.toInt - y.toInt)) tw tg ∧ ∀ {γ : Type} (k : Option Nat → hm_H → Option γ), PF b (nI kf) x y (nI w) (nI g) (nI kt) u v h k = k (some mv) h' := by
  have hn8 := H.dk.1
  obtain ⟨H1, o1⟩ := H.new (aC x.toInt y.toInt w g)
  have A1 := ar_new h x.toInt y.toInt w g
  obtain ⟨h', mv, ta, sa, e, H', o', m', T', S'⟩ := p_move hf ht H1 x y u v A1 hw hg
  rw [eT] at T' S'
  refine ⟨h', mv, ta, sa, H', m', T', S', fun k => ?_⟩
  unfold PF
  rw [H.brc, hb_s, (p_surfaceAt H (nI kf)).2 kf hf rfl, hb2_s, hlet_s, p_area, hb_s, i2L, i2L]
  show hm_b (hm_rc 5 (hm_n h (aC x.toInt y.toInt w g)) (some b)) _ = _
  rw [H1.brc, hb_s]
  show hm_b2 (fX5_surfaceAt b (nI kt) (hm_n h (aC x.toInt y.toInt w g))) _ = _
  rw [(p_surfaceAt H1 (nI kt)).2 kt ht rfl, hb2_s, e, hb2_s]
theorem take_bsv {F : Nat → Nat → Int32} (hDR : DR n D G F) {kf : Nat} (hf : kf < n) {x y u v : Int} {l t tw tg : Nat} {c cw d dw : Nat} {tk1 : Nat → Int32} (I : ∀ row col, row < tg → col < tw → tk1 (row * tw + col) = G kf ((((t : Int) + -(v - y)).toNat + row) * (D kf).2.1 + (((l : Int) + -(u - x)).toNat + col))) (hs : 0 < tg → ∃ sl st : Nat, (l : Int) + -(u - x) = sl ∧ (t : Int) + -(v - y) = st ∧ sl + tw ≤ (D kf).2.1 ∧ st + tg ≤ (D kf).2.2) {a b' p q : Nat} (ga : inb x u (D kf).2.1 c cw a = true) (gb : inb y v (D kf).2.2 d dw b' = true) (ep : (p : Int) = u + a) (eq : (q : Int) = v + b') (hp : l ≤ p ∧ p < l + tw) (hq : t ≤ q ∧ q < t + tg) : tk1 ((q - t) * tw + (p - l)) = bsv F kf x y a b' ∧ ∃ r, r < 2 ^ (D kf).1 ∧ bsv F kf x y a b' = nI r := by
  obtain ⟨sl, st, e1, e2, b1, b2⟩ := hs (by omega)
  have ga' := inb_t.mp ga
  have gb' := inb_t.mp gb
  rw [I (q - t) (p - l) (by omega) (by omega), show (((t : Int) + -(v - y)).toNat + (q - t)) = (y + b').toNat by omega, show (((l : Int) + -(u - x)).toNat + (p - l)) = (x + a).toNat by omega]
  have := hDR kf (x + a).toNat (y + b').toNat hf (by omega) (by omega)
  unfold bsv
  exact ⟨this.1, this.2⟩
end PFS
theorem m_areAlike {m n : Nat} {ms dr : Int32} {F : Nat → Nat → Int32} {h : hm_H} {D : Nat → Nat × Nat × Nat} {K : Nat → Nat × Nat × Nat × Nat} (M : MH m n ms dr F h) (R : MR n D K F) (hD : DK n D K) (s t w g : Int32) :
    (¬ mv_ok n s w g t → fX6_areAlike m s t w g h = some (0, h)) ∧ (∀ kf kt, kf < n → kt < n → s = nI kf → t = nI kt → (0 ≤ w.toInt ∧ w.toInt ≤ 64) → (0 ≤ g.toInt ∧ g.toInt ≤ 64) → fX6_areAlike m s t w g h = some (if (D kf).1 = (D kt).1 then 1 else 0, h)) := by
  have hn := hD.1
  constructor
  · intro hno
    unfold fX6_areAlike
    by_cases q1 : isf n s
    · obtain ⟨kf, hf, rfl⟩ := isf_nI (by omega) q1
      rw [M.rc, hb_s, (m_isSurface M hn (nI kf)).2 kf hf rfl, hb2_s, if_neg (by decide), M.rc, hb_s]
      by_cases q2 : isf n t
      · obtain ⟨kt, ht, rfl⟩ := isf_nI (by omega) q2
        rw [(m_isSurface M hn (nI kt)).2 kt ht rfl, hb2_s, if_neg (by decide)]
        by_cases q3 : 0 ≤ w.toInt ∧ w.toInt ≤ 64
        · rw [bif_t (m_isSpan w h) q3, hb2_s, if_neg (by decide)]
          by_cases q4 : 0 ≤ g.toInt ∧ g.toInt ≤ 64
          · exact absurd ⟨q1, q2, q3, q4⟩ hno
          · rw [bif_f (m_isSpan g h) q4, hb2_s, if_pos rfl]
        · rw [bif_f (m_isSpan w h) q3, hb2_s, if_pos rfl]
      · rw [(m_isSurface M hn t).1 q2, hb2_s, if_pos rfl]
    · rw [M.rc, hb_s, (m_isSurface M hn s).1 q1, hb2_s, if_pos rfl]
  · rintro kf kt hf ht rfl rfl q3 q4
    have hdf := hD.2 kf hf
    have hdt := hD.2 kt ht
    have e1 := M.ai 1 (j := kf) (by decide) (by show kf < 8; omega)
    have e2 := M.ai 1 (j := kt) (by decide) (by show kt < 8; omega)
    rw [(R.1 kf hf).1] at e1
    rw [(R.1 kt ht).1] at e2
    unfold fX6_areAlike
    rw [M.rc, hb_s, (m_isSurface M hn (nI kf)).2 kf hf rfl, hb2_s, if_neg (by decide), M.rc, hb_s, (m_isSurface M hn (nI kt)).2 kt ht rfl, hb2_s, if_neg (by decide), bif_t (m_isSpan w h) q3, hb2_s, if_neg (by decide), bif_t (m_isSpan g h) q4, hb2_s, if_neg (by decide), M.q1, hb_s, e1, hb_s, hb_s, e2, hb_s]
    have ee : nI (D kf).1 = nI (D kt).1 ↔ (D kf).1 = (D kt).1 := nI_eq (by omega) (by omega)
    by_cases q : (D kf).1 = (D kt).1
    · rw [if_pos (ee.mpr q), if_pos q]
    · rw [if_neg (fun z => q (ee.mp z)), if_neg q]
theorem m_keepsDepth {b n : Nat} {S C P : Nat → Nat} {D : Nat → Nat × Nat × Nat} {K : Nat → Nat × Nat × Nat × Nat} {Z : Nat → Int32 × Int32} {tk : Nat → Int32} {G Y : Nat → Nat → Int32} {h : hm_H} (H : CH b n S C P D K Z tk G Y h) {kf kt mv sa ta : Nat} (hf : kf < n) (ht : kt < n) (o : ob h mv 1 [.ref (S kf), .ref (S kt), .ref sa, .ref ta]) : fX1_keepsDepth mv h = some (if (D kf).1 = (D kt).1 then 1 else 0, h) := by
  have hdf := H.dk.2 kf hf
  have hdt := H.dk.2 kt ht
  unfold fX1_keepsDepth
  rw [ob_gq o (v := S kf) rfl, hb_s, H.sdp hf, hb_s, ob_gq o (v := S kt) rfl, hb_s, H.sdp ht, hb_s]
  have ee : nI (D kf).1 = nI (D kt).1 ↔ (D kf).1 = (D kt).1 := nI_eq (by omega) (by omega)
  by_cases q : (D kf).1 = (D kt).1
  · rw [if_pos (ee.mpr q), if_pos q]
  · rw [if_neg (fun z => q (ee.mp z)), if_neg q]
theorem nI_nm1 {v : Nat} (hv : v < 2 ^ 31) : ¬ nI v = -1 := fun e => by
  have h1 := nI_toInt hv
  rw [e] at h1
  have : (-1 : Int32).toInt = -1 := rfl
  omega
theorem ag_copy (b m : Nat) (s x y w g t u v op : Int32) : AO b m (fX5_copy b s x y w g t u v op) (fX6_copy m s x y w g t u v op) := by
  intro hc hm hAG
  have hAG0 := hAG
  obtain ⟨n, S, C, P, D, K, Z, tk, G, Y, ms, dr, F, H, M, R, hDR, hSR⟩ := hAG
  have hn := H.dk.1
  have t16 : (16 : Int32).toInt = 16 := rfl
  have no31 : fX6_copy_31 (some m) s x y w g t u v op 0 hm = some (-1, hm) := by rw [fX6_copy_31, if_pos rfl]
  by_cases q : mv_ok n s w g t
  · obtain ⟨q1, q2, q3, q4⟩ := q
    obtain ⟨kf, hf, rfl⟩ := isf_nI (by omega) q1
    obtain ⟨kt, ht, rfl⟩ := isf_nI (by omega) q2
    obtain ⟨w', rfl, ew⟩ := i_nat q3.1
    obtain ⟨g', rfl, eg⟩ := i_nat q4.1
    have hdf := H.dk.2 kf hf
    have hdt := H.dk.2 kt ht
    obtain ⟨l, tt, tw, tg, eT, bl, bt', tw64, tg64, ecq, hsrc, inT, ofT⟩ := tg_all H.dk hf ht x.toInt y.toInt u.toInt v.toInt (w := w') (g := g') (by omega) (by omega)
    obtain ⟨h1, mv, ta, sa, H1, m1, T1, S1, pf⟩ := pf_ok H hf ht x y u v (by omega) (by omega) eT
    have al := (m_areAlike M R H.dk (nI kf) (nI kt) (nI w') (nI g')).2 kf kt hf ht rfl rfl q3 q4
    have kd := m_keepsDepth H1 hf ht m1
    by_cases qd : (D kf).1 = (D kt).1
    · by_cases qo : 0 ≤ op.toInt ∧ op.toInt ≤ 15
      · obtain ⟨tk2, h2, e2, H2, o2, I2⟩ := p_takeDots hf H1 m1 rfl rfl S1 tg64 hsrc
        have m2 := o2.ob m1
        have T2 := o2.ar T1
        obtain ⟨f, h3, e3, H3, o3, I3⟩ := p_putDots ht H2 op T2 bl bt'
        have m3 := o3.ob m2
        have T3 := o3.ar T2
        obtain ⟨F2, hm', em, M', Fj, F5o, b1, b2⟩ := m_bring M R H.dk (kf := kf) (kt := kt) (way := 0) (km := 0) (w := w') (g := g') hf ht (by decide) (one := op) 0 (fun z => absurd z (by decide)) x y u v (by omega) (by omega)
        rw [ecq] at em
        refine ⟨nI (tw * tg), h3, hm', ?_, ?_, n, S, C, P, D, K, Z, tk2, _, Y, ms, dr, F2, H3, M', R.keep (Fj 1 (by decide) (by decide) (by decide)) (Fj 2 (by decide) (by decide) (by decide)) (Fj 3 (by decide) (by decide) (by decide)) (Fj 4 (by decide) (by decide) (by decide)) (fun i j _ _ _ => F5o _ (by omega)), ?_, hSR.keep (Fj 8 (by decide) (by decide) (by decide)) (Fj 9 (by decide) (by decide) (by decide))⟩
        · unfold fX5_copy
          show PF b (nI kf) x y (nI w') (nI g') (nI kt) u v hc _ = _
          rw [pf, if_neg (by simp), ob_rc m1, hb_s, bif_t kd qd, hb2_s, if_neg (by decide), bif_t (p_isOperation op h1) qo, hb2_s, if_neg (by decide), H1.brc, hb_s, e2, hb_s, ob_gq m2 (v := S kt) rfl, hb_s, ob_gq m2 (v := ta) rfl, hb_s, H2.brc, hb_s, e3, hb_s, ob_gq m3 (v := ta) rfl, hb_s, ar_rc T3, hb_s, p_size T3, hb2_s]
        · unfold fX6_copy
          rw [M.rc, hb_s, bif_t al qd, hb2_s, if_neg (by decide), if_neg (by rw [i_lt0]; omega), if_neg (by rw [i_le, t16]; omega), fX6_copy_31, if_neg (by decide), M.rc, hb_s]
          show hm_b2 (fX6_bring m (nI kf) x y (nI w') (nI g') (nI kt) u v (nI 0) op 0 hm) _ = _
          rw [em, hb2_s]
        · refine blit_DR (way := 0) (km := 0) (one := op) (two := 0) (NV := fun p q => pv (D kt).1 op (tk2 ((q - tt) * tw + (p - l))) (G kt (q * (D kt).2.1 + p))) hDR H.dk hf ht inT ofT I3 b1 b2 F5o (fun a b' p q ha hb ga gb ep eq hp hq => ?_)
          have ii := inT a b' ha hb ga gb
          obtain ⟨c1, r, hr, c2⟩ := take_bsv hDR hf I2 hsrc ga gb ep eq (by omega) (by omega)
          have pw := pw_d hdf.1
          have old := (hDR kt p q ht hp hq).1
          have eb : bat u.toInt v.toInt a b' = 64 * q + p := by unfold bat; omega
          rw [c1]
          unfold pv
          rw [if_neg (by rw [c2]; exact nI_nm1 (by omega)), old]
          have e1 : bcm F D kf 0 0 op x.toInt y.toInt a b' = 1 := rfl
          rw [e1, if_neg (by decide)]
          unfold bfr
          rw [if_pos rfl, eb, show 4096 * kt + (64 * q + p) = 4096 * kt + 64 * q + p by omega]
          exact ⟨rfl, opD_lt hdt.1 _ _ _⟩
      · refine ⟨-1, h1, hm, ?_, ?_, n, S, C, P, D, K, Z, tk, G, Y, ms, dr, F, H1, M, R, hDR, hSR⟩
        · unfold fX5_copy
          show PF b (nI kf) x y (nI w') (nI g') (nI kt) u v hc _ = _
          rw [pf, if_neg (by simp), ob_rc m1, hb_s, bif_t kd qd, hb2_s, if_neg (by decide), bif_f (p_isOperation op h1) qo, hb2_s, if_pos rfl]
        · unfold fX6_copy fX6_copy_30
          rw [M.rc, hb_s, bif_t al qd, hb2_s, if_neg (by decide)]
          by_cases z : op < 0
          · rw [if_pos z]; exact no31
          · rw [if_neg z, if_pos (by rw [i_le, t16]; rw [i_lt0] at z; omega)]; exact no31
    · refine ⟨-1, h1, hm, ?_, ?_, n, S, C, P, D, K, Z, tk, G, Y, ms, dr, F, H1, M, R, hDR, hSR⟩
      · unfold fX5_copy
        show PF b (nI kf) x y (nI w') (nI g') (nI kt) u v hc _ = _
        rw [pf, if_neg (by simp), ob_rc m1, hb_s, bif_f kd qd, hb2_s, if_pos rfl]
      · unfold fX6_copy fX6_copy_30
        rw [M.rc, hb_s, bif_f al qd, hb2_s, if_pos rfl]
        exact no31
  · obtain ⟨h1, H1, pf⟩ := pf_no H s x y w g t u v q
    refine ⟨-1, h1, hm, ?_, ?_, n, S, C, P, D, K, Z, tk, G, Y, ms, dr, F, H1, M, R, hDR, hSR⟩
    · unfold fX5_copy
      show PF b s x y w g t u v hc _ = _
      rw [pf, if_pos rfl]
    · unfold fX6_copy fX6_copy_30
      rw [M.rc, hb_s, (m_areAlike M R H.dk s t w g).1 q, hb2_s, if_pos rfl]
      exact no31
