/-! the class's Move -/
section MVS
variable {b n : Nat} {S C P : Nat → Nat} {D : Nat → Nat × Nat × Nat} {K : Nat → Nat × Nat × Nat × Nat} {Z : Nat → Int32 × Int32} {tk : Nat → Int32} {G Y : Nat → Nat → Int32} {h : hm_H}
theorem CH.keep1 (H : CH b n S C P D K Z tk G Y h) {a : Nat} {fs : List Value} (s1 : ob h a 1 fs) {h1 : hm_H} (k1 : ∀ q, q ≠ a → h1.1 q = h.1 q) (g1 : h1.2 = h.2) : CH b n S C P D K Z tk G Y h1 := by
  obtain ⟨⟨o1, o2, o3⟩, ⟨⟨f1, a1, a1'⟩, ⟨f2, a2, a2'⟩, a3, a4, a5⟩, ⟨d1, d2, d3, d4, d5, d6⟩, hD⟩ := H
  have kob : ∀ {q ci : Nat} {fs : List Value}, ob h q ci fs → ci ≠ 1 → ob h1 q ci fs := fun {q ci fs} ho hne => (k1 q (ob_ne ho s1 hne)).trans ho
  refine ⟨⟨kob o1 (by decide), fun i hi => ⟨kob (o2 i hi).1 (by decide), kob (o2 i hi).2.1 (by decide), kob (o2 i hi).2.2 (by decide)⟩, fun j hj => kob (o3 j hj) (by decide)⟩, ⟨⟨f1, (k1 _ (Ne.symm (ob_qa_ne s1 a1))).trans a1, a1'⟩, ⟨f2, (k1 _ (Ne.symm (ob_qa_ne s1 a2))).trans a2, a2'⟩, (k1 _ (Ne.symm (ob_ia_ne s1 a3))).trans a3, fun i hi => (k1 _ (Ne.symm (ob_ia_ne s1 (a4 i hi)))).trans (a4 i hi), fun j hj => (k1 _ (Ne.symm (ob_ia_ne s1 (a5 j hj)))).trans (a5 j hj)⟩, ⟨fun i hi => by rw [g1]; exact d1 i hi, d2, d3, d4, by rw [g1]; exact d5, fun q hq => ?_⟩, hD⟩
  rw [g1] at hq
  by_cases e : q = a
  · subst e
    have := d6 q hq
    rw [s1] at this
    cases this
  · rw [k1 q e]
    exact d6 q hq
/-- the target of a move -/
def tgX (x u : Int) (W c cw w : Nat) : Int × Int := (max (max 0 x + (u - x)) c, min (min (W : Int) (x + w) + (u - x)) (c + cw) - max (max 0 x + (u - x)) c)
def tgR (x y u v : Int) (W V c d cw dw w g : Nat) : Int × Int × Nat × Nat := if (tgX x u W c cw w).2 ≤ 0 ∨ (tgX y v V d dw g).2 ≤ 0 then (0, 0, 0, 0) else ((tgX x u W c cw w).1, (tgX y v V d dw g).1, (tgX x u W c cw w).2.toNat, (tgX y v V d dw g).2.toNat)
theorem sh_move {x y u v : Int} {W V c d cw dw w g : Nat} : sh ((sh 0 0 W V x y w g).1 + (u - x)) ((sh 0 0 W V x y w g).2.1 + (v - y)) (sh 0 0 W V x y w g).2.2.1 (sh 0 0 W V x y w g).2.2.2 c d cw dw = tgR x y u v W V c d cw dw w g := by
  unfold tgR tgX
  by_cases q : min (W : Int) (x + w) - max 0 x ≤ 0 ∨ min (V : Int) (y + g) - max 0 y ≤ 0
  · have e : sh 0 0 W V x y w g = (0, 0, 0, 0) := by
      unfold sh
      simp only [Int.zero_add]
      rw [if_pos q]
    rw [e]
    unfold sh
    simp only
    rw [if_pos (by omega), if_pos (by omega)]
  · have e : sh 0 0 W V x y w g = (max 0 x, max 0 y, (min (W : Int) (x + w) - max 0 x).toNat, (min (V : Int) (y + g) - max 0 y).toNat) := by
      unfold sh
      simp only [Int.zero_add]
      rw [if_neg q]
    rw [e]
    unfold sh
    simp only
    have e1 : max 0 x + (u - x) + ((min (W : Int) (x + w) - max 0 x).toNat : Int) = min (W : Int) (x + w) + (u - x) := by omega
    have e2 : max 0 y + (v - y) + ((min (V : Int) (y + g) - max 0 y).toNat : Int) = min (V : Int) (y + g) + (v - y) := by omega
    rw [e1, e2]
theorem sh_bd {W V : Nat} {x y : Int} {w g : Nat} (hw : w ≤ 64) (hg : g ≤ 64) (hW : W ≤ 64) (hV : V ≤ 64) : 0 ≤ (sh 0 0 W V x y w g).1 ∧ (sh 0 0 W V x y w g).1 ≤ 64 ∧ 0 ≤ (sh 0 0 W V x y w g).2.1 ∧ (sh 0 0 W V x y w g).2.1 ≤ 64 ∧ (sh 0 0 W V x y w g).2.2.1 ≤ 64 ∧ (sh 0 0 W V x y w g).2.2.2 ≤ 64 := by
  unfold sh
  simp only [Int.zero_add]
  split
  · simp
  · simp only
    omega
/-- a move, made -/
theorem p_move {kf kt : Nat} (hf : kf < n) (ht : kt < n) (H : CH b n S C P D K Z tk G Y h) (x y u v : Int32) {w g ar0 : Nat} (A : ar h ar0 x.toInt y.toInt w g) (hw : w ≤ 64) (hg : g ≤ 64) :
    ∃ h' mv ta sa, fX5_moveOf (some (S kf)) (some ar0) (some (S kt)) u v h = some (some mv, h') ∧ CH b n S C P D K Z tk G Y h' ∧ obs h h' ∧ ob h' mv 1 [.ref (S kf), .ref (S kt), .ref sa, .ref ta] ∧
      ar h' ta (tgR x.toInt y.toInt u.toInt v.toInt (D kf).2.1 (D kf).2.2 (K kt).1 (K kt).2.1 (K kt).2.2.1 (K kt).2.2.2 w g).1 (tgR x.toInt y.toInt u.toInt v.toInt (D kf).2.1 (D kf).2.2 (K kt).1 (K kt).2.1 (K kt).2.2.1 (K kt).2.2.2 w g).2.1 (tgR x.toInt y.toInt u.toInt v.toInt (D kf).2.1 (D kf).2.2 (K kt).1 (K kt).2.1 (K kt).2.2.1 (K kt).2.2.2 w g).2.2.1 (tgR x.toInt y.toInt u.toInt v.toInt (D kf).2.1 (D kf).2.2 (K kt).1 (K kt).2.1 (K kt).2.2.1 (K kt).2.2.2 w g).2.2.2 ∧
      ar h' sa ((tgR x.toInt y.toInt u.toInt v.toInt (D kf).2.1 (D kf).2.2 (K kt).1 (K kt).2.1 (K kt).2.2.1 (K kt).2.2.2 w g).1 + -(u.toInt - x.toInt)) ((tgR x.toInt y.toInt u.toInt v.toInt (D kf).2.1 (D kf).2.2 (K kt).1 (K kt).2.1 (K kt).2.2.1 (K kt).2.2.2 w g).2.1 + -(v.toInt - y.toInt)) (tgR x.toInt y.toInt u.toInt v.toInt (D kf).2.1 (D kf).2.2 (K kt).1 (K kt).2.1 (K kt).2.2.1 (K kt).2.2.2 w g).2.2.1 (tgR x.toInt y.toInt u.toInt v.toInt (D kf).2.1 (D kf).2.2 (K kt).1 (K kt).2.1 (K kt).2.2.1 (K kt).2.2.2 w g).2.2.2 := by
  have hdf := H.dk.2 kf hf
  have hdt := H.dk.2 kt ht
  have rx := i_rng x
  have ry := i_rng y
  have ru := i_rng u
  have rv := i_rng v
  have tw : (nI w).toInt = w := nI_toInt (by omega)
  have tg : (nI g).toInt = g := nI_toInt (by omega)
  -- the new Move
  have fr : h.1 h.2 = none := H.2.2.1.2.2.2.2.2 _ (Nat.le_refl _)
  obtain ⟨H0, o0⟩ := H.new (.inr (1, [.null, .null, .null, .null]))
  have m0 : ob (hm_n h (.inr (1, [.null, .null, .null, .null]))) h.2 1 [.null, .null, .null, .null] := hn_self _ _
  have A0 := o0.ar A
  have e0 : fX5_moveOf (some (S kf)) (some ar0) (some (S kt)) u v h = (hm_b (fX1_init h.2 (some (S kf)) (some ar0) (some (S kt)) u v (hm_n h (.inr (1, [.null, .null, .null, .null])))) fun h8 => some (some h.2, h8)) := by
    unfold fX5_moveOf
    rw [if_neg (by simp), if_neg (by simp), ar_w A, hb_s, bif_t (p_isSide (nI w) h) (by omega), hb2_s, if_neg (by decide), ar_g A, hb_s, bif_t (p_isSide (nI g) h) (by omega), hb2_s, if_neg (by decide), hlet_s]
  rw [e0]
  generalize hm_n h (.inr (1, [.null, .null, .null, .null])) = h0 at H0 o0 m0 A0
  generalize h.2 = mv at m0 fr
  unfold fX1_init
  rw [ar_l A0, hb_s, hlet_s, ar_t A0, hb_s, hlet_s, i2L, i2L, iL_sub, iL_sub]
  obtain ⟨h1, p1, m1, k1, g1⟩ := st_p m0 (k := 0) (Nat.le_of_ble_eq_true rfl) (va_rf (some (S kf)))
  have H1 := H0.keep1 m0 k1 g1
  obtain ⟨h2, p2, m2, k2, g2⟩ := st_p m1 (k := 1) (Nat.le_of_ble_eq_true rfl) (va_rf (some (S kt)))
  have H2 := H1.keep1 m1 k2 g2
  have A2 : ar h2 ar0 x.toInt y.toInt w g := (k2 _ (ob_ne A0 m0 (by decide))).trans ((k1 _ (ob_ne A0 m0 (by decide))).trans A0)
  rw [p1, hb_s, p2, hb_s, H2.swq hf, hb_s, ar_rc (H2.war hf), hb_s, p_shared (H2.war hf) A2 sm_0 sm_0 (by omega) (by omega) (sm_i x) (sm_i y) (by omega) (by omega), hb2_s]
  have bd := sh_bd (W := (D kf).2.1) (V := (D kf).2.2) (x := x.toInt) (y := y.toInt) hw hg hdf.2.2.1 hdf.2.2.2.2.1
  generalize hs1 : sh 0 0 (D kf).2.1 (D kf).2.2 x.toInt y.toInt w g = s1 at bd ⊢
  obtain ⟨l1, t1, w1, g1'⟩ := s1
  simp only at bd ⊢
  obtain ⟨H3, o3⟩ := H2.new (aC l1 t1 w1 g1')
  have B3 : ar (hm_n h2 (aC l1 t1 w1 g1')) h2.2 l1 t1 w1 g1' := ar_new _ _ _ _ _
  have m3 := o3.ob m2
  have f3 : h2.2 ≠ (hm_n h2 (aC l1 t1 w1 g1')).2 := by rw [hn_2]; omega
  rw [ar_rc B3, hb_s, p_moved B3 f3, hb2_s]
  generalize hm_n h2 (aC l1 t1 w1 g1') = h3 at H3 o3 B3 m3 f3
  obtain ⟨H4, o4⟩ := H3.new (aC (l1 + (u.toInt - x.toInt)) (t1 + (v.toInt - y.toInt)) w1 g1')
  have B4 : ar (hm_n h3 (aC (l1 + (u.toInt - x.toInt)) (t1 + (v.toInt - y.toInt)) w1 g1')) h3.2 (l1 + (u.toInt - x.toInt)) (t1 + (v.toInt - y.toInt)) w1 g1' := ar_new _ _ _ _ _
  have m4 := o4.ob m3
  rw [H4.scq ht, hb_s, ar_rc B4, hb_s, p_shared B4 (H4.car ht) (by unfold sm; omega) (by unfold sm; omega) (by omega) (by omega) (by unfold sm; omega) (by unfold sm; omega) (by omega) (by omega), hb2_s]
  have sm1 := sh_move (x := x.toInt) (y := y.toInt) (u := u.toInt) (v := v.toInt) (W := (D kf).2.1) (V := (D kf).2.2) (c := (K kt).1) (d := (K kt).2.1) (cw := (K kt).2.2.1) (dw := (K kt).2.2.2) (w := w) (g := g)
  rw [hs1] at sm1
  simp only at sm1
  rw [sm1]
  generalize tgR x.toInt y.toInt u.toInt v.toInt (D kf).2.1 (D kf).2.2 (K kt).1 (K kt).2.1 (K kt).2.2.1 (K kt).2.2.2 w g = T
  generalize hm_n h3 (aC (l1 + (u.toInt - x.toInt)) (t1 + (v.toInt - y.toInt)) w1 g1') = h4 at H4 o4 m4
  obtain ⟨H5, o5⟩ := H4.new (aC T.1 T.2.1 T.2.2.1 T.2.2.2)
  have B5 : ar (hm_n h4 (aC T.1 T.2.1 T.2.2.1 T.2.2.2)) h4.2 T.1 T.2.1 T.2.2.1 T.2.2.2 := ar_new _ _ _ _ _
  have m5 := o5.ob m4
  have f5 : h4.2 < (hm_n h4 (aC T.1 T.2.1 T.2.2.1 T.2.2.2)).2 := by rw [hn_2]; omega
  generalize hm_n h4 (aC T.1 T.2.1 T.2.2.1 T.2.2.2) = h5 at H5 o5 B5 m5 f5
  obtain ⟨h6, p6, m6, k6, g6⟩ := st_p m5 (k := 3) (Nat.le_of_ble_eq_true rfl) (va_rf (some h4.2))
  have H6 := H5.keep1 m5 k6 g6
  have B6 : ar h6 h4.2 T.1 T.2.1 T.2.2.1 T.2.2.2 := (k6 _ (ob_ne B5 m5 (by decide))).trans B5
  rw [p6, hb_s, ob_gq m6 (v := h4.2) rfl, hb_s, ar_rc B6, hb_s, iL_neg, iL_neg, p_moved B6 (by omega), hb2_s]
  obtain ⟨H7, o7⟩ := H6.new (aC (T.1 + -(u.toInt - x.toInt)) (T.2.1 + -(v.toInt - y.toInt)) T.2.2.1 T.2.2.2)
  have B7 : ar (hm_n h6 (aC (T.1 + -(u.toInt - x.toInt)) (T.2.1 + -(v.toInt - y.toInt)) T.2.2.1 T.2.2.2)) h6.2 (T.1 + -(u.toInt - x.toInt)) (T.2.1 + -(v.toInt - y.toInt)) T.2.2.1 T.2.2.2 := ar_new _ _ _ _ _
  have m7 := o7.ob m6
  have C7 := o7.ar B6
  generalize hm_n h6 (aC (T.1 + -(u.toInt - x.toInt)) (T.2.1 + -(v.toInt - y.toInt)) T.2.2.1 T.2.2.2) = h7 at H7 o7 B7 m7 C7
  obtain ⟨h8, p8, m8, k8, g8⟩ := st_p m7 (k := 2) (Nat.le_of_ble_eq_true rfl) (va_rf (some h6.2))
  have H8 := H7.keep1 m7 k8 g8
  rw [p8, hb_s, hb_s]
  -- no object of the start has changed: the Move is new
  refine ⟨h8, mv, h4.2, h6.2, rfl, H8, fun a o e => ?_, m8, (k8 _ (ob_ne C7 m7 (by decide))).trans C7, (k8 _ (ob_ne B7 m7 (by decide))).trans B7⟩
  have ne : a ≠ mv := fun z => by rw [z, fr] at e; cases e
  rw [k8 a ne]
  refine o7 a o ?_
  rw [k6 a ne]
  refine o5 a o (o4 a o (o3 a o ?_))
  rw [k2 a ne, k1 a ne]
  exact o0 a o e
/-- a key's dots stay -/
theorem p_dropKey (H : CH b n S C P D K Z tk G Y h) {z : Nat} (hz : z ≤ 4096) (key : Int32) : ∃ tk' h', fX5_dropKey b (nI z) key h = some h' ∧ CH b n S C P D K Z tk' G Y h' ∧ obs h h' ∧ ∀ j, j < z → tk' j = if tk j = key then -1 else tk j := by
  have lp : ∀ r j fu tk1 h, j + r = z → r < fu → CH b n S C P D K Z tk1 G Y h → (∀ i, i < j → tk1 i = if tk i = key then -1 else tk i) → (∀ i, j ≤ i → tk1 i = tk i) → ∃ tk' h', hm_loop (fun _ _ _ _ _ => none) fX5_dropKey_2 fu (some b) (nI z) key (nI j) h = some h' ∧ CH b n S C P D K Z tk' G Y h' ∧ obs h h' ∧ ∀ j, j < z → tk' j = if tk j = key then -1 else tk j := by
    intro r
    induction r with
    | zero =>
      intro j fu tk1 h hj hfu H I O
      obtain ⟨fu, rfl⟩ : ∃ q, fu = q + 1 := ⟨fu - 1, by omega⟩
      refine ⟨tk1, h, ?_, H, obs.rf h, fun i hi => I i (by omega)⟩
      rw [hm_loop_s, fX5_dropKey_2, if_pos (nI_le (by omega) (by omega))]
    | succ r ih =>
      intro j fu tk1 h hj hfu H I O
      obtain ⟨fu, rfl⟩ : ∃ q, fu = q + 1 := ⟨fu - 1, by omega⟩
      have ej := O j (Nat.le_refl _)
      by_cases q : tk j = key
      · obtain ⟨h1, e1, H1, o1⟩ := H.tk1 (j := j) (by omega) (-1)
        obtain ⟨tk', h', e', H', o', I'⟩ := ih (j + 1) fu _ h1 (by omega) (by omega) H1 (fun i hi => by
          by_cases e : i = j
          · subst e; rw [upd_s, if_pos q]
          · rw [upd_n e]; exact I i (by omega)) (fun i hi => by rw [upd_n (by omega)]; exact O i (by omega))
        refine ⟨tk', h', ?_, H', o1.tr o', I'⟩
        rw [hm_loop_s, fX5_dropKey_2, if_neg (nI_ge (by omega) (by omega)), H.tkq, hb_s, H.tkr (by omega), hb_s, ej, if_pos q, hb_s, e1, hb_s, fX5_dropKey_24, nI_1]
        exact e'
      · obtain ⟨tk', h', e', H', o', I'⟩ := ih (j + 1) fu tk1 h (by omega) (by omega) H (fun i hi => by
          by_cases e : i = j
          · subst e; rw [ej, if_neg q]
          · exact I i (by omega)) (fun i hi => O i (by omega))
        refine ⟨tk', h', ?_, H', o', I'⟩
        rw [hm_loop_s, fX5_dropKey_2, if_neg (nI_ge (by omega) (by omega)), H.tkq, hb_s, H.tkr (by omega), hb_s, ej, if_neg q, fX5_dropKey_24, nI_1]
        exact e'
  obtain ⟨tk', h', e', H', o', I'⟩ := lp z 0 hm_fu tk h (by omega) (by unfold hm_fu; omega) H (fun i hi => absurd hi (by omega)) (fun _ _ => rfl)
  exact ⟨tk', h', e', H', o', I'⟩
/-- the mask's dot -/
theorem p_isOne (H : CH b n S C P D K Z tk G Y h) {k : Nat} (hk : k < n) {x y : Int} (hx : sm x) (hy : sm y) : fX3_isOne (S k) (iL x) (iL y) h = some (if (0 ≤ x ∧ x < (D k).2.1 ∧ 0 ≤ y ∧ y < (D k).2.2) ∧ G k (y.toNat * (D k).2.1 + x.toNat) = 1 then 1 else 0, h) := by
  have hd := H.dk.2 k hk
  have hwg := wg_le hd.2.2.1 hd.2.2.2.2.1
  unfold fX3_isOne
  by_cases q : 0 ≤ x ∧ x < (D k).2.1 ∧ 0 ≤ y ∧ y < (D k).2.2
  · rw [H.swq hk, hb_s, ar_rc (H.war hk), hb_s, bif_t (p_inWhole H hk hx hy) q, hb2_s, if_neg (by decide), H.sdq hk, hb_s, H.src hk, hb_s, p_indexOf H hk, hb2_s,
      show y * ((D k).2.1 : Int) + x = ((y.toNat * (D k).2.1 + x.toNat : Nat) : Int) by push_cast; rw [Int.toNat_of_nonneg q.2.2.1, Int.toNat_of_nonneg q.1], iI_nat, ia_ai (H.dia hk) (idx_lt (by omega) (by omega)) (by omega), hb_s]
    by_cases q2 : G k (y.toNat * (D k).2.1 + x.toNat) = 1
    · rw [if_pos q2, if_pos ⟨q, q2⟩]
    · rw [if_neg q2, if_neg (fun z => q2 z.2)]
  · rw [H.swq hk, hb_s, ar_rc (H.war hk), hb_s, bif_f (p_inWhole H hk hx hy) q, hb2_s, if_pos rfl, if_neg (fun z => q z.1)]
/-- what the mask leaves out stays -/
theorem p_dropMasked {km : Nat} (hkm : km < n) (H : CH b n S C P D K Z tk G Y h) {sa w g : Nat} {sl st : Int} (A : ar h sa sl st w g) (hsl : -1000000000000 ≤ sl ∧ sl ≤ 1000000000000) (hst : -1000000000000 ≤ st ∧ st ≤ 1000000000000) (hw : w ≤ 64) (hg : g ≤ 64) : ∃ tk' h', fX5_dropMasked b (some sa) (some (S km)) h = some h' ∧ CH b n S C P D K Z tk' G Y h' ∧ obs h h' ∧ ∀ row col, row < g → col < w → tk' (row * w + col) = if (0 ≤ sl + col ∧ sl + col < (D km).2.1 ∧ 0 ≤ st + row ∧ st + row < (D km).2.2) ∧ G km ((st + row).toNat * (D km).2.1 + (sl + col).toNat) = 1 then tk (row * w + col) else -1 := by
  have hwg : w * g ≤ 4096 := wg_le hw hg
  have inner : ∀ (K2 : Option Nat → Option Nat → Option Nat → Int32 → hm_H → Option hm_H) (row : Nat), row < g → ∀ r col fu tk1 h, col + r = w → r < fu → CH b n S C P D K Z tk1 G Y h → ar h sa sl st w g → (∀ row' col', row' < g → col' < w → tk1 (row' * w + col') = if (row' < row ∨ row' = row ∧ col' < col) ∧ ¬ ((0 ≤ sl + col' ∧ sl + col' < (D km).2.1 ∧ 0 ≤ st + row' ∧ st + row' < (D km).2.2) ∧ G km ((st + row').toNat * (D km).2.1 + (sl + col').toNat) = 1) then -1 else tk (row' * w + col')) → ∃ tk' h', hm_loop (fun _ _ _ _ _ _ => none) (fX5_dropMasked_13 K2) fu (some b) (some sa) (some (S km)) (nI row) (nI col) h = K2 (some b) (some sa) (some (S km)) (nI (row + 1)) h' ∧ CH b n S C P D K Z tk' G Y h' ∧ obs h h' ∧ (∀ row' col', row' < g → col' < w → tk' (row' * w + col') = if (row' < row + 1) ∧ ¬ ((0 ≤ sl + col' ∧ sl + col' < (D km).2.1 ∧ 0 ≤ st + row' ∧ st + row' < (D km).2.2) ∧ G km ((st + row').toNat * (D km).2.1 + (sl + col').toNat) = 1) then -1 else tk (row' * w + col')) := by
    intro K2 row hrow r
    induction r with
    | zero =>
      intro col fu tk1 h hcol hfu H A I
      obtain ⟨fu, rfl⟩ : ∃ q, fu = q + 1 := ⟨fu - 1, by omega⟩
      refine ⟨tk1, h, ?_, H, obs.rf h, fun row' col' p1 p2 => ?_⟩
      · rw [hm_loop_s, fX5_dropMasked_13, ar_w A, hb_s, if_pos (nI_le (by omega) (by omega)), nI_1]
      · rw [I row' col' p1 p2]
        have e : (row' < row ∨ row' = row ∧ col' < col) ↔ row' < row + 1 := by omega
        simp only [e]
    | succ r ih =>
      intro col fu tk1 h hcol hfu H A I
      obtain ⟨fu, rfl⟩ : ∃ q, fu = q + 1 := ⟨fu - 1, by omega⟩
      have hix : row * w + col < w * g := idx_lt (by omega) hrow
      have e1 : nI row * nI w + nI col = nI (row * w + col) := by rw [pk_mul, nI_add]
      have io := p_isOne H hkm (x := sl + col) (y := st + row) (by unfold sm; omega) (by unfold sm; omega)
      by_cases q : (0 ≤ sl + col ∧ sl + col < (D km).2.1 ∧ 0 ≤ st + row ∧ st + row < (D km).2.2) ∧ G km ((st + row).toNat * (D km).2.1 + (sl + col).toNat) = 1
      · obtain ⟨tk', h', e', H', o', I'⟩ := ih (col + 1) fu tk1 h (by omega) (by omega) H A (fun row' col' p1 p2 => by
          rw [I row' col' p1 p2]
          by_cases e : row' = row ∧ col' = col
          · obtain ⟨rfl, rfl⟩ := e
            rw [if_neg (fun z => z.2 q), if_neg (fun z => z.2 q)]
          · have e2 : (row' < row ∨ row' = row ∧ col' < col) ↔ (row' < row ∨ row' = row ∧ col' < col + 1) := by omega
            simp only [e2])
        refine ⟨tk', h', ?_, H', o', I'⟩
        rw [hm_loop_s, fX5_dropMasked_13, ar_w A, hb_s, if_neg (nI_ge (by omega) (by omega)), ar_l A, hb_s, ar_t A, hb_s, H.src hkm, hb_s, nI_L (show col < 2 ^ 31 by omega), nI_L (show row < 2 ^ 31 by omega), iL_add, iL_add, bif_t io q, hb2_s, if_neg (by decide), fX5_dropMasked_59, nI_1]
        exact e'
      · obtain ⟨h1, p1, H1, o1⟩ := H.tk1 (j := row * w + col) (by omega) (-1)
        obtain ⟨tk', h', e', H', o', I'⟩ := ih (col + 1) fu _ h1 (by omega) (by omega) H1 (o1.ar A) (fun row' col' p1 p2 => by
          by_cases e : row' = row ∧ col' = col
          · obtain ⟨rfl, rfl⟩ := e
            rw [upd_s, if_pos ⟨by omega, q⟩]
          · rw [upd_n (fun z => e (by have := ix_inj p2 (show col < w by omega) z; exact ⟨this.2, this.1⟩)), I row' col' p1 p2]
            have e2 : (row' < row ∨ row' = row ∧ col' < col) ↔ (row' < row ∨ row' = row ∧ col' < col + 1) := by omega
            simp only [e2])
        refine ⟨tk', h', ?_, H', o1.tr o', I'⟩
        rw [hm_loop_s, fX5_dropMasked_13, ar_w A, hb_s, if_neg (nI_ge (by omega) (by omega)), ar_l A, hb_s, ar_t A, hb_s, H.src hkm, hb_s, nI_L (show col < 2 ^ 31 by omega), nI_L (show row < 2 ^ 31 by omega), iL_add, iL_add, bif_f io q, hb2_s, if_pos rfl, H.tkq, hb_s, ar_w A, hb_s, e1, p1, hb_s, fX5_dropMasked_59, nI_1]
        exact e'
  have outer : ∀ r row fu tk1 h, row + r = g → r < fu → CH b n S C P D K Z tk1 G Y h → ar h sa sl st w g → (∀ row' col', row' < g → col' < w → tk1 (row' * w + col') = if (row' < row) ∧ ¬ ((0 ≤ sl + col' ∧ sl + col' < (D km).2.1 ∧ 0 ≤ st + row' ∧ st + row' < (D km).2.2) ∧ G km ((st + row').toNat * (D km).2.1 + (sl + col').toNat) = 1) then -1 else tk (row' * w + col')) → ∃ tk' h', hm_loop (fun _ _ _ _ _ => none) fX5_dropMasked_2 fu (some b) (some sa) (some (S km)) (nI row) h = some h' ∧ CH b n S C P D K Z tk' G Y h' ∧ obs h h' ∧ (∀ row' col', row' < g → col' < w → tk' (row' * w + col') = if (row' < g) ∧ ¬ ((0 ≤ sl + col' ∧ sl + col' < (D km).2.1 ∧ 0 ≤ st + row' ∧ st + row' < (D km).2.2) ∧ G km ((st + row').toNat * (D km).2.1 + (sl + col').toNat) = 1) then -1 else tk (row' * w + col')) := by
    intro r
    induction r with
    | zero =>
      intro row fu tk1 h hrow hfu H A I
      obtain ⟨fu, rfl⟩ : ∃ q, fu = q + 1 := ⟨fu - 1, by omega⟩
      refine ⟨tk1, h, ?_, H, obs.rf h, by rw [show row = g by omega] at I; exact I⟩
      rw [hm_loop_s, fX5_dropMasked_2, ar_g A, hb_s, if_pos (nI_le (by omega) (by omega))]
    | succ r ih =>
      intro row fu tk1 h hrow hfu H A I
      obtain ⟨fu, rfl⟩ : ∃ q, fu = q + 1 := ⟨fu - 1, by omega⟩
      obtain ⟨tk2, h2, e2, H2, o2, I2⟩ := inner (hm_loop (fun _ _ _ _ _ => none) fX5_dropMasked_2 fu) row (by omega) w 0 hm_fu tk1 h (by omega) (by unfold hm_fu; omega) H A (fun row' col' p1 p2 => by
        rw [I row' col' p1 p2]
        have e2 : (row' < row ∨ row' = row ∧ col' < 0) ↔ row' < row := by omega
        simp only [e2])
      obtain ⟨tk3, h3, e3, H3, o3, I3⟩ := ih (row + 1) fu tk2 h2 (by omega) (by omega) H2 (o2.ar A) I2
      refine ⟨tk3, h3, ?_, H3, o2.tr o3, I3⟩
      rw [hm_loop_s, fX5_dropMasked_2, ar_g A, hb_s, if_neg (nI_ge (by omega) (by omega)), show (0 : Int32) = nI 0 from rfl, e2]
      exact e3
  obtain ⟨tk', h', e', H', o', I'⟩ := outer g 0 hm_fu tk h (by omega) (by unfold hm_fu; omega) H A (fun row' col' _ _ => by rw [if_neg (fun z => absurd z.1 (by omega))])
  refine ⟨tk', h', e', H', o', fun row col p1 p2 => ?_⟩
  rw [I' row col p1 p2]
  by_cases q : (0 ≤ sl + col ∧ sl + col < (D km).2.1 ∧ 0 ≤ st + row ∧ st + row < (D km).2.2) ∧ G km ((st + row).toNat * (D km).2.1 + (sl + col).toNat) = 1
  · rw [if_neg (fun z => z.2 q), if_pos q]
  · rw [if_pos ⟨p1, q⟩, if_neg q]
end MVS
