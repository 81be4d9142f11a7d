/-! fill -/
def inc (u : Int) (c cw a : Nat) : Bool := decide ((c : Int) ≤ u + a ∧ u + a < (c : Int) + cw)
theorem inc_t {u : Int} {c cw a : Nat} : inc u c cw a = true ↔ ((c : Int) ≤ u + a ∧ u + a < (c : Int) + cw) := by unfold inc; simp
theorem fl_sh {c d cw dw W V : Nat} {x y : Int} {w g : Nat} (hc : c + cw ≤ W) (hd : d + dw ≤ V) (hw : w ≤ 64) (hg : g ≤ 64) : ∃ l t tw tg : Nat, sh c d cw dw x y w g = ((l : Int), (t : Int), tw, tg) ∧ l + tw ≤ W ∧ t + tg ≤ V ∧ tw ≤ 64 ∧ tg ≤ 64 ∧ cq (inc y d dw) g * cq (inc x c cw) w = tw * tg ∧ ∀ p q : Nat, (l ≤ p ∧ p < l + tw ∧ t ≤ q ∧ q < t + tg) ↔ (c ≤ p ∧ p < c + cw ∧ d ≤ q ∧ q < d + dw) ∧ (x ≤ p ∧ (p : Int) < x + w) ∧ (y ≤ q ∧ (q : Int) < y + g) := by
  have c1 := cq_int (p := inc x c cw) (lo := c - x) (hi := c + cw - x) (fun a => by rw [inc_t]; omega) w
  have c2 := cq_int (p := inc y d dw) (lo := d - y) (hi := d + dw - y) (fun a => by rw [inc_t]; omega) g
  unfold sh
  simp only
  by_cases q : min ((c : Int) + cw) (x + w) - max (c : Int) x ≤ 0 ∨ min ((d : Int) + dw) (y + g) - max (d : Int) y ≤ 0
  · rw [if_pos q]
    refine ⟨0, 0, 0, 0, rfl, by omega, by omega, by omega, by omega, ?_, fun p q' => by omega⟩
    rw [c1, c2]
    rcases q with q | q
    · rw [show (min (w : Int) (c + cw - x) - max 0 (c - x)).toNat = 0 by omega, Nat.mul_zero]
    · rw [show (min (g : Int) (d + dw - y) - max 0 (d - y)).toNat = 0 by omega, Nat.zero_mul]
  · rw [if_neg q]
    refine ⟨(max (c : Int) x).toNat, (max (d : Int) y).toNat, (min ((c : Int) + cw) (x + w) - max (c : Int) x).toNat, (min ((d : Int) + dw) (y + g) - max (d : Int) y).toNat, ?_, by omega, by omega, by omega, by omega, ?_, fun p q' => by omega⟩
    · rw [show (((max (c : Int) x).toNat : Nat) : Int) = max (c : Int) x by omega, show (((max (d : Int) y).toNat : Nat) : Int) = max (d : Int) y by omega]
    · rw [c1, c2, Nat.mul_comm]
      congr 1
      · congr 1; omega
      · congr 1; omega
section FLS
variable {m n : Nat} {ms dr : Int32} {F : Nat → Nat → Int32} {D : Nat → Nat × Nat × Nat} {K : Nat → Nat × Nat × Nat × Nat}
def flI (F F1 : Nat → Nat → Int32) (dep k : Nat) (val op : Int32) (c d cw dw : Nat) (x y : Int) (w bb aa : Nat) : Prop :=
  (∀ p q : Nat, p < 64 → q < 64 → F1 5 (4096 * k + 64 * q + p) = if (c ≤ p ∧ p < c + cw ∧ d ≤ q ∧ q < d + dw) ∧ (x ≤ p ∧ (p : Int) < x + w) ∧ ((y ≤ q ∧ (q : Int) < y + bb) ∨ ((q : Int) = y + bb ∧ (p : Int) < x + aa)) then opD dep op val (F 5 (4096 * k + 64 * q + p)) else F 5 (4096 * k + 64 * q + p)) ∧ (∀ i, (i < 4096 * k ∨ 4096 * k + 4096 ≤ i) → F1 5 i = F 5 i) ∧ ∀ j, j ≠ 5 → F1 j = F j
theorem m_fill1 (R : MR n D K F) (hD : DK n D K) {k w g : Nat} (hk : k < n) (x y val op : Int32) (hw : w ≤ 64) (hg : g ≤ 64) (K54 : Option Nat → Int32 → Int32 → Int32 → Int32 → Int32 → Int32 → Int32 → Int32 → Int32 → hm_H → Option (Int32 × hm_H)) {bb : Nat} (hb : bb < g) (N0 : Nat) :
    ∀ r a fu (F1 : Nat → Nat → Int32) h, a + r = w → r < fu → MH m n ms dr F1 h → flI F F1 (D k).1 k val op (K k).1 (K k).2.1 (K k).2.2.1 (K k).2.2.2 x.toInt y.toInt w bb a →
    ∃ (F2 : Nat → Nat → Int32) (h' : hm_H), hm_loop (fun _ _ _ _ _ _ _ _ _ _ _ _ => none) (fX6_fill_64 K54) fu (some m) (nI k) x y (nI w) (nI g) val op (nI (N0 + (inc y.toInt (K k).2.1 (K k).2.2.2 bb).toNat * cq (inc x.toInt (K k).1 (K k).2.2.1) a)) (nI bb) (nI a) h = K54 (some m) (nI k) x y (nI w) (nI g) val op (nI (N0 + (inc y.toInt (K k).2.1 (K k).2.2.2 bb).toNat * cq (inc x.toInt (K k).1 (K k).2.2.1) w)) (nI (bb + 1)) h' ∧ MH m n ms dr F2 h' ∧ flI F F2 (D k).1 k val op (K k).1 (K k).2.1 (K k).2.2.1 (K k).2.2.2 x.toInt y.toInt w (bb + 1) 0 := by
  have hd := hD.2 k hk
  have hn := hD.1
  have rx := i_rng x
  have ry := i_rng y
  intro r
  induction r with
  | zero =>
    intro a fu F1 h ha hfu M I
    obtain ⟨fu, rfl⟩ : ∃ q, fu = q + 1 := ⟨fu - 1, by omega⟩
    have : a = w := by omega
    subst this
    refine ⟨F1, h, ?_, M, fun p q hp hq => ?_, I.2⟩
    · rw [hm_loop_s, fX6_fill_64, if_pos (nI_le (Nat.le_refl _) (by omega)), nI_1]
    · rw [I.1 p q hp hq]
      by_cases z : ((K k).1 ≤ p ∧ p < (K k).1 + (K k).2.2.1 ∧ (K k).2.1 ≤ q ∧ q < (K k).2.1 + (K k).2.2.2) ∧ (x.toInt ≤ p ∧ (p : Int) < x.toInt + a) ∧ ((y.toInt ≤ q ∧ (q : Int) < y.toInt + bb) ∨ ((q : Int) = y.toInt + bb ∧ (p : Int) < x.toInt + a))
      · rw [if_pos z, if_pos (by omega)]
      · rw [if_neg z, if_neg (by omega)]
  | succ r ih =>
    intro a fu F1 h ha hfu M I
    obtain ⟨fu, rfl⟩ : ∃ q, fu = q + 1 := ⟨fu - 1, by omega⟩
    have R1 : MR n D K F1 := R.keep (I.2.2 1 (by decide)) (I.2.2 2 (by decide)) (I.2.2 3 (by decide)) (I.2.2 4 (by decide)) (fun i j p1 p2 p3 => I.2.1 _ (by omega))
    have ic := m_isInClip M R1 hD hk (x := x.toInt + a) (y := y.toInt + bb) (by unfold sm; omega) (by unfold sm; omega)
    have s1 : x.toInt64 + (nI a).toInt64 = iL (x.toInt + a) := by rw [i2L, nI_L (by omega), iL_add]
    have s2 : y.toInt64 + (nI bb).toInt64 = iL (y.toInt + bb) := by rw [i2L, nI_L (by omega), iL_add]
    by_cases q : ((K k).1 : Int) ≤ x.toInt + a ∧ x.toInt + a < (K k).1 + (K k).2.2.1 ∧ ((K k).2.1 : Int) ≤ y.toInt + bb ∧ y.toInt + bb < (K k).2.1 + (K k).2.2.2
    · obtain ⟨p, hp⟩ := Int.eq_ofNat_of_zero_le (show 0 ≤ x.toInt + a by omega)
      obtain ⟨q', hq'⟩ := Int.eq_ofNat_of_zero_le (show 0 ≤ y.toInt + bb by omega)
      have f1 : (4096 : Int32) * nI k + (64 : Int32) * (iL (y.toInt + bb)).toInt32 + (iL (x.toInt + a)).toInt32 = nI (4096 * k + 64 * q' + p) := by
        rw [iL_I, iL_I, hp, hq', iI_nat, iI_nat, show (4096 : Int32) = nI 4096 from rfl, show (64 : Int32) = nI 64 from rfl, pk_mul, pk_mul, nI_add, nI_add]
      have ld := M.ai 5 (j := 4096 * k + 64 * q' + p) (by decide) (by show _ < 32768; omega)
      have old : F1 5 (4096 * k + 64 * q' + p) = F 5 (4096 * k + 64 * q' + p) := by rw [I.1 p q' (by omega) (by omega), if_neg (by omega)]
      rw [old] at ld
      obtain ⟨h1, e1, M1, -⟩ := M.si 5 (j := 4096 * k + 64 * q' + p) (opD (D k).1 op val (F 5 (4096 * k + 64 * q' + p))) (by decide) (by show _ < 32768; omega)
      obtain ⟨F2, h', e', M', I'⟩ := ih (a + 1) fu _ h1 (by omega) (by omega) M1 ⟨fun p2 q2 hp2 hq2 => by
        rw [va_up_self]
        by_cases e : p2 = p ∧ q2 = q'
        · obtain ⟨rfl, rfl⟩ := e
          rw [upd_s, if_pos (by omega)]
        · rw [upd_n (by omega), I.1 p2 q2 hp2 hq2]
          by_cases z : ((K k).1 ≤ p2 ∧ p2 < (K k).1 + (K k).2.2.1 ∧ (K k).2.1 ≤ q2 ∧ q2 < (K k).2.1 + (K k).2.2.2) ∧ (x.toInt ≤ p2 ∧ (p2 : Int) < x.toInt + w) ∧ ((y.toInt ≤ q2 ∧ (q2 : Int) < y.toInt + bb) ∨ ((q2 : Int) = y.toInt + bb ∧ (p2 : Int) < x.toInt + a))
          · rw [if_pos z, if_pos (by omega)]
          · rw [if_neg z, if_neg (by omega)], fun i hi => by rw [va_up_self, upd_n (by omega)]; exact I.2.1 i hi, fun j hj => by rw [va_up_ne _ _ hj]; exact I.2.2 j hj⟩
      refine ⟨F2, h', ?_, M', I'⟩
      rw [hm_loop_s, fX6_fill_64, if_neg (nI_ge (by omega) (by omega)), hlet_s, hlet_s, s1, s2, M.rc, hb_s, bif_t ic q, hb2_s, if_neg (by decide), hlet_s, f1, M.q5, hb_s, hb_s, ld, hb_s, m_combined, hb2_s, M.rc, hb_s, m_fitted M R1 hD hk, hb2_s, opD_m hd.1, e1, hb_s, fX6_fill_146, nI_1, nI_1, ← e', cq_s, inc_t.mpr ⟨q.1, q.2.1⟩, inc_t.mpr ⟨q.2.2.1, q.2.2.2⟩]
      congr 2
    · obtain ⟨F2, h', e', M', I'⟩ := ih (a + 1) fu F1 h (by omega) (by omega) M ⟨fun p2 q2 hp2 hq2 => by
        rw [I.1 p2 q2 hp2 hq2]
        by_cases z : ((K k).1 ≤ p2 ∧ p2 < (K k).1 + (K k).2.2.1 ∧ (K k).2.1 ≤ q2 ∧ q2 < (K k).2.1 + (K k).2.2.2) ∧ (x.toInt ≤ p2 ∧ (p2 : Int) < x.toInt + w) ∧ ((y.toInt ≤ q2 ∧ (q2 : Int) < y.toInt + bb) ∨ ((q2 : Int) = y.toInt + bb ∧ (p2 : Int) < x.toInt + a))
        · rw [if_pos z, if_pos (by omega)]
        · rw [if_neg z, if_neg (by omega)], I.2⟩
      refine ⟨F2, h', ?_, M', I'⟩
      rw [hm_loop_s, fX6_fill_64, if_neg (nI_ge (by omega) (by omega)), hlet_s, hlet_s, s1, s2, M.rc, hb_s, bif_f ic q, hb2_s, if_pos rfl, fX6_fill_146, nI_1, ← e', cq_s]
      congr 2
      cases za : inc x.toInt (K k).1 (K k).2.2.1 a with
      | false => simp
      | true =>
        cases zb : inc y.toInt (K k).2.1 (K k).2.2.2 bb with
        | false => simp
        | true =>
          have z1 := inc_t.mp za
          have z2 := inc_t.mp zb
          exact absurd ⟨z1.1, z1.2, z2.1, z2.2⟩ q
theorem m_fill2 (R : MR n D K F) (hD : DK n D K) {k w g : Nat} (hk : k < n) (x y val op : Int32) (hw : w ≤ 64) (hg : g ≤ 64) :
    ∀ r bb fu (F1 : Nat → Nat → Int32) h, bb + r = g → r < fu → MH m n ms dr F1 h → flI F F1 (D k).1 k val op (K k).1 (K k).2.1 (K k).2.2.1 (K k).2.2.2 x.toInt y.toInt w bb 0 →
    ∃ (F2 : Nat → Nat → Int32) (h' : hm_H), hm_loop (fun _ _ _ _ _ _ _ _ _ _ _ => none) fX6_fill_54 fu (some m) (nI k) x y (nI w) (nI g) val op (nI (cq (inc y.toInt (K k).2.1 (K k).2.2.2) bb * cq (inc x.toInt (K k).1 (K k).2.2.1) w)) (nI bb) h = some (nI (cq (inc y.toInt (K k).2.1 (K k).2.2.2) g * cq (inc x.toInt (K k).1 (K k).2.2.1) w), h') ∧ MH m n ms dr F2 h' ∧ flI F F2 (D k).1 k val op (K k).1 (K k).2.1 (K k).2.2.1 (K k).2.2.2 x.toInt y.toInt w g 0 := by
  intro r
  induction r with
  | zero =>
    intro bb fu F1 h hb hfu M I
    obtain ⟨fu, rfl⟩ : ∃ q, fu = q + 1 := ⟨fu - 1, by omega⟩
    have : bb = g := by omega
    subst this
    refine ⟨F1, h, ?_, M, I⟩
    rw [hm_loop_s, fX6_fill_54, if_pos (nI_le (Nat.le_refl _) (by omega))]
  | succ r ih =>
    intro bb fu F1 h hb hfu M I
    obtain ⟨fu, rfl⟩ : ∃ q, fu = q + 1 := ⟨fu - 1, by omega⟩
    obtain ⟨F2, h2, e2, M2, I2⟩ := m_fill1 R hD hk x y val op hw hg (hm_loop (fun _ _ _ _ _ _ _ _ _ _ _ => none) fX6_fill_54 fu) (bb := bb) (by omega) (cq (inc y.toInt (K k).2.1 (K k).2.2.2) bb * cq (inc x.toInt (K k).1 (K k).2.2.1) w) w 0 hm_fu F1 h (by omega) (by unfold hm_fu; omega) M I
    obtain ⟨F3, h3, e3, M3, I3⟩ := ih (bb + 1) fu F2 h2 (by omega) (by omega) M2 I2
    refine ⟨F3, h3, ?_, M3, I3⟩
    rw [hm_loop_s, fX6_fill_54, if_neg (nI_ge (by omega) (by omega)), show (0 : Int32) = nI 0 from rfl]
    rw [show cq (inc y.toInt (K k).2.1 (K k).2.2.2) bb * cq (inc x.toInt (K k).1 (K k).2.2.1) w + (inc y.toInt (K k).2.1 (K k).2.2.2 bb).toNat * cq (inc x.toInt (K k).1 (K k).2.2.1) 0 = cq (inc y.toInt (K k).2.1 (K k).2.2.2) bb * cq (inc x.toInt (K k).1 (K k).2.2.1) w by show _ + _ * 0 = _; omega] at e2
    rw [e2, ← e3, cq_s, Nat.add_mul]
end FLS
theorem ag_fill (b m : Nat) (s x y w g v op : Int32) : AO b m (fX5_fill b s x y w g v op) (fX6_fill m s x y w g v op) := by
  intro hc hm hAG
  have hAG0 := hAG
  obtain ⟨n, S, C, P, D, K, Z, tk, G, Y, ms, dr, F, H, M, R, hDR, hSR⟩ := hAG
  have hn := H.dk.1
  have t15 : (15 : Int32).toInt = 15 := rfl
  by_cases q1 : isf n s
  · obtain ⟨k, hk, rfl⟩ := isf_nI (by omega) q1
    have hd := H.dk.2 k hk
    have sc := (p_surfaceAt H (nI k)).2 k hk rfl
    have sm' := (m_isSurface M hn (nI k)).2 k hk rfl
    by_cases q2 : fit (D k).1 v
    · by_cases q3 : 0 ≤ op.toInt ∧ op.toInt ≤ 15
      · by_cases q4 : 0 ≤ w.toInt ∧ w.toInt ≤ 64
        · by_cases q5 : 0 ≤ g.toInt ∧ g.toInt ≤ 64
          · obtain ⟨w', rfl, ew⟩ := i_nat q4.1
            obtain ⟨g', rfl, eg⟩ := i_nat q5.1
            have hw : w' ≤ 64 := by omega
            have hg : g' ≤ 64 := by omega
            obtain ⟨l, t, tw, tg, eT, bl, bt', tw64, tg64, ecq, inT⟩ := fl_sh (c := (K k).1) (d := (K k).2.1) (cw := (K k).2.2.1) (dw := (K k).2.2.2) (W := (D k).2.1) (V := (D k).2.2) (x := x.toInt) (y := y.toInt) (by omega) (by omega) hw hg
            obtain ⟨H1, o1⟩ := H.new (aC x.toInt y.toInt w' g')
            have A1 := ar_new hc x.toInt y.toInt w' g'
            have es := p_shared (H1.car hk) A1 (by unfold sm; omega) (by unfold sm; omega) (by omega) (by omega) (sm_i x) (sm_i y) (by omega) (by omega)
            rw [eT] at es
            obtain ⟨H2, o2⟩ := H1.new (aC l t tw tg)
            have T2 := ar_new (hm_n hc (aC x.toInt y.toInt w' g')) l t tw tg
            obtain ⟨tk3, h3, e3, H3, o3, I3⟩ := p_jfill H2 (z := tw * tg) (wg_le tw64 tg64) v
            have T3 := o3.ar T2
            obtain ⟨f, h4, e4, H4, o4, I4⟩ := p_putDots hk H3 op T3 bl bt'
            have T4 := o4.ar T3
            obtain ⟨F2, hm', em, M', I'⟩ := m_fill2 R H.dk hk x y v op hw hg g' 0 hm_fu F hm (by omega) (by unfold hm_fu; omega) M ⟨fun p q _ _ => by rw [if_neg (by omega)], fun _ _ => rfl, fun _ _ => rfl⟩
            rw [ecq] at em
            refine ⟨nI (tw * tg), h4, hm', ?_, ?_, n, S, C, P, D, K, Z, tk3, _, Y, ms, dr, F2, H4, M', R.keep (I'.2.2 1 (by decide)) (I'.2.2 2 (by decide)) (I'.2.2 3 (by decide)) (I'.2.2 4 (by decide)) (fun i j _ _ _ => I'.2.1 _ (by omega)), ?_, hSR.keep (I'.2.2 8 (by decide)) (I'.2.2 9 (by decide))⟩
            · unfold fX5_fill
              rw [H.brc, hb_s, sc, hb2_s, if_neg (by simp), H.src hk, hb_s, (p_fits H hk v).1 q2, hb2_s, if_neg (by decide), bif_t (p_isOperation op hc) q3, hb2_s, if_neg (by decide), bif_t (p_isSide _ hc) q4, hb2_s, if_neg (by decide), bif_t (p_isSide _ hc) q5, hb2_s, if_neg (by decide), H.scq hk, hb_s, hlet_s, p_area, hb_s, i2L, i2L]
              show hm_b (hm_rc 0 (hm_n hc (aC x.toInt y.toInt w' g')) (some (C k))) _ = _
              rw [ar_rc (H1.car hk), hb_s]
              show hm_b2 (fX0_shared (C k) (some hc.2) (hm_n hc (aC x.toInt y.toInt w' g'))) _ = _
              rw [es, hb2_s, H2.tkq, hb_s, ar_rc T2, hb_s, p_size T2, hb2_s, e3, hb_s, H3.brc, hb_s, e4, hb_s, ar_rc T4, hb_s, p_size T4, hb2_s]
            · rw [fX6_fill, M.rc, hb_s, sm', hb2_s, if_neg (by decide), if_neg (by rw [i_lt0]; omega), if_neg (by rw [i_lt, t15]; omega), bif_t (m_isSpan _ hm) q4, hb2_s, if_neg (by decide), bif_t (m_isSpan _ hm) q5, hb2_s, if_neg (by decide), M.rc, hb_s, (m_fits M R H.dk hk v).1 q2, hb2_s, if_neg (by decide)]
              rw [show cq (inc y.toInt (K k).2.1 (K k).2.2.2) 0 * cq (inc x.toInt (K k).1 (K k).2.2.1) w' = 0 by show 0 * _ = 0; omega] at em
              exact em
            · intro i p q hi hp hq
              have hdi := H.dk.2 i hi
              by_cases e : i = k
              · subst e
                rw [va_up_self, I4 p q hp hq, I'.1 p q (by omega) (by omega)]
                obtain ⟨dr1, dr2⟩ := hDR i p q hi hp hq
                have pw := pw_d hd.1
                obtain ⟨v', hv', rfl⟩ := fit_nI q2
                by_cases z : l ≤ p ∧ p < l + tw ∧ t ≤ q ∧ q < t + tg
                · have z2 := (inT p q).mp z
                  rw [if_pos z, if_pos (by omega), I3 _ (idx_lt (by omega) (by omega))]
                  unfold pv
                  rw [if_neg (nI_nm1 (by omega)), dr1]
                  exact ⟨rfl, opD_lt hd.1 _ _ _⟩
                · have z2 : ¬ _ := fun z3 => z ((inT p q).mpr z3)
                  rw [if_neg z, if_neg (by omega)]
                  exact ⟨dr1, dr2⟩
              · rw [va_up_ne _ _ e, I'.2.1 _ (by omega)]
                exact hDR i p q hi hp hq
          · refine ⟨-1, hc, hm, ?_, ?_, hAG0⟩
            · unfold fX5_fill
              rw [H.brc, hb_s, sc, hb2_s, if_neg (by simp), H.src hk, hb_s, (p_fits H hk v).1 q2, hb2_s, if_neg (by decide), bif_t (p_isOperation op hc) q3, hb2_s, if_neg (by decide), bif_t (p_isSide _ hc) q4, hb2_s, if_neg (by decide), bif_f (p_isSide _ hc) q5, hb2_s, if_pos rfl]
            · rw [fX6_fill, M.rc, hb_s, sm', hb2_s, if_neg (by decide), if_neg (by rw [i_lt0]; omega), if_neg (by rw [i_lt, t15]; omega), bif_t (m_isSpan _ hm) q4, hb2_s, if_neg (by decide), bif_f (m_isSpan _ hm) q5, hb2_s, if_pos rfl]
        · refine ⟨-1, hc, hm, ?_, ?_, hAG0⟩
          · unfold fX5_fill
            rw [H.brc, hb_s, sc, hb2_s, if_neg (by simp), H.src hk, hb_s, (p_fits H hk v).1 q2, hb2_s, if_neg (by decide), bif_t (p_isOperation op hc) q3, hb2_s, if_neg (by decide), bif_f (p_isSide _ hc) q4, hb2_s, if_pos rfl]
          · rw [fX6_fill, M.rc, hb_s, sm', hb2_s, if_neg (by decide), if_neg (by rw [i_lt0]; omega), if_neg (by rw [i_lt, t15]; omega), bif_f (m_isSpan _ hm) q4, hb2_s, if_pos rfl]
      · refine ⟨-1, hc, hm, ?_, ?_, hAG0⟩
        · unfold fX5_fill
          rw [H.brc, hb_s, sc, hb2_s, if_neg (by simp), H.src hk, hb_s, (p_fits H hk v).1 q2, hb2_s, if_neg (by decide), bif_f (p_isOperation op hc) q3, hb2_s, if_pos rfl]
        · rw [fX6_fill, M.rc, hb_s, sm', hb2_s, if_neg (by decide)]
          by_cases z : op < 0
          · rw [if_pos z]
          · rw [if_neg z, if_pos (by rw [i_lt, t15]; rw [i_lt0] at z; omega)]
    · refine ⟨-1, hc, hm, ?_, ?_, hAG0⟩
      · unfold fX5_fill
        rw [H.brc, hb_s, sc, hb2_s, if_neg (by simp), H.src hk, hb_s, (p_fits H hk v).2 q2, hb2_s, if_pos rfl]
      · rw [fX6_fill, M.rc, hb_s, sm', hb2_s, if_neg (by decide)]
        by_cases z : op < 0
        · rw [if_pos z]
        · rw [if_neg z]
          by_cases z2 : (15 : Int32) < op
          · rw [if_pos z2]
          · rw [if_neg z2]
            by_cases q4 : 0 ≤ w.toInt ∧ w.toInt ≤ 64
            · rw [bif_t (m_isSpan _ hm) q4, hb2_s, if_neg (by decide)]
              by_cases q5 : 0 ≤ g.toInt ∧ g.toInt ≤ 64
              · rw [bif_t (m_isSpan _ hm) q5, hb2_s, if_neg (by decide), M.rc, hb_s, (m_fits M R H.dk hk v).2 q2, hb2_s, if_pos rfl]
              · rw [bif_f (m_isSpan _ hm) q5, hb2_s, if_pos rfl]
            · rw [bif_f (m_isSpan _ hm) q4, hb2_s, if_pos rfl]
  · refine ⟨-1, hc, hm, ?_, ?_, hAG0⟩
    · unfold fX5_fill
      rw [H.brc, hb_s, (p_surfaceAt H s).1 q1, hb2_s, if_pos rfl]
    · rw [fX6_fill, M.rc, hb_s, (m_isSurface M hn s).1 q1, hb2_s, if_pos rfl]
