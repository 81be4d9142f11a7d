/-! draw, both sides -/
def fput (k c d cw dw : Nat) (x y : Int) (f : Nat → Int32) (p : Nat × Nat × Nat) : Nat → Int32 :=
  if (c : Int) ≤ x + p.1 ∧ x + p.1 < (c : Int) + cw ∧ (d : Int) ≤ y + p.2.1 ∧ y + p.2.1 < (d : Int) + dw then upd f (4096 * k + 64 * (y + p.2.1).toNat + (x + p.1).toNat) (nI p.2.2) else f
theorem m_draw {m n : Nat} {ms : Int32} {F1 : Nat → Nat → Int32} {D : Nat → Nat × Nat × Nat} {K : Nat → Nat × Nat × Nat × Nat} {t : Nat} (R : MR n D K F1) (hD : DK n D K) (ht : t < n) (x y : Int32) {L : List (Nat × Nat × Nat)} (hL : L.length ≤ 4096) (hb : ∀ p ∈ L, p.1 ≤ 64 ∧ p.2.1 ≤ 64) (eL : ∀ j p, L[j]? = some p → F1 11 j = nI p.1 ∧ F1 12 j = nI p.2.1 ∧ F1 13 j = nI p.2.2) : ∀ r j fu (F : Nat → Nat → Int32) h, j + r = L.length → r < fu → MH m n ms (nI L.length) F h → (∀ q, q ≠ 5 → F q = F1 q) → (∀ i, (i < 4096 * t ∨ 4096 * t + 4096 ≤ i) → F 5 i = F1 5 i) →
    ∃ F' h', hm_loop (fun _ _ _ _ _ _ _ => none) fX6_draw_29 fu (some m) (nI t) x y 0 (nI j) h = some (0, h') ∧ MH m n ms (nI L.length) F' h' ∧ (∀ q, q ≠ 5 → F' q = F1 q) ∧ (∀ i, (i < 4096 * t ∨ 4096 * t + 4096 ≤ i) → F' 5 i = F1 5 i) ∧ F' 5 = (L.drop j).foldl (fput t (K t).1 (K t).2.1 (K t).2.2.1 (K t).2.2.2 x.toInt y.toInt) (F 5) := by
  have hd := hD.2 t ht
  have hn := hD.1
  have rx := i_rng x
  have ry := i_rng y
  intro r
  induction r with
  | zero =>
    intro j fu F h hj hfu M p1 p2
    obtain ⟨fu, rfl⟩ : ∃ q, fu = q + 1 := ⟨fu - 1, by omega⟩
    refine ⟨F, h, ?_, M, p1, p2, ?_⟩
    · rw [hm_loop_s, fX6_draw_29, M.gd, hb_s, if_pos (nI_le (by omega) (by omega))]
    · rw [List.drop_eq_nil_of_le (by omega)]
      rfl
  | succ r ih =>
    intro j fu F h hj hfu M p1 p2
    obtain ⟨fu, rfl⟩ : ∃ q, fu = q + 1 := ⟨fu - 1, by omega⟩
    have hjl : j < L.length := by omega
    obtain ⟨l1, l2, l3⟩ := eL j L[j] (List.getElem?_eq_getElem hjl)
    obtain ⟨b1, b2⟩ := hb _ (List.getElem_mem hjl)
    rw [List.drop_eq_getElem_cons hjl]
    generalize L[j] = p at l1 l2 l3 b1 b2
    have a1 := M.ai 11 (j := j) (by decide) (by show j < 4096; omega)
    have a2 := M.ai 12 (j := j) (by decide) (by show j < 4096; omega)
    have a3 := M.ai 13 (j := j) (by decide) (by show j < 4096; omega)
    rw [p1 11 (by decide), l1] at a1
    rw [p1 12 (by decide), l2] at a2
    rw [p1 13 (by decide), l3] at a3
    have R1 : MR n D K F := R.keep (p1 1 (by decide)) (p1 2 (by decide)) (p1 3 (by decide)) (p1 4 (by decide)) (fun i j q1 q2 q3 => p2 _ (by omega))
    have ic := m_isInClip M R1 hD ht (x := x.toInt + p.1) (y := y.toInt + p.2.1) (by unfold sm; omega) (by unfold sm; omega)
    have s1 : x.toInt64 + (nI p.1).toInt64 = iL (x.toInt + p.1) := by rw [i2L, nI_L (by omega), iL_add]
    have s2 : y.toInt64 + (nI p.2.1).toInt64 = iL (y.toInt + p.2.1) := by rw [i2L, nI_L (by omega), iL_add]
    rw [List.foldl_cons]
    have fp : fput t (K t).1 (K t).2.1 (K t).2.2.1 (K t).2.2.2 x.toInt y.toInt (F 5) p = if ((K t).1 : Int) ≤ x.toInt + p.1 ∧ x.toInt + p.1 < ((K t).1 : Int) + (K t).2.2.1 ∧ ((K t).2.1 : Int) ≤ y.toInt + p.2.1 ∧ y.toInt + p.2.1 < ((K t).2.1 : Int) + (K t).2.2.2 then upd (F 5) (4096 * t + 64 * (y.toInt + p.2.1).toNat + (x.toInt + p.1).toNat) (nI p.2.2) else F 5 := rfl
    rw [fp]
    by_cases q : ((K t).1 : Int) ≤ x.toInt + p.1 ∧ x.toInt + p.1 < ((K t).1 : Int) + (K t).2.2.1 ∧ ((K t).2.1 : Int) ≤ y.toInt + p.2.1 ∧ y.toInt + p.2.1 < ((K t).2.1 : Int) + (K t).2.2.2
    · obtain ⟨X, eX⟩ := Int.eq_ofNat_of_zero_le (show 0 ≤ x.toInt + p.1 by omega)
      obtain ⟨V, eV⟩ := Int.eq_ofNat_of_zero_le (show 0 ≤ y.toInt + p.2.1 by omega)
      have f1 : (4096 : Int32) * nI t + (64 : Int32) * (iL (y.toInt + p.2.1)).toInt32 + (iL (x.toInt + p.1)).toInt32 = nI (4096 * t + 64 * V + X) := by
        rw [iL_I, iL_I, eX, eV, iI_nat, iI_nat, show (4096 : Int32) = nI 4096 from rfl, show (64 : Int32) = nI 64 from rfl, pk_mul, pk_mul, nI_add, nI_add]
      obtain ⟨h1, e1, M1, -⟩ := M.si 5 (j := 4096 * t + 64 * V + X) (nI p.2.2) (by decide) (by show _ < 32768; omega)
      obtain ⟨F', h', e', M', q1, q2, q3⟩ := ih (j + 1) fu _ h1 (by omega) (by omega) M1 (fun q hq => by rw [va_up_ne _ _ hq]; exact p1 q hq) (fun i hi => by rw [va_up_self, upd_n (by omega)]; exact p2 i hi)
      refine ⟨F', h', ?_, M', q1, q2, ?_⟩
      · rw [hm_loop_s, fX6_draw_29, M.gd, hb_s, if_neg (nI_ge (by omega) (by omega)), if_pos rfl, M.q13, hb_s, a1, hb_s, hlet_s, s1, M.q14, hb_s, a2, hb_s, hlet_s, s2, M.rc, hb_s, bif_t ic q, hb2_s, if_neg (by decide), M.q5, hb_s, M.q15, hb_s, a3, hb_s, f1, e1, hb_s, fX6_draw_110, nI_1]
        exact e'
      · rw [q3, va_up_self, if_pos q, eX, eV]
        rfl
    · obtain ⟨F', h', e', M', q1, q2, q3⟩ := ih (j + 1) fu F h (by omega) (by omega) M p1 p2
      refine ⟨F', h', ?_, M', q1, q2, ?_⟩
      · rw [hm_loop_s, fX6_draw_29, M.gd, hb_s, if_neg (nI_ge (by omega) (by omega)), if_pos rfl, M.q13, hb_s, a1, hb_s, hlet_s, s1, M.q14, hb_s, a2, hb_s, hlet_s, s2, M.rc, hb_s, bif_f ic q, hb2_s, if_pos rfl, fX6_draw_110, nI_1]
        exact e'
      · rw [q3, if_neg q]
/-- dots put on both sides agree -/
theorem put_DR {W V k c d cw dw dep : Nat} (hW : W ≤ 64) (hV : V ≤ 64) (h1 : c + cw ≤ W) (h2 : d + dw ≤ V) (x y : Int) : ∀ (L : List (Nat × Nat × Nat)) (f g : Nat → Int32), (∀ p ∈ L, p.2.2 < 2 ^ dep) → (∀ a b, a < W → b < V → f (b * W + a) = g (4096 * k + 64 * b + a) ∧ ∃ v, v < 2 ^ dep ∧ g (4096 * k + 64 * b + a) = nI v) → ∀ a b, a < W → b < V → L.foldl (gput W c d cw dw x y) f (b * W + a) = L.foldl (fput k c d cw dw x y) g (4096 * k + 64 * b + a) ∧ ∃ v, v < 2 ^ dep ∧ L.foldl (fput k c d cw dw x y) g (4096 * k + 64 * b + a) = nI v := by
  intro L
  induction L with
  | nil => intro f g _ I; exact I
  | cons p L ih =>
    intro f g hv I
    refine ih (gput W c d cw dw x y f p) (fput k c d cw dw x y g p) (fun q hq => hv q (List.mem_cons_of_mem _ hq)) (fun a b ha hb => ?_)
    have vp := hv p (List.mem_cons_self ..)
    unfold gput fput
    by_cases q : (c : Int) ≤ x + p.1 ∧ x + p.1 < (c : Int) + cw ∧ (d : Int) ≤ y + p.2.1 ∧ y + p.2.1 < (d : Int) + dw
    · rw [if_pos q, if_pos q]
      obtain ⟨X, eX⟩ := Int.eq_ofNat_of_zero_le (show 0 ≤ x + p.1 by omega)
      obtain ⟨V', eV⟩ := Int.eq_ofNat_of_zero_le (show 0 ≤ y + p.2.1 by omega)
      rw [eX, eV, Int.toNat_natCast, Int.toNat_natCast]
      by_cases e : a = X ∧ b = V'
      · obtain ⟨rfl, rfl⟩ := e
        rw [upd_s, upd_s]
        exact ⟨rfl, p.2.2, vp, rfl⟩
      · rw [upd_n (fun z => e (ix_inj ha (by omega) z)), upd_n (fun z => e (by omega))]
        exact I a b ha hb
    · rw [if_neg q, if_neg q]
      exact I a b ha hb
theorem dsl_p {row v t c : Nat} : ∀ p ∈ dsl row v t c, p.1 < c + t ∧ p.2.1 = row := by
  induction t generalizing c with
  | zero => intro p hp; cases hp
  | succ t ih =>
    intro p hp
    rcases List.mem_cons.mp hp with rfl | hp
    · exact ⟨by show c < _; omega, rfl⟩
    · have := ih p hp
      exact ⟨by omega, this.2⟩
theorem rn_p {lg z : Nat} {B : Nat → Nat} : ∀ r k row col due tm w, row ≤ 64 → col + due * tm ≤ 64 → ∀ p ∈ (rn lg z B r k row col due tm w).2, p.1 ≤ 64 ∧ p.2.1 ≤ 64 := by
  intro r
  induction r with
  | zero => intro k row col due tm w _ _ p hp; cases hp
  | succ r ih =>
    intro k row col due tm w h1 h2 p hp
    rw [rn_s] at hp
    split at hp
    · rename_i q
      obtain ⟨d, rfl⟩ : ∃ d, due = d + 1 := ⟨due - 1, by omega⟩
      rw [Nat.add_mul, Nat.one_mul] at h2
      split at hp
      · cases hp
      · rcases List.mem_append.mp hp with hp | hp
        · have := dsl_p p hp; omega
        · exact ih _ _ _ _ _ _ h1 (by show col + tm + d * tm ≤ 64; omega) p hp
    · split at hp
      · cases hp
      · split at hp
        · exact ih _ _ _ _ _ _ (by omega) (by omega) p hp
        · split at hp
          · cases hp
          · split at hp
            · exact ih _ _ _ _ _ _ h1 (by omega) p hp
            · split at hp
              · exact ih _ _ _ _ _ _ h1 (by omega) p hp
              · exact ih _ _ _ _ _ _ h1 (by omega) p hp
theorem rn_z {lg z : Nat} {B : Nat → Nat} : ∀ r k row col due tm w, k + r = z → (rn lg z B r k row col due tm w).1 ≤ z + 1 := by
  intro r
  induction r with
  | zero => intro k row col due tm w _; rw [rn_0]; show (if w = 0 then 0 else z + 1) ≤ _; split <;> omega
  | succ r ih =>
    intro k row col due tm w hk
    rw [rn_s]
    split
    · split
      · show k + 1 ≤ _; omega
      · exact ih _ _ _ _ _ _ (by omega)
    · split
      · show k + 1 ≤ _; omega
      · split
        · exact ih _ _ _ _ _ _ (by omega)
        · split
          · show k + 1 ≤ _; omega
          · split
            · exact ih _ _ _ _ _ _ (by omega)
            · split
              · exact ih _ _ _ _ _ _ (by omega)
              · exact ih _ _ _ _ _ _ (by omega)
theorem ag_draw (b m : Nat) (s t x y : Int32) : AO b m (fX5_draw b s t x y) (fX6_draw m s t x y) := by
  intro hc hm hAG
  have hAG0 := hAG
  obtain ⟨n, S, C, P, D, K, Z, tk, G, Y, ms, dr, F, H, M, R, hDR, hSR⟩ := hAG
  have hn := H.dk.1
  by_cases q1 : isf 4 s
  · obtain ⟨ks, hs, rfl⟩ := isf_nI (by decide) q1
    have sc := (p_spriteAt H (nI ks)).2 ks hs rfl
    have sm' := (m_isSprite m (nI ks) hm).2 ks hs rfl
    by_cases q2 : isf n t
    · obtain ⟨k, hk, rfl⟩ := isf_nI (by omega) q2
      have hd := H.dk.2 k hk
      have uc := (p_surfaceAt H (nI k)).2 k hk rfl
      have um := (m_isSurface M hn (nI k)).2 k hk rfl
      obtain ⟨z, hz, z1, z2, zb⟩ := hSR ks hs
      have pw := pw_d hd.1
      have eBm : ∀ j, j < z → F 9 (5000 * ks + j) = nI (F 9 (5000 * ks + j)).toInt.toNat ∧ (F 9 (5000 * ks + j)).toInt.toNat < 256 := fun j hj => by
        obtain ⟨-, v, hv, e⟩ := zb j hj
        rw [e, nI_toInt (by omega), Int.toNat_natCast]
        exact ⟨rfl, hv⟩
      have eBc : ∀ j, j < z → Y ks j = nI (F 9 (5000 * ks + j)).toInt.toNat ∧ (F 9 (5000 * ks + j)).toInt.toNat < 256 := fun j hj => by
        rw [(zb j hj).1]
        exact eBm j hj
      generalize hB : (fun j => (F 9 (5000 * ks + j)).toInt.toNat) = B at *
      have eBm' : ∀ j, j < z → F 9 (5000 * ks + j) = nI (B j) ∧ B j < 256 := fun j hj => by rw [← hB]; exact eBm j hj
      have eBc' : ∀ j, j < z → Y ks j = nI (B j) ∧ B j < 256 := fun j hj => by rw [← hB]; exact eBc j hj
      have fw := p_firstWrong (lg := 2 ^ (D k).1 - 1) (show ks < 5 by omega) hz (by omega) H z1 eBc' z 0 0 0 0 0 0 hm_fu (by omega) (by unfold hm_fu; omega) (by omega) (by omega) (by omega) (by omega)
      -- the reference reads
      obtain ⟨g1, f1, M1, -⟩ := M.pd 0
      have T0 : DT m n ms F [] g1 := ⟨F, M1, fun _ _ _ _ => rfl, fun j p e => by simp at e⟩
      have e8 := M1.ai 8 (j := ks) (by decide) hs
      rw [z2] at e8
      obtain ⟨g2, L, f2, T2, c2, n2⟩ := m_read R H.dk hk hs hz eBm' z 0 0 0 0 0 hm_fu [] g1 (by omega) (by unfold hm_fu; omega) (by omega) (by omega) (by omega) (by omega) T0 (by show 0 ≤ _; omega)
      have rv := rn_v (lg := 2 ^ (D k).1 - 1) (z := z) (B := B) z 0 0 0 0 0 0
      have rp := rn_p (lg := 2 ^ (D k).1 - 1) (z := z) (B := B) z 0 0 0 0 0 0 (by omega) (by omega)
      have rd : fX6_readSprite m (nI ks) (nI k) hm = some (nI (rn (2 ^ (D k).1 - 1) z B z 0 0 0 0 0 0).1, g2) := by
        rw [fX6_readSprite, f1, hb_s, M1.q8, hb_s, e8, hb_s]
        exact f2
      obtain ⟨Fm, M2, fo, fL⟩ := T2
      have R2 : MR n D K Fm := R.keep (fo 1 (by decide) (by decide) (by decide)) (fo 2 (by decide) (by decide) (by decide)) (fo 3 (by decide) (by decide) (by decide)) (fo 4 (by decide) (by decide) (by decide)) (fun i j _ _ _ => by rw [fo 5 (by decide) (by decide) (by decide)])
      have DR2 : DR n D G Fm := fun i x y hi hx hy => by rw [fo 5 (by decide) (by decide) (by decide)]; exact hDR i x y hi hx hy
      have SR2 : SR Z Y Fm := hSR.keep (fo 8 (by decide) (by decide) (by decide)) (fo 9 (by decide) (by decide) (by decide))
      have rz := rn_z (lg := 2 ^ (D k).1 - 1) (z := z) (B := B) z 0 0 0 0 0 0 (by omega)
      by_cases q3 : (rn (2 ^ (D k).1 - 1) z B z 0 0 0 0 0 0).1 = 0
      · have cL := c2 q3
        rw [List.nil_append] at cL
        rw [← cL] at rv rp
        have HG : CH b n S C P D K Z tk (va_up G k (G k)) Y hc := by rw [vup_id]; exact H
        obtain ⟨h1, e1, H1⟩ := p_paint (lg := 2 ^ (D k).1 - 1) (show ks < 5 by omega) hk hz (by omega) z1 eBc' x y z 0 0 0 0 0 0 hm_fu (G k) hc (by omega) (by unfold hm_fu; omega) (by omega) (by omega) (by omega) (by omega) HG q3
        rw [← cL] at H1
        obtain ⟨F', g3, f3, M3, p1, p2, p3⟩ := m_draw R2 H.dk hk x y (L := L) n2 rp fL L.length 0 hm_fu Fm g2 (by omega) (by unfold hm_fu; omega) M2 (fun _ _ => rfl) (fun _ _ => rfl)
        refine ⟨0, h1, g3, ?_, ?_, n, S, C, P, D, K, Z, tk, _, Y, ms, _, F', H1, M3, R2.keep (p1 1 (by decide)) (p1 2 (by decide)) (p1 3 (by decide)) (p1 4 (by decide)) (fun i j q1 q2 q3 => p2 _ (by omega)), ?_, SR2.keep (p1 8 (by decide)) (p1 9 (by decide))⟩
        · unfold fX5_draw fX2_firstWrong fX2_paint
          rw [Nat.zero_mul] at fw
          rw [H.brc, hb_s, sc, hb2_s, H.brc, hb_s, uc, hb2_s, if_neg (by simp), if_neg (by simp), H.slg hk, hb_s, H.prc (by omega), hb_s]
          show hm_b2 (hm_loop (fun _ _ _ _ _ _ _ _ => none) fX2_firstWrong_13 hm_fu (some (P ks)) (nI (2 ^ (D k).1 - 1)) (nI 0) (nI (0 + 0)) (nI 0) (nI 0) (nI 0) hc) _ = _
          rw [fw, hb2_s, q3, if_pos (by rfl), H.prc (by omega), hb_s]
          show hm_b (hm_loop (fun _ _ _ _ _ _ _ _ _ _ => none) fX2_paint_15 hm_fu (some (P ks)) (some (S k)) x y (nI 0) (nI 0) (nI 0) (nI 0) (nI 0) hc) _ = _
          rw [e1, hb_s]
          rfl
        · rw [fX6_draw, M.rc, hb_s, sm', hb2_s, if_neg (by decide), M.rc, hb_s, um, hb2_s, if_neg (by decide), M.rc, hb_s, rd, hb2_s, q3]
          exact f3
        · intro i x' y' hi hx' hy'
          have hdi := H.dk.2 i hi
          by_cases e : i = k
          · subst e
            rw [va_up_self, p3, List.drop_zero]
            exact put_DR (dep := (D i).1) (by omega) (by omega) (by omega) (by omega) x.toInt y.toInt L (G i) (Fm 5) (fun p hp => by have := rv p hp; omega) (fun a b' ha hb => DR2 i a b' hi ha hb) x' y' hx' hy'
          · rw [va_up_ne _ _ e, p2 _ (by omega)]
            exact DR2 i x' y' hi hx' hy'
      · refine ⟨nI (rn (2 ^ (D k).1 - 1) z B z 0 0 0 0 0 0).1, hc, g2, ?_, ?_, n, S, C, P, D, K, Z, tk, G, Y, ms, _, Fm, H, M2, R2, DR2, SR2⟩
        · unfold fX5_draw fX2_firstWrong
          rw [Nat.zero_mul] at fw
          rw [H.brc, hb_s, sc, hb2_s, H.brc, hb_s, uc, hb2_s, if_neg (by simp), if_neg (by simp), H.slg hk, hb_s, H.prc (by omega), hb_s]
          show hm_b2 (hm_loop (fun _ _ _ _ _ _ _ _ => none) fX2_firstWrong_13 hm_fu (some (P ks)) (nI (2 ^ (D k).1 - 1)) (nI 0) (nI (0 + 0)) (nI 0) (nI 0) (nI 0) hc) _ = _
          rw [fw, hb2_s, if_neg (nI_ne0 (by omega) (by omega))]
        · rw [fX6_draw, M.rc, hb_s, sm', hb2_s, if_neg (by decide), M.rc, hb_s, um, hb2_s, if_neg (by decide), M.rc, hb_s, rd, hb2_s, show hm_fu = 19999 + 1 from rfl, hm_loop_s, fX6_draw_29, M2.gd, hb_s]
          by_cases q4 : nI L.length ≤ (0 : Int32)
          · rw [if_pos q4]
          · rw [if_neg q4, if_neg (nI_ne0 (by omega) (by omega))]
    · refine ⟨-1, hc, hm, ?_, ?_, hAG0⟩
      · unfold fX5_draw
        rw [H.brc, hb_s, sc, hb2_s, H.brc, hb_s, (p_surfaceAt H t).1 q2, hb2_s, if_neg (by simp), if_pos rfl]
      · rw [fX6_draw, M.rc, hb_s, sm', hb2_s, if_neg (by decide), M.rc, hb_s, (m_isSurface M hn t).1 q2, hb2_s, if_pos rfl]
  · refine ⟨-1, hc, hm, ?_, ?_, hAG0⟩
    · unfold fX5_draw
      rw [H.brc, hb_s, (p_spriteAt H s).1 q1, hb2_s, H.brc, hb_s]
      by_cases q2 : isf n t
      · obtain ⟨k, hk, rfl⟩ := isf_nI (by omega) q2
        rw [(p_surfaceAt H (nI k)).2 k hk rfl, hb2_s, if_pos rfl]
      · rw [(p_surfaceAt H t).1 q2, hb2_s, if_pos rfl]
    · rw [fX6_draw, M.rc, hb_s, (m_isSprite m s hm).1 q1, hb2_s, if_pos rfl]
