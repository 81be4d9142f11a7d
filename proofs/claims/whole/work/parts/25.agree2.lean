theorem ix_inj {w x x' y y' : Nat} (hx : x < w) (hx' : x' < w) (h : y * w + x = y' * w + x') : x = x' ∧ y = y' := by
  have h1 : (y * w + x) % w = x := by rw [Nat.mul_comm, Nat.mul_add_mod, Nat.mod_eq_of_lt hx]
  have h2 : (y' * w + x') % w = x' := by rw [Nat.mul_comm, Nat.mul_add_mod, Nat.mod_eq_of_lt hx']
  have e : x = x' := by rw [← h1, ← h2, h]
  subst e
  refine ⟨rfl, ?_⟩
  have h3 : y * w = y' * w := by omega
  exact Nat.eq_of_mul_eq_mul_right (by omega) h3
theorem upd_s {f : Nat → Int32} {k : Nat} {x : Int32} : upd f k x k = x := pk_us
theorem upd_n {f : Nat → Int32} {k j : Nat} {x : Int32} (h : j ≠ k) : upd f k x j = f j := pk_un h
theorem DR.set {n : Nat} {D : Nat → Nat × Nat × Nat} {K : Nat → Nat × Nat × Nat × Nat} {G F : Nat → Nat → Int32} (H : DR n D G F) (hD : DK n D K) {k x' y' v : Nat} (hk : k < n) (hx' : x' < (D k).2.1) (hy' : y' < (D k).2.2) (hv : v < 2 ^ (D k).1) : DR n D (va_up G k (upd (G k) (y' * (D k).2.1 + x') (nI v))) (va_up F 5 (upd (F 5) (4096 * k + 64 * y' + x') (nI v))) := by
  intro i x y hi hx hy
  have hd := hD.2 k hk
  have hdi := hD.2 i hi
  rw [va_up_self F]
  by_cases e : i = k
  · subst e
    rw [va_up_self]
    by_cases e2 : x = x' ∧ y = y'
    · obtain ⟨rfl, rfl⟩ := e2
      rw [upd_s, upd_s]
      exact ⟨rfl, v, hv, rfl⟩
    · rw [upd_n (fun q => e2 (ix_inj hx hx' q)), upd_n (by omega)]
      exact H i x y hi hx hy
  · rw [va_up_ne _ _ e, upd_n (by omega)]
    exact H i x y hi hx hy
theorem MR.keep {n : Nat} {D : Nat → Nat × Nat × Nat} {K : Nat → Nat × Nat × Nat × Nat} {F F' : Nat → Nat → Int32} (H : MR n D K F) (h1 : F' 1 = F 1) (h2 : F' 2 = F 2) (h3 : F' 3 = F 3) (h4 : F' 4 = F 4) (h5 : ∀ i j, n ≤ i → i < 8 → j < 4096 → F' 5 (4096 * i + j) = F 5 (4096 * i + j)) : MR n D K F' := by
  refine ⟨fun i hi => ?_, fun i j a b c => ?_⟩
  · rw [h1, h2, h3, h4]; exact H.1 i hi
  · rw [h5 i j a b c]; exact H.2 i j a b c
theorem SR.keep {Z : Nat → Int32 × Int32} {Y F F' : Nat → Nat → Int32} (H : SR Z Y F) (h8 : F' 8 = F 8) (h9 : F' 9 = F 9) : SR Z Y F' := by
  intro k hk
  rw [h8, h9]
  exact H k hk
theorem ag_set (b m : Nat) (s x y v : Int32) : AO b m (fX5_set b s x y v) (fX6_set m s x y v) := by
  intro hc hm hAG
  have hAG0 := hAG
  obtain ⟨n, S, C, P, D, K, Z, tk, G, Y, ms, dr, F, H, M, R, hDR, hSR⟩ := hAG
  have hn := H.dk.1
  by_cases hs : isf n s
  · obtain ⟨k, hk, rfl⟩ := isf_nI (by omega) hs
    have hd := H.dk.2 k hk
    have hsc := (p_surfaceAt H (nI k)).2 k hk rfl
    have hsm := (m_isSurface M hn (nI k)).2 k hk rfl
    by_cases q : 0 ≤ x.toInt ∧ x.toInt < (D k).2.1 ∧ 0 ≤ y.toInt ∧ y.toInt < (D k).2.2
    · by_cases qv : fit (D k).1 v
      · obtain ⟨v', hv', rfl⟩ := fit_nI qv
        have q' := q
        obtain ⟨q1, q2, q3, q4⟩ := q
        obtain ⟨x', ex⟩ := Int.eq_ofNat_of_zero_le q1
        obtain ⟨y', ey⟩ := Int.eq_ofNat_of_zero_le q3
        have hx' : x' < (D k).2.1 := by omega
        have hy' : y' < (D k).2.2 := by omega
        have hi := idx_lt hx' hy'
        have hw := wg_le hd.2.2.1 hd.2.2.2.2.1
        have exn : x = nI x' := by rw [← iI_of x, ex, iI_nat]
        have eyn : y = nI y' := by rw [← iI_of y, ey, iI_nat]
        obtain ⟨hm', em, M', -⟩ := M.si 5 (j := 4096 * k + 64 * y' + x') (nI v') (by decide) (by show _ < 32768; omega)
        have C' := (H.dots hk (upd (G k) (y' * (D k).2.1 + x') (nI v'))).1
        refine ⟨1, _, hm', ?_, ?_, n, S, C, P, D, K, Z, tk, _, Y, ms, dr, _, C', M', R.keep rfl rfl rfl rfl (fun i j a1 a2 a3 => ?_), hDR.set H.dk hk hx' hy' hv', hSR.keep rfl rfl⟩
        · unfold fX5_set
          rw [H.brc, hb_s, hsc, hb2_s, if_neg (by simp), H.swq hk, hb_s, ar_rc (H.war hk), hb_s, i2L, i2L, bif_t (p_inWhole H hk (sm_i x) (sm_i y)) q', hb2_s, if_neg (by decide), H.src hk, hb_s, (p_fits H hk _).1 qv, hb2_s, if_neg (by decide), H.sdq hk, hb_s, H.src hk, hb_s, p_indexOf H hk, hb2_s, ex, ey,
            show ((y' : Int) * ((D k).2.1 : Int) + (x' : Int)) = ((y' * (D k).2.1 + x' : Nat) : Int) by push_cast; rfl, iI_nat, ia_si (H.dia hk) hi (by omega), hb_s]
        · unfold fX6_set
          have f1 : (4096 : Int32) * nI k + (64 : Int32) * y + x = nI (4096 * k + 64 * y' + x') := by
            rw [exn, eyn, show (4096 : Int32) = nI 4096 from rfl, show (64 : Int32) = nI 64 from rfl, pk_mul, pk_mul, nI_add, nI_add]
          rw [M.rc, hb_s, hsm, hb2_s, if_neg (by decide), M.rc, hb_s, i2L, i2L, bif_t (m_isPlace M R H.dk hk (sm_i x) (sm_i y)) q', hb2_s, if_neg (by decide), M.rc, hb_s, (m_fits M R H.dk hk _).1 qv, hb2_s, if_neg (by decide), M.q5, hb_s, f1, em, hb_s]
        · rw [va_up_self, upd_n (by omega)]
      · refine ⟨0, hc, hm, ?_, ?_, hAG0⟩
        · unfold fX5_set
          rw [H.brc, hb_s, hsc, hb2_s, if_neg (by simp), H.swq hk, hb_s, ar_rc (H.war hk), hb_s, i2L, i2L, bif_t (p_inWhole H hk (sm_i x) (sm_i y)) q, hb2_s, if_neg (by decide), H.src hk, hb_s, (p_fits H hk _).2 qv, hb2_s, if_pos rfl]
        · unfold fX6_set
          rw [M.rc, hb_s, hsm, hb2_s, if_neg (by decide), M.rc, hb_s, i2L, i2L, bif_t (m_isPlace M R H.dk hk (sm_i x) (sm_i y)) q, hb2_s, if_neg (by decide), M.rc, hb_s, (m_fits M R H.dk hk _).2 qv, hb2_s, if_pos rfl]
    · refine ⟨0, hc, hm, ?_, ?_, hAG0⟩
      · unfold fX5_set
        rw [H.brc, hb_s, hsc, hb2_s, if_neg (by simp), H.swq hk, hb_s, ar_rc (H.war hk), hb_s, i2L, i2L, bif_f (p_inWhole H hk (sm_i x) (sm_i y)) q, hb2_s, if_pos rfl]
      · unfold fX6_set
        rw [M.rc, hb_s, hsm, hb2_s, if_neg (by decide), M.rc, hb_s, i2L, i2L, bif_f (m_isPlace M R H.dk hk (sm_i x) (sm_i y)) q, hb2_s, if_pos rfl]
  · refine ⟨0, hc, hm, ?_, ?_, hAG0⟩
    · unfold fX5_set
      rw [H.brc, hb_s, (p_surfaceAt H s).1 hs, hb2_s, if_pos rfl]
    · unfold fX6_set
      rw [M.rc, hb_s, (m_isSurface M hn s).1 hs, hb2_s, if_pos rfl]
/-! make -/
theorem st_p {h : hm_H} {a ci k : Nat} {fs : List Value} (ho : ob h a ci fs) (hk : k < fs.length) (v : Value) : ∃ h1, hm_p ci k v h (some a) = some h1 ∧ ob h1 a ci (fs.set k v) ∧ (∀ q, q ≠ a → h1.1 q = h.1 q) ∧ h1.2 = h.2 :=
  ⟨_, ob_p ho hk, va_up_self _ _ _, fun q hq => up_ne hq, rfl⟩
/-- a new Surface -/
theorem p_surf {h : hm_H} {d w g : Nat} (hd : d = 1 ∨ d = 4 ∨ d = 8) (hw : w ≤ 64) (hg : g ≤ 64) : ∃ h', fX3_init h.2 (nI d) (nI w) (nI g) (hm_n h (.inr (3, [.int 0, .int 0, .null, .null, .null]))) = some h' ∧ h'.2 = h.2 + 3 ∧ ob h' h.2 3 [.int (nI d), .int (nI (2 ^ d - 1)), .ref (h.2 + 1), .ref (h.2 + 2), .ref (h.2 + 1)] ∧ ar h' (h.2 + 1) 0 0 w g ∧ ia h' (h.2 + 2) (w * g) (fun _ => 0) ∧ ∀ q, q ≠ h.2 → q ≠ h.2 + 1 → q ≠ h.2 + 2 → h'.1 q = h.1 q := by
  have hwg := wg_le hw hg
  have e0 : ob (hm_n h (.inr (3, [.int 0, .int 0, .null, .null, .null]))) h.2 3 [.int 0, .int 0, .null, .null, .null] := hn_self _ _
  have g0 : (hm_n h (.inr (3, [.int 0, .int 0, .null, .null, .null]))).2 = h.2 + 1 := rfl
  have k0 : ∀ q, q ≠ h.2 → (hm_n h (.inr (3, [.int 0, .int 0, .null, .null, .null]))).1 q = h.1 q := fun q hq => hn_ne hq
  generalize hm_n h (.inr (3, [.int 0, .int 0, .null, .null, .null])) = h0 at e0 g0 k0
  have hlg : (1 : Int32) <<< (nI d &&& 31) - (1 : Int32) = nI (2 ^ d - 1) := by
    rw [sh_d hd]
    exact pk_sub (b := 1) (pw_d hd).1
  unfold fX3_init
  rw [hlg]
  obtain ⟨h1, p1, e1, k1, g1⟩ := st_p e0 (k := 0) (Nat.le_of_ble_eq_true rfl) (.int (nI d))
  rw [p1, hb_s]
  obtain ⟨h2, p2, e2, k2, g2⟩ := st_p e1 (k := 1) (Nat.le_of_ble_eq_true rfl) (.int (nI (2 ^ d - 1)))
  rw [p2, hb_s, hlet_s]
  have z0 : (0 : Int64) = iL 0 := rfl
  rw [p_area, hb_s, z0]
  have gg2 : h2.2 = h.2 + 1 := by rw [g2, g1, g0]
  have e3 : ob (hm_n h2 (.inr (0, [.long (iL 0), .long (iL 0), .int (nI w), .int (nI g)]))) h.2 3 [.int (nI d), .int (nI (2 ^ d - 1)), .null, .null, .null] := (hn_ne (by omega)).trans e2
  have a3 : ar (hm_n h2 (.inr (0, [.long (iL 0), .long (iL 0), .int (nI w), .int (nI g)]))) (h.2 + 1) 0 0 w g := by rw [← gg2]; exact hn_self _ _
  have g3 : (hm_n h2 (.inr (0, [.long (iL 0), .long (iL 0), .int (nI w), .int (nI g)]))).2 = h.2 + 2 := by rw [hn_2, gg2]
  have k3 : ∀ q, q ≠ h2.2 → (hm_n h2 (.inr (0, [.long (iL 0), .long (iL 0), .int (nI w), .int (nI g)]))).1 q = h2.1 q := fun q hq => hn_ne hq
  generalize hm_n h2 (.inr (0, [.long (iL 0), .long (iL 0), .int (nI w), .int (nI g)])) = h3 at e3 a3 g3 k3
  obtain ⟨h4, p4, e4, k4, g4⟩ := st_p e3 (k := 2) (Nat.le_of_ble_eq_true rfl) (va_rf (some h2.2))
  rw [p4, hb_s]
  have ni : hm_ni 0 4096 (nI w * nI g) h4 = some (hm_n h4 (.inl (0, w * g, .inl (fun _ => 0)))) := by
    unfold hm_ni
    rw [pk_mul, nI_clamp (by omega), if_pos ⟨nI_pos (by omega), hwg⟩]
  rw [ni, hb_s]
  have gg4 : h4.2 = h.2 + 2 := by rw [g4, g3]
  have e5 : ob (hm_n h4 (.inl (0, w * g, .inl (fun _ => 0)))) h.2 3 [.int (nI d), .int (nI (2 ^ d - 1)), .ref h2.2, .null, .null] := (hn_ne (by omega)).trans e4
  have i5 : ia (hm_n h4 (.inl (0, w * g, .inl (fun _ => 0)))) (h.2 + 2) (w * g) (fun _ => 0) := by rw [← gg4]; exact hn_self _ _
  have g5 : (hm_n h4 (.inl (0, w * g, .inl (fun _ => 0)))).2 = h.2 + 3 := by rw [hn_2, gg4]
  have k5 : ∀ q, q ≠ h4.2 → (hm_n h4 (.inl (0, w * g, .inl (fun _ => 0)))).1 q = h4.1 q := fun q hq => hn_ne hq
  generalize hm_n h4 (.inl (0, w * g, .inl (fun _ => 0))) = h5 at e5 i5 g5 k5
  obtain ⟨h6, p6, e6, k6, g6⟩ := st_p e5 (k := 3) (Nat.le_of_ble_eq_true rfl) (va_rf (some h4.2))
  rw [p6, hb_s, ob_gq e6 (v := h2.2) rfl, hb_s]
  obtain ⟨h7, p7, e7, k7, g7⟩ := st_p e6 (k := 4) (Nat.le_of_ble_eq_true rfl) (va_rf (some h2.2))
  rw [p7, hb_s]
  refine ⟨h7, rfl, by rw [g7, g6, g5], ?_, ?_, ?_, fun q n1 n2 n3 => ?_⟩
  · rw [gg2, gg4] at e7
    exact e7
  · refine (k7 _ (by omega)).trans ((k6 _ (by omega)).trans ((k5 _ (by omega)).trans ((k4 _ (by omega)).trans a3)))
  · exact (k7 _ (by omega)).trans ((k6 _ (by omega)).trans i5)
  · rw [k7 q n1, k6 q n1, k5 q (by omega), k4 q n1, k3 q (by omega), k2 q n1, k1 q n1, k0 q n1]
theorem CH.make {b n : Nat} {S C P : Nat → Nat} {D : Nat → Nat × Nat × Nat} {K : Nat → Nat × Nat × Nat × Nat} {Z : Nat → Int32 × Int32} {tk : Nat → Int32} {G Y : Nat → Nat → Int32} {h : hm_H} (H : CH b n S C P D K Z tk G Y h) (hn : n < 8) {d w g : Nat} (hd : d = 1 ∨ d = 4 ∨ d = 8) (hw : 1 ≤ w ∧ w ≤ 64) (hg : 1 ≤ g ∧ g ≤ 64) :
    ∃ h', fX5_make_50 (some b) (nI d) (nI w) (nI g) 1 1 h = some (nI n, h') ∧ CH b (n + 1) (va_up S n h.2) (va_up C n (h.2 + 1)) P (va_up D n (d, w, g)) (va_up K n (0, 0, w, g)) Z tk (va_up G n (fun _ => 0)) Y h' := by
  obtain ⟨⟨o1, o2, o3⟩, ⟨⟨f1, a1, a1'⟩, ⟨f2, a2, a2'⟩, a3, a4, a5⟩, ⟨d1, d2, d3, d4, d5, d6⟩, hD⟩ := H
  obtain ⟨h1, p1, g1, s1, r1, i1, k1⟩ := p_surf (h := h) hd hw.2 hg.2
  have fr := d6 h.2 (Nat.le_refl _)
  have nb : ∀ q x, h.1 q = some x → q < h.2 := fun q x hq => by
    rcases Nat.lt_or_ge q h.2 with z | z
    · exact z
    · rw [d6 q z] at hq; cases hq
  have kk : ∀ q x, h.1 q = some x → h1.1 q = some x := fun q x hq => by
    have := nb q x hq
    rw [k1 q (by omega) (by omega) (by omega)]; exact hq
  have bo : ob h1 b 5 [.ref (b + 1), .int (nI n), .ref (b + 2), .ref (P 4), .ref (b + 13)] := kk _ _ o1
  have ba : qa 3 h1 (b + 1) 8 f1 := kk _ _ a1
  have lb := nb _ _ o1
  have la := nb _ _ a1
  have sq := qa_sq ba s1 hn (by decide)
  have q1 : ∀ q, q ≠ b + 1 → (va_up h1.1 (b + 1) (some (.inl (3, 8, .inr (.inr (.inr (.inr (va_up f1 n (some h.2)))))))), h1.2).1 q = h1.1 q := fun q hq => up_ne hq
  have q1s : qa 3 (va_up h1.1 (b + 1) (some (.inl (3, 8, .inr (.inr (.inr (.inr (va_up f1 n (some h.2)))))))), h1.2) (b + 1) 8 (va_up f1 n (some h.2)) := va_up_self _ _ _
  have g2 : (va_up h1.1 (b + 1) (some (.inl (3, 8, .inr (.inr (.inr (.inr (va_up f1 n (some h.2)))))))), h1.2).2 = h.2 + 3 := g1
  generalize (va_up h1.1 (b + 1) (some (.inl (3, 8, .inr (.inr (.inr (.inr (va_up f1 n (some h.2)))))))), h1.2) = h2 at sq q1 q1s g2
  have bo2 : ob h2 b 5 [.ref (b + 1), .int (nI n), .ref (b + 2), .ref (P 4), .ref (b + 13)] := (q1 _ (by omega)).trans bo
  obtain ⟨h3, p3, b3, k3, g3⟩ := st_p bo2 (k := 1) (Nat.le_of_ble_eq_true rfl) (.int (nI n + 1))
  have e8 : (8 : Int32) = nI 8 := rfl
  have k13 : ∀ q, q ≠ b → q ≠ b + 1 → h3.1 q = h1.1 q := fun q n1 n2 => (k3 q n1).trans (q1 q n2)
  have kh : ∀ q x, q ≠ b → q ≠ b + 1 → h.1 q = some x → h3.1 q = some x := fun q x n1 n2 hq => by rw [k13 q n1 n2]; exact kk q x hq
  have obn : ∀ {q : Nat} {ci : Nat} {fs : List Value}, ob h q ci fs → ci ≠ 5 → ob h3 q ci fs := fun {q ci fs} ho hci => by
    refine kh q _ (fun e => ?_) (fun e => ?_) ho
    · rw [e] at ho; have := ho.symm.trans o1; simp at this; exact hci this.1
    · rw [e] at ho; have := ho.symm.trans a1; simp at this
  refine ⟨h3, ?_, ⟨⟨?_, ?_, fun k hk => obn (o3 k hk) (by decide)⟩, ⟨⟨va_up f1 n (some h.2), (k3 _ (by omega)).trans q1s, fun i hi => ?_⟩, ⟨f2, kh _ _ (by omega) (by omega) a2, a2'⟩, kh _ _ (by omega) (by omega) a3, fun i hi => ?_, fun k hk => ?_⟩, ⟨fun i hi => ?_, fun i j hij hj => ?_, d3, d4, ?_, fun a ha => ?_⟩, ?_⟩⟩
  · unfold fX5_make_50
    rw [if_neg (by decide), if_neg (by decide), ob_gi o1 (v := nI n) rfl, hb_s, if_pos (by rw [e8]; exact nI_lt hn (by decide)), ob_gq o1 (v := b + 1) rfl, hb_s, hb_s, hlet_s, p1, hb_s, sq, hb_s, ob_gi bo2 (v := nI n) rfl, hb_s, p3, hb_s, ob_gi b3 (v := nI n + 1) rfl, hb_s]
    rw [show nI n + 1 - (1 : Int32) = nI n from by rw [← nI_succ]; exact nI_pred n]
  · rw [← nI_succ] at b3
    exact b3
  · intro i hi
    by_cases e : i = n
    · subst e
      simp only [va_up_self]
      exact ⟨(k13 _ (by omega) (by omega)).trans s1, (k13 _ (by omega) (by omega)).trans r1, (k13 _ (by omega) (by omega)).trans r1⟩
    · simp only [va_up_ne _ _ e]
      have := o2 i (by omega)
      exact ⟨obn this.1 (by decide), obn this.2.1 (by decide), obn this.2.2 (by decide)⟩
  · by_cases e : i = n
    · subst e
      rw [va_up_self, va_up_self]
    · rw [va_up_ne _ _ e, va_up_ne _ _ e]
      exact a1' i (by omega)
  · by_cases e : i = n
    · subst e
      simp only [va_up_self]
      exact (k13 _ (by omega) (by omega)).trans i1
    · simp only [va_up_ne _ _ e]
      have := d1 i (by omega)
      exact kh _ _ (by omega) (by omega) (a4 i (by omega))
  · obtain ⟨j, hj, ej⟩ := d3 k hk
    exact kh _ _ (by omega) (by omega) (a5 k hk)
  · by_cases e : i = n
    · subst e
      rw [va_up_self]
      omega
    · rw [va_up_ne _ _ e]
      have := d1 i (by omega)
      omega
  · by_cases e : j = n
    · subst e
      rw [va_up_self, va_up_ne _ _ (by omega)]
      exact (d1 i (by omega)).2
    · rw [va_up_ne _ _ e, va_up_ne _ _ (by omega)]
      exact d2 i j hij (by omega)
  · omega
  · rw [k13 a (by omega) (by omega), k1 a (by omega) (by omega) (by omega)]
    exact d6 a (by omega)
  · refine ⟨by omega, fun i hi => ?_⟩
    by_cases e : i = n
    · subst e
      simp only [va_up_self]
      exact ⟨hd, hw.1, hw.2, hg.1, hg.2, by omega, by omega⟩
    · simp only [va_up_ne _ _ e]
      exact hD.2 i (by omega)
/-- the arguments of make: good, or not -/
def mk_ok (n : Nat) (d w g : Int32) : Prop := (d = 1 ∨ d = 4 ∨ d = 8) ∧ (1 ≤ w.toInt ∧ w.toInt ≤ 64) ∧ (1 ≤ g.toInt ∧ g.toInt ≤ 64) ∧ n < 8
theorem i_nat {x : Int32} (h : 0 ≤ x.toInt) : ∃ k : Nat, x = nI k ∧ (k : Int) = x.toInt := by
  have := i_rng x
  refine ⟨x.toInt.toNat, ?_, by omega⟩
  apply Int32.toInt_inj.mp
  rw [nI_toInt (by omega)]
  omega
theorem p_make50_no {b n : Nat} {S C P : Nat → Nat} {D : Nat → Nat × Nat × Nat} {K : Nat → Nat × Nat × Nat × Nat} {Z : Nat → Int32 × Int32} {tk : Nat → Int32} {G Y : Nat → Nat → Int32} {h : hm_H} (H : CH b n S C P D K Z tk G Y h) (x1 x2 x3 x4 s0 : Int32) (hx : x4 = 0 ∨ s0 = 0 ∨ 8 ≤ n) : fX5_make_50 (some b) x1 x2 x3 x4 s0 h = some (-1, h) := by
  unfold fX5_make_50
  have hn := H.dk.1
  by_cases q1 : x4 = 0
  · rw [if_pos q1]
  · rw [if_neg q1]
    by_cases q2 : s0 = 0
    · rw [if_pos q2]
    · rw [if_neg q2, ob_gi H.1.1 (v := nI n) rfl, hb_s, if_neg]
      have : n = 8 := by
        rcases hx with z | z | z
        · exact absurd z q1
        · exact absurd z q2
        · omega
      subst this
      decide
theorem p_make21 (b : Nat) (x1 x2 x3 s0 : Int32) (h : hm_H) : fX5_make_21 (some b) x1 x2 x3 s0 h = fX5_make_50 (some b) x1 x2 x3 s0 (if (1 ≤ x2.toInt ∧ x2.toInt ≤ 64) ∧ (1 ≤ x3.toInt ∧ x3.toInt ≤ 64) then 1 else 0) h := by
  unfold fX5_make_21 fX5_make_49
  by_cases q1 : x2 ≤ 0
  · rw [if_pos q1, if_neg (by rw [i_le, Int32.toInt_zero] at q1; omega)]
  · rw [if_neg q1]
    by_cases q2 : x3 ≤ 0
    · rw [if_pos q2, if_neg (by rw [i_le, Int32.toInt_zero] at q2; omega)]
    · rw [if_neg q2]
      rw [i_le, Int32.toInt_zero] at q1 q2
      by_cases q3 : x2.toInt ≤ 64
      · rw [bif_t (p_isSide x2 h) ⟨by omega, q3⟩, hb2_s, if_neg (by decide)]
        by_cases q4 : x3.toInt ≤ 64
        · rw [bif_t (p_isSide x3 h) ⟨by omega, q4⟩, hb2_s, if_neg (by decide), if_pos (by omega)]
        · rw [bif_f (p_isSide x3 h) (by omega), hb2_s, if_pos rfl, if_neg (by omega)]
      · rw [bif_f (p_isSide x2 h) (by omega), hb2_s, if_pos rfl, if_neg (by omega)]
theorem p_make (b : Nat) (d w g : Int32) (h : hm_H) : fX5_make b d w g h = fX5_make_50 (some b) d w g (if d = 1 ∨ d = 4 ∨ d = 8 then 1 else 0) (if (1 ≤ w.toInt ∧ w.toInt ≤ 64) ∧ (1 ≤ g.toInt ∧ g.toInt ≤ 64) then 1 else 0) h := by
  unfold fX5_make fX5_make_16
  by_cases q1 : d = 1
  · rw [if_pos q1, p_make21, if_pos (c := d = 1 ∨ d = 4 ∨ d = 8) (Or.inl q1)]
  · rw [if_neg q1]
    by_cases q2 : d = 4
    · rw [if_pos q2, p_make21, if_pos (c := d = 1 ∨ d = 4 ∨ d = 8) (Or.inr (Or.inl q2))]
    · rw [if_neg q2]
      by_cases q3 : d = 8
      · rw [if_pos q3, p_make21, if_pos (c := d = 1 ∨ d = 4 ∨ d = 8) (Or.inr (Or.inr q3))]
      · rw [if_neg q3, p_make21, if_neg (c := d = 1 ∨ d = 4 ∨ d = 8) (by simp [q1, q2, q3])]
theorem m_make (m : Nat) (d w g : Int32) (h : hm_H) : fX6_make m d w g h = fX6_make_21 (some m) d w g (if d = 1 ∨ d = 4 ∨ d = 8 then 1 else 0) h := by
  unfold fX6_make fX6_make_16
  by_cases q1 : d = 1
  · rw [if_pos q1, if_pos (c := d = 1 ∨ d = 4 ∨ d = 8) (Or.inl q1)]
  · rw [if_neg q1]
    by_cases q2 : d = 4
    · rw [if_pos q2, if_pos (c := d = 1 ∨ d = 4 ∨ d = 8) (Or.inr (Or.inl q2))]
    · rw [if_neg q2]
      by_cases q3 : d = 8
      · rw [if_pos q3, if_pos (c := d = 1 ∨ d = 4 ∨ d = 8) (Or.inr (Or.inr q3))]
      · rw [if_neg q3, if_neg (c := d = 1 ∨ d = 4 ∨ d = 8) (by simp [q1, q2, q3])]
theorem m_make21_no {m n : Nat} {ms dr : Int32} {F : Nat → Nat → Int32} {h : hm_H} (M : MH m n ms dr F h) (hn : n ≤ 8) (d w g s0 : Int32) (hx : s0 = 0 ∨ ¬ ((1 ≤ w.toInt ∧ w.toInt ≤ 64) ∧ (1 ≤ g.toInt ∧ g.toInt ≤ 64)) ∨ 8 ≤ n) : fX6_make_21 (some m) d w g s0 h = some (-1, h) := by
  unfold fX6_make_21
  have t1 : (1 : Int32).toInt = 1 := rfl
  have t64 : (64 : Int32).toInt = 64 := rfl
  by_cases q0 : s0 = 0
  · rw [if_pos q0]
  · rw [if_neg q0]
    by_cases q1 : w < 1
    · rw [if_pos q1]
    · rw [if_neg q1]
      by_cases q2 : 64 < w
      · rw [if_pos q2]
      · rw [if_neg q2]
        by_cases q3 : g < 1
        · rw [if_pos q3]
        · rw [if_neg q3]
          by_cases q4 : 64 < g
          · rw [if_pos q4]
          · rw [if_neg q4, M.gn, hb_s, if_pos]
            rw [i_lt, t1] at q1 q3
            rw [i_lt, t64] at q2 q4
            have : n = 8 := by
              rcases hx with z | z | z
              · exact absurd z q0
              · exact absurd (by omega) z
              · omega
            subst this
            rfl
/-- the reference's make -/
theorem m_make21_ok {m n : Nat} {ms dr : Int32} {F : Nat → Nat → Int32} {h : hm_H} (M : MH m n ms dr F h) (hn : n < 8) {d w g : Nat} (hw : 1 ≤ w ∧ w ≤ 64) (hg : 1 ≤ g ∧ g ≤ 64) :
    ∃ h' F', fX6_make_21 (some m) (nI d) (nI w) (nI g) 1 h = some (nI n, h') ∧ MH m (n + 1) ms dr F' h' ∧ F' 1 = upd (F 1) n (nI d) ∧ F' 2 = upd (F 2) n (nI w) ∧ F' 3 = upd (F 3) n (nI g) ∧ F' 4 = upd (upd (upd (upd (F 4) (4 * n) 0) (4 * n + 1) 0) (4 * n + 2) (nI w)) (4 * n + 3) (nI g) ∧ F' 5 = F 5 ∧ F' 8 = F 8 ∧ F' 9 = F 9 := by
  obtain ⟨h1, e1, M1, -⟩ := M.si 1 (j := n) (nI d) (by decide) (by show n < 8; omega)
  obtain ⟨h2, e2, M2, -⟩ := M1.si 2 (j := n) (nI w) (by decide) (by show n < 8; omega)
  obtain ⟨h3, e3, M3, -⟩ := M2.si 3 (j := n) (nI g) (by decide) (by show n < 8; omega)
  obtain ⟨h4, e4, M4, -⟩ := M3.si 4 (j := 4 * n) 0 (by decide) (by show _ < 32; omega)
  obtain ⟨h5, e5, M5, -⟩ := M4.si 4 (j := 4 * n + 1) 0 (by decide) (by show _ < 32; omega)
  obtain ⟨h6, e6, M6, -⟩ := M5.si 4 (j := 4 * n + 2) (nI w) (by decide) (by show _ < 32; omega)
  obtain ⟨h7, e7, M7, -⟩ := M6.si 4 (j := 4 * n + 3) (nI g) (by decide) (by show _ < 32; omega)
  obtain ⟨h8, e8, M8, -⟩ := M7.pn (n + 1)
  have f4 : (4 : Int32) * nI n = nI (4 * n) := pk_mul 4 n
  have f1 : nI (4 * n) + (1 : Int32) = nI (4 * n + 1) := nI_add _ 1
  have f2 : nI (4 * n) + (2 : Int32) = nI (4 * n + 2) := nI_add _ 2
  have f3 : nI (4 * n) + (3 : Int32) = nI (4 * n + 3) := nI_add _ 3
  have fn : nI n + (1 : Int32) = nI (n + 1) := nI_1 n
  have tw : (nI w).toInt = w := nI_toInt (by omega)
  have tg : (nI g).toInt = g := nI_toInt (by omega)
  have t1 : (1 : Int32).toInt = 1 := rfl
  have t64 : (64 : Int32).toInt = 64 := rfl
  refine ⟨h8, _, ?_, M8, rfl, rfl, rfl, rfl, rfl, rfl, rfl⟩
  unfold fX6_make_21
  rw [if_neg (by decide), if_neg (by rw [i_lt, tw, t1]; omega), if_neg (by rw [i_lt, tw, t64]; omega), if_neg (by rw [i_lt, tg, t1]; omega), if_neg (by rw [i_lt, tg, t64]; omega), M.gn, hb_s, if_neg (by rw [show (8 : Int32) = nI 8 from rfl, nI_eq (by omega) (by omega)]; omega), M.q1, hb_s, hb_s, e1, hb_s, M1.q2, hb_s, M1.gn, hb_s, e2, hb_s, M2.q3, hb_s, M2.gn, hb_s, e3, hb_s, M3.q4, hb_s, M3.gn, hb_s, f4, e4, hb_s, M4.q4, hb_s, M4.gn, hb_s, f4, f1, e5, hb_s, M5.q4, hb_s, M5.gn, hb_s, f4, f2, e6, hb_s, M6.q4, hb_s, M6.gn, hb_s, f4, f3, e7, hb_s, M7.gn, hb_s, fn, e8, hb_s, M8.gn, hb_s]
  rw [show nI (n + 1) - (1 : Int32) = nI n from nI_pred n]
theorem ag_make (b m : Nat) (d w g : Int32) : AO b m (fX5_make b d w g) (fX6_make m d w g) := by
  intro hc hm hAG
  have hAG0 := hAG
  obtain ⟨n, S, C, P, D, K, Z, tk, G, Y, ms, dr, F, H, M, R, hDR, hSR⟩ := hAG
  have hn := H.dk.1
  by_cases q : mk_ok n d w g
  · obtain ⟨qd, qw, qg, qn⟩ := q
    obtain ⟨w', rfl, ew⟩ := i_nat (x := w) (by omega)
    obtain ⟨g', rfl, eg⟩ := i_nat (x := g) (by omega)
    obtain ⟨d', rfl, hd'⟩ : ∃ d' : Nat, d = nI d' ∧ (d' = 1 ∨ d' = 4 ∨ d' = 8) := by
      rcases qd with rfl | rfl | rfl
      · exact ⟨1, rfl, by decide⟩
      · exact ⟨4, rfl, by decide⟩
      · exact ⟨8, rfl, by decide⟩
    obtain ⟨hc', ec, H'⟩ := H.make qn hd' (w := w') (g := g') (by omega) (by omega)
    obtain ⟨hm', F', em, M', F1, F2, F3, F4, F5, F8, F9⟩ := m_make21_ok M qn (d := d') (w := w') (g := g') (by omega) (by omega)
    refine ⟨nI n, hc', hm', by rw [p_make, if_pos qd, if_pos ⟨qw, qg⟩]; exact ec, by rw [m_make, if_pos qd]; exact em, n + 1, _, _, P, _, _, Z, tk, _, Y, ms, dr, F', H', M', ⟨fun i hi => ?_, fun i j a1 a2 a3 => ?_⟩, fun i x y hi hx hy => ?_, hSR.keep F8 F9⟩
    · rw [F1, F2, F3, F4]
      by_cases e : i = n
      · subst e
        simp only [va_up_self]
        refine ⟨upd_s, upd_s, upd_s, ?_, ?_, ?_, upd_s⟩
        · rw [upd_n (by omega), upd_n (by omega), upd_n (by omega), upd_s]; rfl
        · rw [upd_n (by omega), upd_n (by omega), upd_s]; rfl
        · rw [upd_n (by omega), upd_s]
      · simp only [va_up_ne _ _ e]
        rw [upd_n e, upd_n e, upd_n e, upd_n (by omega), upd_n (by omega), upd_n (by omega), upd_n (by omega), upd_n (by omega), upd_n (by omega), upd_n (by omega), upd_n (by omega), upd_n (by omega), upd_n (by omega), upd_n (by omega), upd_n (by omega), upd_n (by omega), upd_n (by omega), upd_n (by omega), upd_n (by omega)]
        exact R.1 i (by omega)
    · rw [F5]
      exact R.2 i j (by omega) a2 a3
    · rw [F5]
      by_cases e : i = n
      · subst e
        simp only [va_up_self] at hx hy ⊢
        rw [show 4096 * i + 64 * y + x = 4096 * i + (64 * y + x) by omega, R.2 i (64 * y + x) (Nat.le_refl _) (by omega) (by omega)]
        exact ⟨rfl, 0, Nat.two_pow_pos _, rfl⟩
      · simp only [va_up_ne _ _ e] at hx hy ⊢
        exact hDR i x y (by omega) hx hy
  · refine ⟨-1, hc, hm, ?_, ?_, hAG0⟩
    · rw [p_make]
      refine p_make50_no H _ _ _ _ _ ?_
      by_cases qd : d = 1 ∨ d = 4 ∨ d = 8
      · by_cases qs : (1 ≤ w.toInt ∧ w.toInt ≤ 64) ∧ (1 ≤ g.toInt ∧ g.toInt ≤ 64)
        · refine Or.inr (Or.inr ?_)
          rcases Nat.lt_or_ge n 8 with z | z
          · exact absurd ⟨qd, qs.1, qs.2, z⟩ q
          · exact z
        · exact Or.inr (Or.inl (if_neg qs))
      · exact Or.inl (if_neg qd)
    · rw [m_make]
      refine m_make21_no M hn _ _ _ _ ?_
      by_cases qd : d = 1 ∨ d = 4 ∨ d = 8
      · by_cases qs : (1 ≤ w.toInt ∧ w.toInt ≤ 64) ∧ (1 ≤ g.toInt ∧ g.toInt ≤ 64)
        · refine Or.inr (Or.inr ?_)
          rcases Nat.lt_or_ge n 8 with z | z
          · exact absurd ⟨qd, qs.1, qs.2, z⟩ q
          · exact z
        · exact Or.inr (Or.inl qs)
      · exact Or.inl (if_neg qd)
