/-! tell, both sides -/
def sw {α : Type} (s : Nat) (f : Nat → α) (j : Nat) : α := if j = s then f 4 else if j = 4 then f s else f j
section TEL
variable {b n : Nat} {S C P : Nat → Nat} {D : Nat → Nat × Nat × Nat} {K : Nat → Nat × Nat × Nat × Nat} {Z : Nat → Int32 × Int32} {tk : Nat → Int32} {G Y : Nat → Nat → Int32} {h : hm_H}
theorem CH.spq (H : CH b n S C P D K Z tk G Y h) : hm_gq 5 2 h (some b) = some (some (b + 2)) := ob_gq H.1.1 rfl
theorem CH.spr3 (H : CH b n S C P D K Z tk G Y h) : hm_gq 5 3 h (some b) = some (some (P 4)) := ob_gq H.1.1 rfl
theorem CH.spa (H : CH b n S C P D K Z tk G Y h) {k : Nat} (hk : k < 4) : hm_aq 2 h (some (b + 2)) (nI k) = some (some (P k)) := by
  obtain ⟨ho, ⟨-, ⟨f2, a2, a2'⟩, -⟩, -, hd⟩ := H
  rw [qa_aq a2 hk (by decide), a2' k hk]
/-- the spare sprite becomes sprite s -/
theorem CH.swap (H : CH b n S C P D K Z tk G Y h) {s : Nat} (hs : s < 4) : ∃ h1 h2, hm_sq 2 2 h (some (b + 2)) (nI s) (some (P 4)) = some h1 ∧ hm_p 5 3 (.ref (P s)) h1 (some b) = some h2 ∧ CH b n S C (sw s P) D K (sw s Z) tk G (sw s Y) h2 := by
  have p4 := H.pob (k := 4) (by decide)
  obtain ⟨⟨o1, o2, o3⟩, ⟨⟨f1, a1, a1'⟩, ⟨f2, a2, a2'⟩, a3, a4, a5⟩, ⟨d1, d2, d3, d4, d5, d6⟩, hD⟩ := H
  have e1 := qa_sq a2 p4 hs (by decide)
  have ob1 : ob (va_up h.1 (b + 2) (some (.inl (2, 4, .inr (.inr (.inr (.inr (va_up f2 s (some (P 4))))))))), h.2) b 5 [.ref (b + 1), .int (nI n), .ref (b + 2), .ref (P 4), .ref (b + 13)] := (up_ne (by omega)).trans o1
  obtain ⟨h2, e2, O2, k2, g2⟩ := st_p ob1 (k := 3) (Nat.le_of_ble_eq_true rfl) (.ref (P s))
  have kk : ∀ q, q ≠ b → q ≠ b + 2 → h2.1 q = h.1 q := fun q q1 q2 => (k2 q q1).trans (up_ne q2)
  have kob : ∀ {q ci : Nat} {fs : List Value}, ob h q ci fs → ci ≠ 5 → ob h2 q ci fs := fun {q ci fs} ho hne => (kk q (ob_ne ho o1 hne) (ob_qa_ne ho a2)).trans ho
  have kia : ∀ {q z : Nat} {f : Nat → Int32}, ia h q z f → q ≠ b + 2 → ia h2 q z f := fun {q z f} hi hne => (kk q (Ne.symm (ob_ia_ne o1 hi)) hne).trans hi
  have sp : ∀ k, k < 5 → ∃ k', k' < 5 ∧ sw s P k = P k' ∧ sw s Z k = Z k' ∧ sw s Y k = Y k' ∧ (k = s → k' = 4) ∧ (k = 4 → k' = s) ∧ (k ≠ s → k ≠ 4 → k' = k) := fun k hk => by
    unfold sw
    by_cases q : k = s
    · exact ⟨4, by omega, by rw [if_pos q], by rw [if_pos q], by rw [if_pos q], fun _ => rfl, fun _ => by omega, fun z => absurd q z⟩
    · by_cases q2 : k = 4
      · exact ⟨s, by omega, by rw [if_neg q, if_pos q2], by rw [if_neg q, if_pos q2], by rw [if_neg q, if_pos q2], fun z => absurd z q, fun _ => rfl, fun _ z => absurd q2 z⟩
      · exact ⟨k, hk, by rw [if_neg q, if_neg q2], by rw [if_neg q, if_neg q2], by rw [if_neg q, if_neg q2], fun z => absurd z q, fun z => absurd z q2, fun _ _ => rfl⟩
  refine ⟨_, h2, e1, e2, ⟨⟨?_, fun i hi => ⟨kob (o2 i hi).1 (by decide), kob (o2 i hi).2.1 (by decide), kob (o2 i hi).2.2 (by decide)⟩, fun k hk => ?_⟩, ⟨⟨f1, (kk _ (by omega) (by omega)).trans a1, a1'⟩, ⟨va_up f2 s (some (P 4)), (k2 _ (by omega)).trans (va_up_self _ _ _), fun k hk => ?_⟩, kia a3 (by omega), fun i hi => kia (a4 i hi) (by have := d1 i hi; omega), fun k hk => ?_⟩, ⟨fun i hi => by rw [g2]; exact d1 i hi, d2, fun k hk => ?_, fun k k' hk hk' e => ?_, by rw [g2]; exact d5, fun q hq => ?_⟩, hD⟩⟩
  · have : sw s P 4 = P s := by unfold sw; rw [if_neg (by omega), if_pos rfl]
    rw [this]
    exact O2
  · obtain ⟨k', q1, q2, q3, -⟩ := sp k hk
    rw [q2, q3]
    exact kob (o3 k' q1) (by decide)
  · unfold sw
    by_cases q : k = s
    · subst q
      rw [va_up_self, if_pos rfl]
    · rw [va_up_ne _ _ q, if_neg q, if_neg (by omega), a2' k hk]
  · obtain ⟨k', q1, q2, q3, q4, -⟩ := sp k hk
    rw [q2, q4]
    obtain ⟨j, hj, ej⟩ := d3 k' q1
    exact kia (a5 k' q1) (by omega)
  · obtain ⟨k', q1, q2, -⟩ := sp k hk
    rw [q2]
    exact d3 k' q1
  · obtain ⟨k1, q1, q2, -, -, u1, u2, u3⟩ := sp k hk
    obtain ⟨k2', r1, r2, -, -, v1, v2, v3⟩ := sp k' hk'
    rw [q2, r2] at e
    have := d4 k1 k2' q1 r1 e
    omega
  · rw [g2] at hq
    have hq' : h.2 ≤ q := hq
    rw [kk q (by omega) (by omega)]
    exact d6 q hq'
/-- a new Teller -/
theorem p_teller (h : hm_H) (s k : Nat) (key : Int32) : fX4_init h.2 (some s) key (some k) (hm_n h (.inr (4, [.null, .int 0, .null]))) = some (hm_n h (.inr (4, [.ref s, .int key, .ref k]))) := by
  have e0 : ob (hm_n h (.inr (4, [.null, .int 0, .null]))) h.2 4 [.null, .int 0, .null] := hn_self _ _
  unfold fX4_init
  rw [ob_p e0 (Nat.le_of_ble_eq_true rfl), hb_s]
  have e1 : ob (va_up (hm_n h (.inr (4, [.null, .int 0, .null]))).1 h.2 (some (.inr (4, [.ref s, .int 0, .null]))), h.2 + 1) h.2 4 [.ref s, .int 0, .null] := va_up_self _ _ _
  show hm_b (hm_p 4 1 (.int key) (va_up (hm_n h (.inr (4, [.null, .int 0, .null]))).1 h.2 (some (.inr (4, [.ref s, .int 0, .null]))), h.2 + 1) (some h.2)) _ = _
  rw [ob_p e1 (Nat.le_of_ble_eq_true rfl), hb_s]
  have e2 : ob (va_up (va_up (hm_n h (.inr (4, [.null, .int 0, .null]))).1 h.2 (some (.inr (4, [.ref s, .int 0, .null])))) h.2 (some (.inr (4, [.ref s, .int key, .null]))), h.2 + 1) h.2 4 [.ref s, .int key, .null] := va_up_self _ _ _
  show hm_b (hm_p 4 2 (.ref k) (va_up (va_up (hm_n h (.inr (4, [.null, .int 0, .null]))).1 h.2 (some (.inr (4, [.ref s, .int 0, .null])))) h.2 (some (.inr (4, [.ref s, .int key, .null]))), h.2 + 1) (some h.2)) _ = _
  rw [ob_p e2 (Nat.le_of_ble_eq_true rfl), hb_s]
  show some _ = some _
  congr 1
  unfold hm_n
  simp only [up_up]
  rfl
end TEL
/-- the bytes of the first y rows -/
def rowsL (d2 : Nat → Nat → Int32) (W : Nat) (key : Int32) : Nat → List Int32
  | 0 => []
  | y + 1 => rowsL d2 W key y ++ (crow (d2 y) W key (te (d2 y) key W) 0 ++ [0])
theorem rowsL_len (d2 : Nat → Nat → Int32) {W : Nat} (hW : W ≤ 64) (key : Int32) (y : Nat) : (rowsL d2 W key y).length ≤ 97 * y := by
  induction y with
  | zero => exact Nat.le_refl _
  | succ y ih =>
    show (rowsL d2 W key y ++ (crow (d2 y) W key (te (d2 y) key W) 0 ++ [0])).length ≤ _
    have te0 := te_le (d2 y) key W
    have cl := crow_len (dt := d2 y) (W := W) (key := key) (e := te (d2 y) key W) (by omega) (te_hi W) (te (d2 y) key W) 0 (by omega) (Or.inl rfl)
    rw [List.length_append, List.length_append]
    show _ + (_ + 1) ≤ _
    split at cl <;> omega
section TEM
variable {b n : Nat} {S C P : Nat → Nat} {D : Nat → Nat × Nat × Nat} {K : Nat → Nat × Nat × Nat × Nat} {Z0 : Nat → Int32 × Int32} {tk : Nat → Int32} {G Y0 : Nat → Nat → Int32} {tl k : Nat} {key : Int32} {d2 : Nat → Nat → Int32}
theorem p_addRows (hk : k < n) (hd2 : ∀ y c, y < (D k).2.2 → c < (D k).2.1 → G k (y * (D k).2.1 + c) = d2 y c) {h : hm_H} (T : CT b n S C P D K Z0 tk G Y0 tl k key [] h) : ∃ h', fX4_addRows tl h = some h' ∧ CT b n S C P D K Z0 tk G Y0 tl k key (rowsL d2 (D k).2.1 key (D k).2.2) h' := by
  have hd := T.dk.2 k hk
  have lp : ∀ r y fu h, y + r = (D k).2.2 → r < fu → CT b n S C P D K Z0 tk G Y0 tl k key (rowsL d2 (D k).2.1 key y) h → ∃ h', hm_loop (fun _ _ _ => none) fX4_addRows_2 fu (some tl) (nI y) h = some h' ∧ CT b n S C P D K Z0 tk G Y0 tl k key (rowsL d2 (D k).2.1 key (D k).2.2) h' := by
    intro r
    induction r with
    | zero =>
      intro y fu h hy hfu T
      obtain ⟨fu, rfl⟩ : ∃ q, fu = q + 1 := ⟨fu - 1, by omega⟩
      have : y = (D k).2.2 := by omega
      subst this
      refine ⟨h, ?_, T⟩
      rw [hm_loop_s, fX4_addRows_2, ob_gq T.o (v := S k) rfl, hb_s, T.sw hk, hb_s, ar_g (T.wa hk), hb_s, if_pos (nI_le (Nat.le_refl _) (by omega))]
    | succ r ih =>
      intro y fu h hy hfu T
      obtain ⟨fu, rfl⟩ : ∃ q, fu = q + 1 := ⟨fu - 1, by omega⟩
      have hf : y * (D k).2.1 + (D k).2.1 ≤ (D k).2.1 * (D k).2.2 := by
        have := Nat.mul_le_mul (show y + 1 ≤ (D k).2.2 by omega) (Nat.le_refl (D k).2.1)
        rw [Nat.add_mul, Nat.one_mul, Nat.mul_comm (D k).2.2] at this
        exact this
      obtain ⟨h1, e1, T1⟩ := p_addRow hk hf (hdt := fun c hc => hd2 y c (by omega) hc) T
      obtain ⟨h2, e2, T2⟩ := p_app T1 0
      obtain ⟨h', e', T'⟩ := ih (y + 1) fu h2 (by omega) (by omega) (by rw [List.append_assoc] at T2; exact T2)
      refine ⟨h', ?_, T'⟩
      have ix : fX3_indexOf (S k) (0 : Int64) (nI y).toInt64 h = some (nI (y * (D k).2.1), h) := by
        obtain ⟨Z, Y, H, -⟩ := T
        rw [nI_L (by omega)]
        show fX3_indexOf (S k) (iL 0) (iL y) h = _
        rw [p_indexOf H hk, ← iI_nat]
        congr 3
      have rc3 : hm_rc 3 h (some (S k)) = some (S k) := by
        obtain ⟨Z, Y, H, -⟩ := T
        exact H.src hk
      rw [hm_loop_s, fX4_addRows_2, ob_gq T.o (v := S k) rfl, hb_s, T.sw hk, hb_s, ar_g (T.wa hk), hb_s, if_neg (nI_ge (by omega) (by omega)), hb_s, rc3, hb_s, ix, hb2_s, ob_rc T.o, hb_s, e1, hb_s, ob_gq T1.o (v := P 4) rfl, hb_s, T1.rs, hb_s, e2, hb_s, nI_1]
      exact e'
  exact lp (D k).2.2 0 hm_fu h (by omega) (by unfold hm_fu; omega) T
end TEM
section TEN
variable {m n : Nat} {dr : Int32} {F0 : Nat → Nat → Int32} {D : Nat → Nat × Nat × Nat} {K : Nat → Nat × Nat × Nat × Nat} {k : Nat} {d2 : Nat → Nat → Int32} {key : Int32}
theorem m_rows (R : MR n D K F0) (hD : DK n D K) (hk : k < n) (hdt : ∀ y c, y < (D k).2.2 → c < (D k).2.1 → F0 5 (4096 * k + 64 * y + c) = d2 y c) (hby : ∀ y c, y < (D k).2.2 → c < (D k).2.1 → byt (d2 y c)) (s : Int32) : ∀ r y fu h, y + r = (D k).2.2 → r < fu → MT m n dr F0 (rowsL d2 (D k).2.1 key y) h → ∃ K2 h', hm_loop (fun _ _ _ _ _ _ => none) fX6_tell_26 fu (some m) s (nI k) key (nI y) h = fX6_tell_26 K2 (some m) s (nI k) key (nI (D k).2.2) h' ∧ MT m n dr F0 (rowsL d2 (D k).2.1 key (D k).2.2) h' := by
  have hd := hD.2 k hk
  intro r
  induction r with
  | zero =>
    intro y fu h hy hfu T
    obtain ⟨fu, rfl⟩ : ∃ q, fu = q + 1 := ⟨fu - 1, by omega⟩
    have : y = (D k).2.2 := by omega
    subst this
    exact ⟨hm_loop (fun _ _ _ _ _ _ => none) fX6_tell_26 fu, h, by rw [hm_loop_s], T⟩
  | succ r ih =>
    intro y fu h hy hfu T
    obtain ⟨fu, rfl⟩ : ∃ q, fu = q + 1 := ⟨fu - 1, by omega⟩
    have ln := rowsL_len d2 (show (D k).2.1 ≤ 64 by omega) key y
    obtain ⟨h1, e1, T1⟩ := m_tellRow R hD hk (show y < (D k).2.2 by omega) (dt := d2 y) (fun c hc => hdt y c (by omega) hc) (fun c hc => hby y c (by omega) hc) (key := key) T (by omega)
    obtain ⟨K2, h', e', T'⟩ := ih (y + 1) fu h1 (by omega) (by omega) T1
    refine ⟨K2, h', ?_, T'⟩
    rw [hm_loop_s, fX6_tell_26, (T.ht R hD hk).1, hb_s, (T.ht R hD hk).2, hb_s, if_neg (nI_ge (by omega) (by omega)), T.rc, hb_s, e1, hb_s, nI_1]
    exact e'
/-- the bytes told become the sprite's -/
theorem m_keep {F1 : Nat → Nat → Int32} {z s : Nat} (hs : s < 4) (hz : z ≤ 5000) : ∀ r j fu (F : Nat → Nat → Int32) h, j + r = z → r < fu → MH m n (nI z) dr F h → (∀ q, q ≠ 9 → F q = F1 q) → (∀ i, i < j → F 9 (5000 * s + i) = F1 10 i) → (∀ i, (i < 5000 * s ∨ 5000 * s + 5000 ≤ i) → F 9 i = F1 9 i) → ∃ F' h', hm_loop (fun _ _ _ _ => none) fX6_tell_76 fu (some m) (nI s) (nI j) h = some (nI z, h') ∧ MH m n (nI z) dr F' h' ∧ (∀ q, q ≠ 9 → F' q = F1 q) ∧ (∀ i, i < z → F' 9 (5000 * s + i) = F1 10 i) ∧ (∀ i, (i < 5000 * s ∨ 5000 * s + 5000 ≤ i) → F' 9 i = F1 9 i) := by
  intro r
  induction r with
  | zero =>
    intro j fu F h hj hfu M p1 p2 p3
    obtain ⟨fu, rfl⟩ : ∃ q, fu = q + 1 := ⟨fu - 1, by omega⟩
    have : j = z := by omega
    subst this
    refine ⟨F, h, ?_, M, p1, p2, p3⟩
    rw [hm_loop_s, fX6_tell_76, M.gm, hb_s, if_pos (nI_le (Nat.le_refl _) (by omega)), hb_s]
  | succ r ih =>
    intro j fu F h hj hfu M p1 p2 p3
    obtain ⟨fu, rfl⟩ : ∃ q, fu = q + 1 := ⟨fu - 1, by omega⟩
    have ld := M.ai 10 (j := j) (by decide) (by show j < 7000; omega)
    rw [p1 10 (by decide)] at ld
    obtain ⟨h1, e1, M1, -⟩ := M.si 9 (j := 5000 * s + j) (F1 10 j) (by decide) (by show _ < 20000; omega)
    obtain ⟨F', h', e', M', q1, q2, q3⟩ := ih (j + 1) fu _ h1 (by omega) (by omega) M1 (fun q hq => by rw [va_up_ne _ _ hq]; exact p1 q hq) (fun i hi => by
      rw [va_up_self]
      by_cases e : i = j
      · subst e; exact upd_s
      · rw [upd_n (by omega)]; exact p2 i (by omega)) (fun i hi => by rw [va_up_self, upd_n (by omega)]; exact p3 i hi)
    refine ⟨F', h', ?_, M', q1, q2, q3⟩
    have ix : (5000 : Int32) * nI s + nI j = nI (5000 * s + j) := by rw [show (5000 : Int32) = nI 5000 from rfl, pk_mul, nI_add]
    rw [hm_loop_s, fX6_tell_76, M.gm, hb_s, if_neg (nI_ge (by omega) (by omega)), M.q9, hb_s, M.q10, hb_s, ld, hb_s, ix, e1, hb_s, nI_1]
    exact e'
end TEN
theorem ag_tell (b m : Nat) (s t key : Int32) : AO b m (fX5_tell b s t key) (fX6_tell m s t key) := by
  intro hc hm hAG
  have hAG0 := hAG
  obtain ⟨n, S, C, P, D, K, Z, tk, G, Y, ms, dr, F, H, M, R, hDR, hSR⟩ := hAG
  have hn := H.dk.1
  by_cases q1 : isf 4 s
  · obtain ⟨ks, hs, rfl⟩ := isf_nI (by decide) q1
    have sc := (p_spriteAt H (nI ks)).2 ks hs rfl
    have sm' := (m_isSprite m (nI ks) hm).2 ks hs rfl
    by_cases q2 : isf n t
    · obtain ⟨k, hk, rfl⟩ := isf_nI (by omega) q2
      have hd := H.dk.2 k hk
      have uc := (p_surfaceAt H (nI k)).2 k hk rfl
      have um := (m_isSurface M hn (nI k)).2 k hk rfl
      -- the class
      obtain ⟨h1, e1, H1⟩ := p_empty H (k := 4) (by decide)
      obtain ⟨H2, o2⟩ := H1.new (.inr (4, [.ref (S k), .int key, .ref (P 4)]))
      have et := p_teller h1 (S k) (P 4) key
      have nq : hm_gq 5 3 (hm_n h1 (.inr (4, [.null, .int 0, .null]))) (some b) = some (some (P 4)) := (H1.new (.inr (4, [.null, .int 0, .null]))).1.spr3
      have T0 : CT b n S C P D K Z tk G Y h1.2 k key [] (hm_n h1 (.inr (4, [.ref (S k), .int key, .ref (P 4)]))) := ⟨_, _, H2, hn_self _ _, by rw [va_up_self]; rfl, by rw [va_up_self]; rfl, fun j v e => by simp at e, fun j hj => ⟨va_up_ne _ _ (by omega), rfl⟩⟩
      obtain ⟨h3, e3, T3⟩ := p_addRows (d2 := fun y c => F 5 (4096 * k + 64 * y + c)) hk (fun y c hy hc => (hDR k c y hk hc hy).1) T0
      -- the reference
      obtain ⟨g1, f1, M1, -⟩ := M.pm 0
      have T1 : MT m n dr F (rowsL (fun y c => F 5 (4096 * k + 64 * y + c)) (D k).2.1 key 0) g1 := ⟨F, M1, fun _ _ => rfl, fun j v e => by simp [rowsL] at e, fun v hv => by simp [rowsL] at hv⟩
      have pw := pw_d hd.1
      obtain ⟨K2, g2, f2, T2⟩ := m_rows R H.dk hk (d2 := fun y c => F 5 (4096 * k + 64 * y + c)) (fun _ _ _ _ => rfl) (fun y c hy hc => by obtain ⟨v, v1, v2⟩ := (hDR k c y hk hc hy).2; exact ⟨v, by omega, v2⟩) (key := key) (nI ks) (D k).2.2 0 hm_fu g1 (by omega) (by unfold hm_fu; omega) T1
      have ln := rowsL_len (fun y c => F 5 (4096 * k + 64 * y + c)) (show (D k).2.1 ≤ 64 by omega) key (D k).2.2
      have ht2 := T2.ht R H.dk hk
      obtain ⟨Zc, Yc, H3, O3, z1, z2, yb, oth⟩ := T3
      obtain ⟨Fm, M2, fo, fb, fy⟩ := T2
      generalize hL : rowsL (fun y c => F 5 (4096 * k + 64 * y + c)) (D k).2.1 key (D k).2.2 = L at *
      have R2 : MR n D K Fm := R.keep (fo 1 (by decide)) (fo 2 (by decide)) (fo 3 (by decide)) (fo 4 (by decide)) (fun i j _ _ _ => by rw [fo 5 (by decide)])
      have DR2 : DR n D G Fm := fun i x y hi hx hy => by rw [fo 5 (by decide)]; exact hDR i x y hi hx hy
      by_cases q3 : L.length ≤ 5000
      · obtain ⟨h4, h5, e4, e5, H5⟩ := H3.swap (s := ks) hs
        obtain ⟨g3, f3, M3, -⟩ := M2.si 8 (j := ks) (nI L.length) (by decide) hs
        obtain ⟨F', g4, f4, M4, p1, p2, p3⟩ := m_keep (F1 := va_up Fm 8 (upd (Fm 8) ks (nI L.length))) hs q3 L.length 0 hm_fu _ g3 (by omega) (by unfold hm_fu; omega) M3 (fun _ _ => rfl) (fun i hi => absurd hi (by omega)) (fun _ _ => rfl)
        have e4s : sw ks P ks = P 4 := by unfold sw; rw [if_pos rfl]
        have z4s : sw ks Zc ks = Zc 4 := by unfold sw; rw [if_pos rfl]
        rw [show min L.length 5000 = L.length by omega] at z1
        refine ⟨nI L.length, h5, g4, ?_, ?_, n, S, C, _, D, K, _, tk, G, _, nI L.length, dr, F', H5, M4, ?_, ?_, ?_⟩
        · unfold fX5_tell
          have a1 := H5.spa hs
          have a2 := H5.gsz (k := ks) (by omega)
          rw [e4s] at a1 a2
          rw [z4s] at a2
          rw [H.brc, hb_s, sc, hb2_s, H.brc, hb_s, uc, hb2_s, if_neg (by simp), if_neg (by simp), H.spr3, hb_s, H.prc (by decide), hb_s, e1, hb_s, hlet_s, nq, hb_s, et, hb_s, ob_rc (T0.o), hb_s, e3, hb_s, H3.spr3, hb_s, H3.gsp (by decide), hb_s, z2, if_neg (show ¬ 5000 < L.length by omega), if_pos rfl, H3.spq, hb_s, hb_s, e4, hb_s]
          show hm_b (hm_p 5 3 (.ref (P ks)) h4 (some b)) _ = _
          rw [e5, hb_s, H5.spq, hb_s, a1, hb_s, a2, hb_s, z1]
        · rw [fX6_tell, M.rc, hb_s, sm', hb2_s, if_neg (by decide), M.rc, hb_s, um, hb2_s, if_neg (by decide), f1, hb_s]
          show hm_loop (fun _ _ _ _ _ _ => none) fX6_tell_26 hm_fu (some m) (nI ks) (nI k) key (nI 0) g1 = _
          rw [f2, fX6_tell_26, ht2.1, hb_s, ht2.2, hb_s, if_pos (nI_le (Nat.le_refl _) (by omega)), M2.gm, hb_s, show (5000 : Int32) = nI 5000 from rfl, if_pos (nI_le q3 (by decide)), M2.q8, hb_s, hb_s, f3, hb_s]
          exact f4
        · exact R2.keep (by rw [p1 1 (by decide)]; exact va_up_ne _ _ (by decide)) (by rw [p1 2 (by decide)]; exact va_up_ne _ _ (by decide)) (by rw [p1 3 (by decide)]; exact va_up_ne _ _ (by decide)) (by rw [p1 4 (by decide)]; exact va_up_ne _ _ (by decide)) (fun i j _ _ _ => by rw [p1 5 (by decide), va_up_ne _ _ (by decide)])
        · intro i x y hi hx hy
          rw [p1 5 (by decide), va_up_ne _ _ (by decide)]
          exact DR2 i x y hi hx hy
        · intro j hj
          by_cases e : j = ks
          · subst e
            refine ⟨L.length, q3, by rw [z4s]; exact z1, by rw [p1 8 (by decide), va_up_self]; exact upd_s, fun i hi => ?_⟩
            have y4 : sw j Yc j = Yc 4 := by unfold sw; rw [if_pos rfl]
            have gi : L[i]? = some L[i] := List.getElem?_eq_getElem hi
            have fbi : va_up Fm 8 (upd (Fm 8) j (nI L.length)) 10 i = L[i] := by rw [va_up_ne _ _ (show (10 : Nat) ≠ 8 by decide)]; exact fb i _ gi
            rw [y4, yb i _ gi (by omega), p2 i hi, fbi]
            exact ⟨rfl, fy _ (List.getElem_mem hi)⟩
          · obtain ⟨z, zz, zc, zm, zb⟩ := hSR j hj
            have s1 : sw ks Zc j = Z j := by unfold sw; rw [if_neg e, if_neg (by omega)]; exact (oth j hj).1
            have s2 : sw ks Yc j = Y j := by unfold sw; rw [if_neg e, if_neg (by omega)]; exact (oth j hj).2
            refine ⟨z, zz, by rw [s1]; exact zc, by rw [p1 8 (by decide), va_up_self, upd_n e, fo 8 (by decide)]; exact zm, fun i hi => ?_⟩
            rw [s2, p3 _ (by omega), va_up_ne _ _ (by decide), fo 9 (by decide)]
            exact zb i hi
      · refine ⟨-1, h3, g2, ?_, ?_, n, S, C, P, D, K, Zc, tk, G, Yc, _, dr, Fm, H3, M2, R2, DR2, ?_⟩
        · unfold fX5_tell
          rw [H.brc, hb_s, sc, hb2_s, H.brc, hb_s, uc, hb2_s, if_neg (by simp), if_neg (by simp), H.spr3, hb_s, H.prc (by decide), hb_s, e1, hb_s, hlet_s, nq, hb_s, et, hb_s, ob_rc (T0.o), hb_s, e3, hb_s, H3.spr3, hb_s, H3.gsp (by decide), hb_s, z2, if_pos (show 5000 < L.length by omega), if_neg (by decide)]
        · rw [fX6_tell, M.rc, hb_s, sm', hb2_s, if_neg (by decide), M.rc, hb_s, um, hb2_s, if_neg (by decide), f1, hb_s]
          show hm_loop (fun _ _ _ _ _ _ => none) fX6_tell_26 hm_fu (some m) (nI ks) (nI k) key (nI 0) g1 = _
          rw [f2, fX6_tell_26, ht2.1, hb_s, ht2.2, hb_s, if_pos (nI_le (Nat.le_refl _) (by omega)), M2.gm, hb_s, show (5000 : Int32) = nI 5000 from rfl, if_neg (nI_ge (by omega) (by omega))]
        · intro j hj
          obtain ⟨z, zz, zc, zm, zb⟩ := hSR j hj
          refine ⟨z, zz, by rw [(oth j hj).1]; exact zc, by rw [fo 8 (by decide)]; exact zm, fun i hi => ?_⟩
          rw [(oth j hj).2, fo 9 (by decide)]
          exact zb i hi
    · refine ⟨-1, hc, hm, ?_, ?_, hAG0⟩
      · unfold fX5_tell
        rw [H.brc, hb_s, sc, hb2_s, H.brc, hb_s, (p_surfaceAt H t).1 q2, hb2_s, if_neg (by simp), if_pos rfl]
      · rw [fX6_tell, M.rc, hb_s, sm', hb2_s, if_neg (by decide), M.rc, hb_s, (m_isSurface M hn t).1 q2, hb2_s, if_pos rfl]
  · refine ⟨-1, hc, hm, ?_, ?_, hAG0⟩
    · unfold fX5_tell
      rw [H.brc, hb_s, (p_spriteAt H s).1 q1, hb2_s, H.brc, hb_s]
      by_cases q2 : isf n t
      · obtain ⟨k, hk, rfl⟩ := isf_nI (by omega) q2
        rw [(p_surfaceAt H (nI k)).2 k hk rfl, hb2_s, if_pos rfl]
      · rw [(p_surfaceAt H t).1 q2, hb2_s, if_pos rfl]
    · rw [fX6_tell, M.rc, hb_s, (m_isSprite m s hm).1 q1, hb2_s, if_pos rfl]
