/-! draw: the reference's side -/
def DT (m n : Nat) (ms : Int32) (F0 : Nat → Nat → Int32) (L : List (Nat × Nat × Nat)) (h : hm_H) : Prop :=
  ∃ F, MH m n ms (nI L.length) F h ∧ (∀ j, j ≠ 11 → j ≠ 12 → j ≠ 13 → F j = F0 j) ∧ ∀ j p, L[j]? = some p → F 11 j = nI p.1 ∧ F 12 j = nI p.2.1 ∧ F 13 j = nI p.2.2
section DRM
variable {m n : Nat} {ms : Int32} {F0 : Nat → Nat → Int32}
theorem m_add {L : List (Nat × Nat × Nat)} {h : hm_H} (T : DT m n ms F0 L h) (hl : L.length < 4096) (x y v : Nat) : ∃ h', fX6_add m (nI x) (nI y) (nI v) h = some h' ∧ DT m n ms F0 (L ++ [(x, y, v)]) h' := by
  obtain ⟨F, M, oth, bs⟩ := T
  obtain ⟨h1, e1, M1, -⟩ := M.si 11 (j := L.length) (nI x) (by decide) hl
  obtain ⟨h2, e2, M2, -⟩ := M1.si 12 (j := L.length) (nI y) (by decide) hl
  obtain ⟨h3, e3, M3, -⟩ := M2.si 13 (j := L.length) (nI v) (by decide) hl
  obtain ⟨h4, e4, M4, -⟩ := M3.pd (nI (L.length + 1))
  refine ⟨h4, ?_, _, by rw [List.length_append]; exact M4, fun j p1 p2 p3 => ?_, fun j p e => ?_⟩
  · unfold fX6_add
    rw [M.q13, hb_s, M.gd, hb_s, e1, hb_s, M1.q14, hb_s, M1.gd, hb_s, e2, hb_s, M2.q15, hb_s, M2.gd, hb_s, e3, hb_s, M3.gd, hb_s, nI_1, e4, hb_s]
  · rw [va_up_ne _ _ p3, va_up_ne _ _ p2, va_up_ne _ _ p1]
    exact oth j p1 p2 p3
  · rw [va_up_self, va_up_ne _ _ (show (12 : Nat) ≠ 13 by decide), va_up_self, va_up_ne _ _ (show (11 : Nat) ≠ 13 by decide), va_up_ne _ _ (show (11 : Nat) ≠ 12 by decide), va_up_self, va_up_ne _ _ (show (13 : Nat) ≠ 12 by decide), va_up_ne _ _ (show (13 : Nat) ≠ 11 by decide), va_up_ne _ _ (show (12 : Nat) ≠ 11 by decide)]
    by_cases e3 : j = L.length
    · subst e3
      rw [upd_s, upd_s, upd_s]
      simp at e
      subst e
      exact ⟨rfl, rfl, rfl⟩
    · rw [upd_n e3, upd_n e3, upd_n e3]
      by_cases e4 : j < L.length
      · rw [List.getElem?_append_left e4] at e
        exact bs j p e
      · have : (L ++ [(x, y, v)])[j]? = none := by
          rw [List.getElem?_eq_none]
          simp
          omega
        rw [this] at e
        cases e
theorem DT.rc {L : List (Nat × Nat × Nat)} {h : hm_H} (T : DT m n ms F0 L h) : hm_rc 6 h (some m) = some m := by
  obtain ⟨F, M, -⟩ := T
  exact M.rc
theorem m_adds (s t z w : Int32) {row v col0 j nn kd : Nat} {dots : Int32} (k : Int32) (K146 : Option Nat → Int32 → Int32 → Int32 → Int32 → Int32 → Int32 → Int32 → Int32 → Int32 → Int32 → Int32 → hm_H → Option (Int32 × hm_H)) {tm : Nat} (htm : tm = if kd = 2 then nn else 1) (hkd : kd < 4) (hn : nn ≤ 64) : ∀ r i fu L h, i + r = tm → r < fu → DT m n ms F0 L h → L.length + r ≤ 4096 → ∃ h', hm_loop (fun _ _ _ _ _ _ _ _ _ _ _ _ _ _ _ => none) (fX6_readSprite_196 K146) fu (some m) s t z (nI row) (nI col0) w k (nI nn) (nI kd) dots (nI j) (nI v) (nI i) h = K146 (some m) s t z (nI row) (nI col0) w (k + 1) (nI nn) (nI kd) dots (nI (j + 1)) h' ∧ DT m n ms F0 (L ++ dsl row v r (col0 + j + i)) h' := by
  have tm64 : tm ≤ 64 := by rw [htm]; split <;> omega
  have lim : ∀ (fu i : Nat) h, fX6_readSprite_196 K146 (hm_loop (fun _ _ _ _ _ _ _ _ _ _ _ _ _ _ _ => none) (fX6_readSprite_196 K146) fu) (some m) s t z (nI row) (nI col0) w k (nI nn) (nI kd) dots (nI j) (nI v) (nI i) h = fX6_readSprite_210 K146 (hm_loop (fun _ _ _ _ _ _ _ _ _ _ _ _ _ _ _ => none) (fX6_readSprite_196 K146) fu) (some m) s t z (nI row) (nI col0) w k (nI nn) (nI kd) dots (nI j) (nI v) (nI i) (nI tm) (nI i) h := fun fu i h => by
    have e2 : nI kd = (2 : Int32) ↔ kd = 2 := nI_eq (b := 2) (by omega) (by decide)
    rw [fX6_readSprite_196]
    by_cases q : kd = 2
    · rw [if_pos (e2.mpr q), htm, if_pos q]
    · rw [if_neg (fun z => q (e2.mp z)), htm, if_neg q]
      rfl
  intro r
  induction r with
  | zero =>
    intro i fu L h hi hfu T hl
    obtain ⟨fu, rfl⟩ : ∃ q, fu = q + 1 := ⟨fu - 1, by omega⟩
    refine ⟨h, ?_, by show DT m n ms F0 (L ++ []) h; rw [List.append_nil]; exact T⟩
    rw [hm_loop_s, lim, fX6_readSprite_210, if_pos (nI_le (by omega) (by omega)), nI_1]
  | succ r ih =>
    intro i fu L h hi hfu T hl
    obtain ⟨fu, rfl⟩ : ∃ q, fu = q + 1 := ⟨fu - 1, by omega⟩
    obtain ⟨h1, e1, T1⟩ := m_add T (by omega) (col0 + j + i) row v
    obtain ⟨h', e', T'⟩ := ih (i + 1) fu _ h1 (by omega) (by omega) T1 (by rw [List.length_append]; show _ + 1 + r ≤ _; omega)
    refine ⟨h', ?_, ?_⟩
    · rw [hm_loop_s, lim, fX6_readSprite_210, if_neg (nI_ge (by omega) (by omega)), T.rc, hb_s, nI_add, nI_add, e1, hb_s, nI_1]
      exact e'
    · rw [List.append_assoc] at T'
      exact T'
/-- what reading comes to -/
def PO (m n : Nat) (ms : Int32) (F0 : Nat → Nat → Int32) (q : Nat × List (Nat × Nat × Nat)) (L : List (Nat × Nat × Nat)) (X : Option (Int32 × hm_H)) : Prop :=
  ∃ h' L', X = some (nI q.1, h') ∧ DT m n ms F0 L' h' ∧ (q.1 = 0 → L' = L ++ q.2) ∧ L'.length ≤ 4096
variable {D : Nat → Nat × Nat × Nat} {K : Nat → Nat × Nat × Nat × Nat} {B : Nat → Nat} {z s t : Nat}
theorem DT.by' {L : List (Nat × Nat × Nat)} {h : hm_H} (T : DT m n ms F0 L h) (hs : s < 4) {k : Nat} (hk : k < z) (hz : z ≤ 5000) (eB : ∀ j, j < z → F0 9 (5000 * s + j) = nI (B j) ∧ B j < 256) : hm_gq 6 9 h (some m) = some (some (m + 9)) ∧ hm_ai 0 h (some (m + 9)) ((5000 : Int32) * nI s + nI k) = some (nI (B k)) := by
  obtain ⟨F, M, oth, -⟩ := T
  have ix : (5000 : Int32) * nI s + nI k = nI (5000 * s + k) := by rw [show (5000 : Int32) = nI 5000 from rfl, pk_mul, nI_add]
  refine ⟨M.q9, ?_⟩
  rw [ix, M.ai 9 (by decide) (by show _ < 20000; omega), oth 9 (by decide) (by decide) (by decide), (eB k hk).1]
theorem DT.fit' {L : List (Nat × Nat × Nat)} {h : hm_H} (T : DT m n ms F0 L h) (R : MR n D K F0) (hD : DK n D K) (ht : t < n) (v : Int32) : (fit (D t).1 v → fX6_fits m (nI t) v h = some (1, h)) ∧ (¬ fit (D t).1 v → fX6_fits m (nI t) v h = some (0, h)) := by
  obtain ⟨F, M, oth, -⟩ := T
  have R1 : MR n D K F := R.keep (oth 1 (by decide) (by decide) (by decide)) (oth 2 (by decide) (by decide) (by decide)) (oth 3 (by decide) (by decide) (by decide)) (oth 4 (by decide) (by decide) (by decide)) (fun i j _ _ _ => by rw [oth 5 (by decide) (by decide) (by decide)])
  exact m_fits M R1 hD ht v
theorem m_dotsIn (R : MR n D K F0) (hD : DK n D K) (ht : t < n) (hs : s < 4) (hz : z ≤ 5000) (eB : ∀ j, j < z → F0 9 (5000 * s + j) = nI (B j) ∧ B j < 256) {row col0 nn kd dots tm : Nat} (htm : tm = if kd = 2 then nn else 1) (hkd : kd < 4) (hn : nn ≤ 64) (hrow : row < 64) (hcol : col0 + nn ≤ 64) (hdt : dots * tm = nn) (hj1 : ∀ j, j < dots → col0 + j * tm = col0 + j) (hd64 : dots ≤ 64)
    (K24 : Option Nat → Int32 → Int32 → Int32 → Int32 → Int32 → Int32 → Int32 → hm_H → Option (Int32 × hm_H)) : ∀ q j r k fu L h, j + q = dots → q < fu → k + r = z → DT m n ms F0 L h → L.length ≤ 64 * row + (col0 + j * tm) →
    (∀ r' k' L' h', k' + r' = z → r' ≤ r → DT m n ms F0 L' h' → L'.length ≤ 64 * row + (col0 + nn) → PO m n ms F0 (rn (2 ^ (D t).1 - 1) z B r' k' row (col0 + nn) 0 tm 1) L' (K24 (some m) (nI s) (nI t) (nI z) (nI row) (nI (col0 + nn)) (1 : Int32) (nI k') h')) →
    PO m n ms F0 (rn (2 ^ (D t).1 - 1) z B r k row (col0 + j * tm) q tm 1) L (hm_loop (fun _ _ _ _ _ _ _ _ _ _ _ _ _ => none) (fX6_readSprite_146 K24) fu (some m) (nI s) (nI t) (nI z) (nI row) (nI col0) (1 : Int32) (nI k) (nI nn) (nI kd) (nI dots) (nI j) h) := by
  have pw := pw_d (hD.2 t ht).1
  intro q
  induction q with
  | zero =>
    intro j r k fu L h hj hfu hk T hl HK
    obtain ⟨fu, rfl⟩ : ∃ q, fu = q + 1 := ⟨fu - 1, by omega⟩
    have : j = dots := by omega
    subst this
    rw [hdt] at hl ⊢
    rw [hm_loop_s, fX6_readSprite_146, if_pos (nI_le (Nat.le_refl _) (by omega)), hlet_s, nI_add]
    exact HK r k L h hk (Nat.le_refl _) T hl
  | succ q ih =>
    intro j r k fu L h hj hfu hk T hl HK
    obtain ⟨fu, rfl⟩ : ∃ q, fu = q + 1 := ⟨fu - 1, by omega⟩
    have ek : nI k = nI z ↔ k = z := nI_eq (by omega) (by omega)
    have m0 : j * tm ≤ nn := by rw [← hdt]; exact Nat.mul_le_mul (by omega) (Nat.le_refl _)
    rw [hm_loop_s, fX6_readSprite_146, if_neg (nI_ge (by omega) (by omega))]
    cases r with
    | zero =>
      rw [if_pos (ek.mpr (by omega)), rn_0, if_neg (by decide), nI_1]
      exact ⟨h, L, rfl, T, fun e => absurd e (by show ¬ z + 1 = 0; omega), by omega⟩
    | succ r =>
      have bk := T.by' hs (show k < z by omega) hz eB
      obtain ⟨-, hb⟩ := eB k (by omega)
      have tb : (nI (B k)).toInt = B k := nI_toInt (by omega)
      rw [if_neg (fun e => by have := ek.mp e; omega), bk.1, hb_s, bk.2, hb_s, T.rc, hb_s, rn_s, if_pos (by omega)]
      by_cases q2 : 2 ^ (D t).1 - 1 < B k
      · rw [(T.fit' R hD ht (nI (B k))).2 (by unfold fit; rw [tb]; omega), hb2_s, if_pos rfl, if_pos q2, nI_1]
        exact ⟨h, L, rfl, T, fun e => absurd e (by show ¬ k + 1 = 0; omega), by omega⟩
      · have m1 : (j + 1) * tm ≤ nn := by rw [← hdt]; exact Nat.mul_le_mul (by omega) (Nat.le_refl _)
        rw [Nat.add_mul, Nat.one_mul] at m1
        obtain ⟨h1, e1, T1⟩ := m_adds (nI s) (nI t) (nI z) 1 (row := row) (v := B k) (col0 := col0) (j := j) (nn := nn) (kd := kd) (dots := nI dots) (nI k) (hm_loop (fun _ _ _ _ _ _ _ _ _ _ _ _ _ => none) (fX6_readSprite_146 K24) fu) htm hkd hn tm 0 hm_fu L h (by omega) (by unfold hm_fu; omega) T (by omega)
        have I := ih (j + 1) r (k + 1) fu _ h1 (by omega) (by omega) (by omega) T1 (by
          have : (dsl row (B k) tm (col0 + j + 0)).length = tm := by
            have : ∀ t c, (dsl row (B k) t c).length = t := fun t => by
              induction t with
              | zero => intro c; rfl
              | succ t ih => intro c; show (_ :: dsl row (B k) t (c + 1)).length = _; rw [List.length_cons, ih]
            exact this tm _
          rw [List.length_append, this, Nat.add_mul, Nat.one_mul]
          omega) (fun r' k' L' h' p1 p2 p3 p4 => HK r' k' L' h' p1 (by omega) p3 p4)
        obtain ⟨h2, L2, e2, T2, c2, n2⟩ := I
        rw [(T.fit' R hD ht (nI (B k))).1 (by unfold fit; rw [tb]; omega), hb2_s, if_neg q2, if_neg (show ¬ (1 : Int32) = 0 by decide), show (0 : Int32) = nI 0 from rfl, e1, nI_1]
        have ec : col0 + (j + 1) * tm = col0 + j * tm + tm := by rw [Nat.add_mul, Nat.one_mul]; omega
        rw [ec] at e2 c2
        refine ⟨h2, L2, e2, T2, fun e => ?_, n2⟩
        rw [c2 e, List.append_assoc, Nat.add_zero, ← hj1 j (by omega)]
        rfl
theorem m_read (R : MR n D K F0) (hD : DK n D K) (ht : t < n) (hs : s < 4) (hz : z ≤ 5000) (eB : ∀ j, j < z → F0 9 (5000 * s + j) = nI (B j) ∧ B j < 256) : ∀ r k row col w tm fu L h, k + r = z → r < fu → row ≤ 64 → col ≤ 64 → 64 * row + col ≤ 4096 → w ≤ 1 → DT m n ms F0 L h → L.length ≤ 64 * row + col →
    PO m n ms F0 (rn (2 ^ (D t).1 - 1) z B r k row col 0 tm w) L (hm_loop (fun _ _ _ _ _ _ _ _ _ => none) fX6_readSprite_24 fu (some m) (nI s) (nI t) (nI z) (nI row) (nI col) (nI w) (nI k) h) := by
  intro r
  induction r using Nat.strongRecOn with
  | _ r ih =>
    intro k row col w tm fu L h hk hfu hrow hcol hrc hw T hl
    obtain ⟨fu, rfl⟩ : ∃ q, fu = q + 1 := ⟨fu - 1, by omega⟩
    rw [hm_loop_s, fX6_readSprite_24]
    cases r with
    | zero =>
      rw [if_pos (nI_le (by omega) (by omega)), rn_0]
      by_cases q : w = 0
      · rw [q, if_pos rfl, if_pos (show nI 0 = 0 from rfl)]
        exact ⟨h, L, rfl, T, fun _ => by rw [List.append_nil], by omega⟩
      · rw [if_neg (nI_ne0 (by omega) (by omega)), if_neg q, nI_1]
        exact ⟨h, L, rfl, T, fun e => absurd e (by show ¬ z + 1 = 0; omega), by omega⟩
    | succ r =>
      have bk := T.by' hs (show k < z by omega) hz eB
      obtain ⟨-, hb⟩ := eB k (by omega)
      have e64 : nI row = (64 : Int32) ↔ row = 64 := nI_eq (b := 64) (by omega) (by decide)
      have er : ∀ e, ¬ e + 1 = 0 := fun e => by omega
      rw [if_neg (nI_ge (by omega) (by omega)), bk.1, hb_s, bk.2, hb_s, hlet_s, hlet_s, b_63 _ hb, b_6 _ hb, rn_s, if_neg (by omega)]
      by_cases q2 : row = 64
      · rw [if_pos (e64.mpr q2), if_pos q2, nI_1]
        exact ⟨h, L, rfl, T, fun e => absurd e (er k), by omega⟩
      · rw [if_neg (fun e => q2 (e64.mp e)), if_neg q2]
        by_cases q3 : B k = 0
        · rw [if_pos q3, q3, if_pos (by decide), fX6_readSprite_97, if_pos (by rfl), nI_1, nI_1]
          exact ih r (by omega) (k + 1) (row + 1) 0 0 tm fu L h (by omega) (by omega) (by omega) (by omega) (by omega) (by omega) T (by omega)
        · have e3 : nI (B k / 64) = (3 : Int32) ↔ B k / 64 = 3 := nI_eq (b := 3) (by omega) (by decide)
          have e0 : nI (B k % 64) = (0 : Int32) ↔ B k % 64 = 0 := nI_eq (b := 0) (by omega) (by decide)
          have eb0 : nI (B k) = (0 : Int32) ↔ B k = 0 := nI_eq (b := 0) (by omega) (by decide)
          have ek0 : nI (B k / 64) = (0 : Int32) ↔ B k / 64 = 0 := nI_eq (b := 0) (by omega) (by decide)
          have ek1 : nI (B k / 64) = (1 : Int32) ↔ B k / 64 = 1 := nI_eq (b := 1) (by omega) (by decide)
          rw [if_neg q3, if_neg (nI_nle (by omega) (by omega))]
          by_cases q4 : B k / 64 = 3
          · rw [if_pos (e3.mpr q4), if_pos (by omega), nI_1]
            exact ⟨h, L, rfl, T, fun e => absurd e (er k), by omega⟩
          · rw [if_neg (fun e => q4 (e3.mp e))]
            by_cases q5 : B k % 64 = 0
            · rw [if_pos (e0.mpr q5), if_pos (Or.inl q5), nI_1]
              exact ⟨h, L, rfl, T, fun e => absurd e (er k), by omega⟩
            · rw [if_neg (fun e => q5 (e0.mp e)), nI_add, show (64 : Int32) = nI 64 from rfl]
              by_cases q6 : 64 < col + B k % 64
              · rw [if_neg (nI_ge q6 (by omega)), if_pos (Or.inr (Or.inr q6)), nI_1]
                exact ⟨h, L, rfl, T, fun e => absurd e (er k), by omega⟩
              · rw [if_pos (nI_le (by omega) (by omega)), if_neg (by omega), fX6_readSprite_97, if_neg (fun e => q3 (eb0.mp e)), nI_1]
                have HK : ∀ tm, ∀ r' k' L' h', k' + r' = z → r' ≤ r → DT m n ms F0 L' h' → L'.length ≤ 64 * row + (col + B k % 64) → PO m n ms F0 (rn (2 ^ (D t).1 - 1) z B r' k' row (col + B k % 64) 0 tm 1) L' (hm_loop (fun _ _ _ _ _ _ _ _ _ => none) fX6_readSprite_24 fu (some m) (nI s) (nI t) (nI z) (nI row) (nI (col + B k % 64)) (1 : Int32) (nI k') h') := fun tm r' k' L' h' p1 p2 p3 p4 => ih r' (by omega) k' row (col + B k % 64) 1 tm fu L' h' p1 (by omega) hrow (by omega) (by omega) (by omega) p3 p4
                by_cases k0 : B k / 64 = 0
                · rw [if_pos (ek0.mpr k0), if_pos (show B k < 64 by omega), fX6_readSprite_141, show hm_fu = 19999 + 1 from rfl, hm_loop_s, fX6_readSprite_146, if_pos (by decide), hlet_s, nI_add]
                  exact HK tm r (k + 1) L h (by omega) (Nat.le_refl _) T (by omega)
                · rw [if_neg (fun e => k0 (ek0.mp e)), if_neg (show ¬ B k < 64 by omega)]
                  by_cases k1 : B k / 64 = 1
                  · rw [if_pos (ek1.mpr k1), if_pos (show B k < 128 by omega), fX6_readSprite_141]
                    have := m_dotsIn R hD ht hs hz eB (row := row) (col0 := col) (nn := B k % 64) (kd := B k / 64) (dots := B k % 64) (tm := 1) (by rw [if_neg (by omega)]) (by omega) (by omega) (by omega) (by omega) (Nat.mul_one _) (fun j _ => by rw [Nat.mul_one]) (by omega) (hm_loop (fun _ _ _ _ _ _ _ _ _ => none) fX6_readSprite_24 fu) (B k % 64) 0 r (k + 1) hm_fu L h (by omega) (by unfold hm_fu; omega) (by omega) T (by omega) (HK 1)
                    rw [Nat.zero_mul, Nat.add_zero] at this
                    exact this
                  · rw [if_neg (fun e => k1 (ek1.mp e)), if_neg (show ¬ B k < 128 by omega), fX6_readSprite_141]
                    have := m_dotsIn R hD ht hs hz eB (row := row) (col0 := col) (nn := B k % 64) (kd := B k / 64) (dots := 1) (tm := B k % 64) (by rw [if_pos (by omega)]) (by omega) (by omega) (by omega) (by omega) (Nat.one_mul _) (fun j hj => by rw [show j = 0 by omega, Nat.zero_mul]) (by omega) (hm_loop (fun _ _ _ _ _ _ _ _ _ => none) fX6_readSprite_24 fu) 1 0 r (k + 1) hm_fu L h (by omega) (by unfold hm_fu; omega) (by omega) T (by omega) (HK (B k % 64))
                    rw [Nat.zero_mul, Nat.add_zero] at this
                    exact this
end DRM
