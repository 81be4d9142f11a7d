/-! draw: the bytes read, and the class's side -/
def dsl (row v : Nat) : Nat → Nat → List (Nat × Nat × Nat)
  | 0, _ => []
  | t + 1, c => (c, row, v) :: dsl row v t (c + 1)
def rn (lg z : Nat) (B : Nat → Nat) : Nat → Nat → Nat → Nat → Nat → Nat → Nat → Nat × List (Nat × Nat × Nat)
  | 0, _, _, _, _, _, w => (if w = 0 then 0 else z + 1, [])
  | r + 1, k, row, col, due, tm, w =>
    if 0 < due then
      if lg < B k then (k + 1, [])
      else ((rn lg z B r (k + 1) row (col + tm) (due - 1) tm w).1, dsl row (B k) tm col ++ (rn lg z B r (k + 1) row (col + tm) (due - 1) tm w).2)
    else if row = 64 then (k + 1, [])
    else if B k = 0 then rn lg z B r (k + 1) (row + 1) 0 0 tm 0
    else if B k % 64 = 0 ∨ 192 ≤ B k ∨ 64 < col + B k % 64 then (k + 1, [])
    else if B k < 64 then rn lg z B r (k + 1) row (col + B k % 64) 0 tm 1
    else if B k < 128 then rn lg z B r (k + 1) row col (B k % 64) 1 1
    else rn lg z B r (k + 1) row col 1 (B k % 64) 1
theorem rn_0 (lg z : Nat) (B : Nat → Nat) (k row col due tm w : Nat) : rn lg z B 0 k row col due tm w = (if w = 0 then 0 else z + 1, []) := rfl
theorem rn_s (lg z : Nat) (B : Nat → Nat) (r k row col due tm w : Nat) : rn lg z B (r + 1) k row col due tm w =
    if 0 < due then
      if lg < B k then (k + 1, [])
      else ((rn lg z B r (k + 1) row (col + tm) (due - 1) tm w).1, dsl row (B k) tm col ++ (rn lg z B r (k + 1) row (col + tm) (due - 1) tm w).2)
    else if row = 64 then (k + 1, [])
    else if B k = 0 then rn lg z B r (k + 1) (row + 1) 0 0 tm 0
    else if B k % 64 = 0 ∨ 192 ≤ B k ∨ 64 < col + B k % 64 then (k + 1, [])
    else if B k < 64 then rn lg z B r (k + 1) row (col + B k % 64) 0 tm 1
    else if B k < 128 then rn lg z B r (k + 1) row col (B k % 64) 1 1
    else rn lg z B r (k + 1) row col 1 (B k % 64) 1 := rfl
theorem dsl_v {row v t c : Nat} : ∀ p ∈ dsl row v t c, p.2.2 = v := by
  induction t generalizing c with
  | zero => intro p hp; cases hp
  | succ t ih =>
    intro p hp
    rcases List.mem_cons.mp hp with rfl | hp
    · rfl
    · exact ih p hp
theorem rn_v {lg z : Nat} {B : Nat → Nat} : ∀ r k row col due tm w, ∀ p ∈ (rn lg z B r k row col due tm w).2, p.2.2 ≤ lg := by
  intro r
  induction r with
  | zero => intro k row col due tm w p hp; cases hp
  | succ r ih =>
    intro k row col due tm w p hp
    rw [rn_s] at hp
    split at hp
    · split at hp
      · cases hp
      · rcases List.mem_append.mp hp with hp | hp
        · rw [dsl_v p hp]; omega
        · exact ih _ _ _ _ _ _ p hp
    · split at hp
      · cases hp
      · split at hp
        · exact ih _ _ _ _ _ _ p hp
        · split at hp
          · cases hp
          · split at hp
            · exact ih _ _ _ _ _ _ p hp
            · split at hp
              · exact ih _ _ _ _ _ _ p hp
              · exact ih _ _ _ _ _ _ p hp
theorem b_63 : ∀ v, v < 256 → nI v &&& 63 = nI (v % 64) := by decide +kernel
theorem b_6 : ∀ v, v < 256 → nI v >>> ((6 : Int32) &&& 31) = nI (v / 64) := by decide +kernel
theorem p_dotBytes {v : Nat} (hv : v < 256) (h : hm_H) : fX2_dotBytes (nI v) h = some (nI (if v < 64 then 0 else if v < 128 then v % 64 else 1), h) := by
  unfold fX2_dotBytes fX2_stretchLength
  rw [show (64 : Int32) = nI 64 from rfl, show (128 : Int32) = nI 128 from rfl, b_63 v hv, hb2_s]
  by_cases q : v < 64
  · rw [if_neg (nI_ge q (by omega)), if_pos q]
    rfl
  · rw [if_pos (nI_le (by omega) (by omega)), if_neg q]
    by_cases q2 : v < 128
    · rw [if_neg (nI_ge q2 (by omega)), if_pos q2]
    · rw [if_pos (nI_le (by omega) (by omega)), if_neg q2]
      rfl
theorem p_isStretch {v : Nat} (hv : v < 256) (h : hm_H) : fX2_isStretch (nI v) h = some (if v % 64 = 0 ∨ 192 ≤ v then 0 else 1, h) := by
  unfold fX2_isStretch fX2_stretchLength
  rw [show (191 : Int32) = nI 191 from rfl, b_63 v hv, hb2_s]
  by_cases q : v % 64 = 0
  · rw [q, if_pos (by decide), if_pos (Or.inl rfl)]
  · rw [if_neg (nI_nle (by omega) (by omega))]
    by_cases q2 : 192 ≤ v
    · rw [if_pos (nI_lt (by omega) (by omega)), if_pos (Or.inr q2)]
    · rw [if_neg (nI_nlt (by omega) (by omega)), if_neg (by omega)]
section DRC
variable {b n : Nat} {S C P : Nat → Nat} {D : Nat → Nat × Nat × Nat} {K : Nat → Nat × Nat × Nat × Nat} {Z : Nat → Int32 × Int32} {tk : Nat → Int32} {G Y : Nat → Nat → Int32} {h : hm_H}
theorem p_firstWrong {s z lg : Nat} {B : Nat → Nat} (hs : s < 5) (hz : z ≤ 5000) (hlg : lg < 256) (H : CH b n S C P D K Z tk G Y h) (ez : (Z s).1 = nI z) (eB : ∀ j, j < z → Y s j = nI (B j) ∧ B j < 256) : ∀ r k row col due tm w fu, k + r = z → r < fu → row ≤ 64 → col + due * tm ≤ 64 → due ≤ 64 → w ≤ 1 →
    hm_loop (fun _ _ _ _ _ _ _ _ => none) fX2_firstWrong_13 fu (some (P s)) (nI lg) (nI row) (nI (col + due * tm)) (nI due) (nI w) (nI k) h = some (nI (rn lg z B r k row col due tm w).1, h) := by
  intro r
  induction r with
  | zero =>
    intro k row col due tm w fu hk hfu h1 h2 h3 h4
    obtain ⟨fu, rfl⟩ : ∃ q, fu = q + 1 := ⟨fu - 1, by omega⟩
    rw [hm_loop_s, fX2_firstWrong_13, H.gsz hs, hb_s, ez, if_pos (nI_le (by omega) (by omega)), rn_0, hb_s]
    by_cases q : w = 0
    · rw [q, if_pos (by rfl), if_pos rfl]
      rfl
    · rw [if_neg (nI_ne0 (by omega) (by omega)), if_neg q, nI_1]
  | succ r ih =>
    intro k row col due tm w fu hk hfu h1 h2 h3 h4
    obtain ⟨fu, rfl⟩ : ∃ q, fu = q + 1 := ⟨fu - 1, by omega⟩
    obtain ⟨eb, hb⟩ := eB k (by omega)
    have ld := ia_ai (H.pia hs) (j := k) (by omega) (by decide)
    rw [eb] at ld
    rw [hm_loop_s, fX2_firstWrong_13, H.gsz hs, hb_s, ez, if_neg (nI_ge (by omega) (by omega)), H.gby hs, hb_s, ld, hb_s, rn_s]
    by_cases q : 0 < due
    · rw [if_neg (nI_nle q (by omega)), if_pos q]
      by_cases q2 : lg < B k
      · rw [if_neg (nI_ge q2 (by omega)), if_pos q2, nI_1]
      · rw [if_pos (nI_le (by omega) (by omega)), if_neg q2, fX2_firstWrong_117, nI_1]
        obtain ⟨d, rfl⟩ : ∃ d, due = d + 1 := ⟨due - 1, by omega⟩
        have em : col + (d + 1) * tm = (col + tm) + d * tm := by rw [Nat.add_mul, Nat.one_mul]; omega
        rw [idx_d, idx_s, em]
        rw [em] at h2
        exact ih (k + 1) row (col + tm) d tm w fu (by omega) (by omega) h1 h2 (by omega) h4
    · have : due = 0 := by omega
      subst this
      have e64 : nI row = (64 : Int32) ↔ row = 64 := nI_eq (b := 64) (by omega) (by decide)
      have e0 : nI (B k) = (0 : Int32) ↔ B k = 0 := nI_eq (b := 0) (by omega) (by decide)
      rw [if_pos (by decide), if_neg q]
      by_cases q2 : row = 64
      · rw [if_pos (e64.mpr q2), if_pos q2, nI_1]
      · rw [if_neg (fun z => q2 (e64.mp z)), if_neg q2]
        by_cases q3 : B k = 0
        · rw [if_pos (e0.mpr q3), if_pos q3, fX2_firstWrong_117, nI_1, nI_1]
          have := ih (k + 1) (row + 1) 0 0 tm 0 fu (by omega) (by omega) (by omega) (by omega) (by omega) (by omega)
          rw [Nat.zero_mul] at this
          exact this
        · rw [if_neg (fun z => q3 (e0.mp z)), if_neg q3]
          unfold fX2_stretchLength
          rw [b_63 _ hb, hb2_s, hlet_s, p_isStretch hb, hb2_s, nI_add, Nat.zero_mul, Nat.add_zero, show (64 : Int32) = nI 64 from rfl]
          by_cases q4 : B k % 64 = 0 ∨ 192 ≤ B k
          · rw [if_pos q4, if_pos rfl, if_pos (by omega), nI_1]
          · rw [if_neg q4, if_neg (by decide)]
            by_cases q5 : 64 < col + B k % 64
            · rw [if_neg (nI_ge q5 (by omega)), if_pos (Or.inr (Or.inr q5)), nI_1]
            · rw [if_pos (nI_le (by omega) (by omega)), if_neg (by omega), p_dotBytes hb, hb2_s, fX2_firstWrong_117, nI_1]
              by_cases q6 : B k < 64
              · rw [if_pos q6, if_pos q6]
                have := ih (k + 1) row (col + B k % 64) 0 tm 1 fu (by omega) (by omega) (by omega) (by omega) (by omega) (by omega)
                rw [Nat.zero_mul, Nat.add_zero] at this
                exact this
              · rw [if_neg q6, if_neg q6]
                by_cases q7 : B k < 128
                · rw [if_pos q7, if_pos q7]
                  have := ih (k + 1) row col (B k % 64) 1 1 fu (by omega) (by omega) (by omega) (by omega) (by omega) (by omega)
                  rw [Nat.mul_one] at this
                  exact this
                · rw [if_neg q7, if_neg q7]
                  have := ih (k + 1) row col 1 (B k % 64) 1 fu (by omega) (by omega) (by omega) (by omega) (by omega) (by omega)
                  rw [Nat.one_mul] at this
                  exact this
/-- one dot put -/
def gput (W c d cw dw : Nat) (x y : Int) (f : Nat → Int32) (p : Nat × Nat × Nat) : Nat → Int32 :=
  if (c : Int) ≤ x + p.1 ∧ x + p.1 < (c : Int) + cw ∧ (d : Int) ≤ y + p.2.1 ∧ y + p.2.1 < (d : Int) + dw then upd f ((y + p.2.1).toNat * W + (x + p.1).toNat) (nI p.2.2) else f
theorem p_putClipped {t : Nat} (ht : t < n) {f : Nat → Int32} (H : CH b n S C P D K Z tk (va_up G t f) Y h) (x y : Int) (p : Nat × Nat × Nat) (hx : sm (x + p.1)) (hy : sm (y + p.2.1)) : ∃ h', fX3_putClipped (S t) (iL (x + p.1)) (iL (y + p.2.1)) (nI p.2.2) h = some h' ∧ CH b n S C P D K Z tk (va_up G t (gput (D t).2.1 (K t).1 (K t).2.1 (K t).2.2.1 (K t).2.2.2 x y f p)) Y h' := by
  have hd := H.dk.2 t ht
  unfold fX3_putClipped gput
  by_cases q : ((K t).1 : Int) ≤ x + p.1 ∧ x + p.1 < ((K t).1 : Int) + (K t).2.2.1 ∧ ((K t).2.1 : Int) ≤ y + p.2.1 ∧ y + p.2.1 < ((K t).2.1 : Int) + (K t).2.2.2
  · obtain ⟨X, eX⟩ := Int.eq_ofNat_of_zero_le (show 0 ≤ x + p.1 by omega)
    obtain ⟨V, eV⟩ := Int.eq_ofNat_of_zero_le (show 0 ≤ y + p.2.1 by omega)
    have ix : iI ((V : Int) * (D t).2.1 + (X : Int)) = nI (V * (D t).2.1 + X) := by
      rw [← iI_nat]
      congr 1
    obtain ⟨h1, e1, H1, -⟩ := H.dot1 ht (j := V * (D t).2.1 + X) (idx_lt (by omega) (by omega)) (nI p.2.2)
    refine ⟨h1, ?_, ?_⟩
    · rw [H.scq ht, hb_s, ar_rc (H.car ht), hb_s, bif_t (p_inClip H ht hx hy) q, hb2_s, if_neg (by decide), H.sdq ht, hb_s, H.src ht, hb_s, p_indexOf H ht, hb2_s, eX, eV, ix, e1, hb_s]
    · rw [if_pos q, eX, eV]
      exact H1
  · refine ⟨h, ?_, ?_⟩
    · rw [H.scq ht, hb_s, ar_rc (H.car ht), hb_s, bif_f (p_inClip H ht hx hy) q, hb2_s, if_pos rfl]
    · rw [if_neg q]
      exact H
theorem p_paintDots {t : Nat} (ht : t < n) (x y : Int32) (row v col : Nat) (hr : row ≤ 64) : ∀ r j fu (f : Nat → Int32) h, r < fu → col + j + r ≤ 64 → CH b n S C P D K Z tk (va_up G t f) Y h → ∃ h', hm_loop (fun _ _ _ _ _ _ _ => none) fX2_paintDots_3 fu (some (S t)) (iL (x.toInt + col)) (iL (y.toInt + row)) (nI (j + r)) (nI v) (nI j) h = some h' ∧ CH b n S C P D K Z tk (va_up G t ((dsl row v r (col + j)).foldl (gput (D t).2.1 (K t).1 (K t).2.1 (K t).2.2.1 (K t).2.2.2 x.toInt y.toInt) f)) Y h' := by
  have rx := i_rng x
  have ry := i_rng y
  intro r
  induction r with
  | zero =>
    intro j fu f h hfu hj H
    obtain ⟨fu, rfl⟩ : ∃ q, fu = q + 1 := ⟨fu - 1, by omega⟩
    refine ⟨h, ?_, H⟩
    rw [hm_loop_s, fX2_paintDots_3, if_pos (nI_le (a := j + 0) (b := j) (Nat.le_refl j) (by omega))]
  | succ r ih =>
    intro j fu f h hfu hj H
    obtain ⟨fu, rfl⟩ : ∃ q, fu = q + 1 := ⟨fu - 1, by omega⟩
    obtain ⟨h1, e1, H1⟩ := p_putClipped ht H x.toInt y.toInt (col + j, row, v) (by show sm (x.toInt + ((col + j : Nat) : Int)); unfold sm; omega) (by show sm (y.toInt + (row : Int)); unfold sm; omega)
    obtain ⟨h', e', H'⟩ := ih (j + 1) fu _ h1 (by omega) (by omega) H1
    refine ⟨h', ?_, H'⟩
    have e1' : fX3_putClipped (S t) (iL (x.toInt + col + j)) (iL (y.toInt + row)) (nI v) h = some h1 := by
      rw [show x.toInt + (col : Int) + (j : Int) = x.toInt + ((col + j : Nat) : Int) by omega]
      exact e1
    rw [hm_loop_s, fX2_paintDots_3, if_neg (nI_ge (by omega) (by omega)), H.src ht, hb_s, nI_L (show j < 2 ^ 31 by omega), iL_add, e1', hb_s, nI_1, show j + (r + 1) = j + 1 + r by omega]
    exact e'
theorem p_paint {s z lg t : Nat} {B : Nat → Nat} (hs : s < 5) (ht : t < n) (hz : z ≤ 5000) (hlg : lg < 256) (ez : (Z s).1 = nI z) (eB : ∀ j, j < z → Y s j = nI (B j) ∧ B j < 256) (x y : Int32) : ∀ r k row col due tm w fu (f : Nat → Int32) h, k + r = z → r < fu → row ≤ 64 → col + due * tm ≤ 64 → due ≤ 64 → tm ≤ 64 → CH b n S C P D K Z tk (va_up G t f) Y h → (rn lg z B r k row col due tm w).1 = 0 →
    ∃ h', hm_loop (fun _ _ _ _ _ _ _ _ _ _ => none) fX2_paint_15 fu (some (P s)) (some (S t)) x y (nI row) (nI col) (nI due) (nI tm) (nI k) h = some h' ∧ CH b n S C P D K Z tk (va_up G t ((rn lg z B r k row col due tm w).2.foldl (gput (D t).2.1 (K t).1 (K t).2.1 (K t).2.2.1 (K t).2.2.2 x.toInt y.toInt) f)) Y h' := by
  have rx := i_rng x
  have ry := i_rng y
  intro r
  induction r with
  | zero =>
    intro k row col due tm w fu f h hk hfu h1 h2 h3 h4 H e0
    obtain ⟨fu, rfl⟩ : ∃ q, fu = q + 1 := ⟨fu - 1, by omega⟩
    refine ⟨h, ?_, H⟩
    rw [hm_loop_s, fX2_paint_15, H.gsz hs, hb_s, ez, if_pos (nI_le (by omega) (by omega))]
  | succ r ih =>
    intro k row col due tm w fu f h hk hfu h1 h2 h3 h4 H e0
    obtain ⟨fu, rfl⟩ : ∃ q, fu = q + 1 := ⟨fu - 1, by omega⟩
    obtain ⟨eb, hb⟩ := eB k (by omega)
    have ld := ia_ai (H.pia hs) (j := k) (by omega) (by decide)
    rw [eb] at ld
    rw [hm_loop_s, fX2_paint_15, H.gsz hs, hb_s, ez, if_neg (nI_ge (by omega) (by omega)), H.gby hs, hb_s, ld, hb_s]
    rw [rn_s] at e0 ⊢
    by_cases q : 0 < due
    · rw [if_pos q] at e0
      rw [if_neg (nI_nle q (by omega)), if_pos q]
      by_cases q2 : lg < B k
      · rw [if_pos q2] at e0
        exact absurd e0 (by show ¬ k + 1 = 0; omega)
      · rw [if_neg q2] at e0
        rw [if_neg q2]
        obtain ⟨d, rfl⟩ : ∃ d, due = d + 1 := ⟨due - 1, by omega⟩
        have em : col + (d + 1) * tm = (col + tm) + d * tm := by rw [Nat.add_mul, Nat.one_mul]; omega
        rw [em] at h2
        obtain ⟨h5, e5, H5⟩ := p_paintDots ht x y row (B k) col h1 tm 0 hm_fu f h (by unfold hm_fu; omega) (by omega) H
        obtain ⟨h', e', H'⟩ := ih (k + 1) row (col + tm) d tm w fu _ h5 (by omega) (by omega) h1 h2 (by omega) h4 H5 e0
        refine ⟨h', ?_, ?_⟩
        · rw [i2L x, i2L y, nI_L (show col < 2 ^ 31 by omega), nI_L (show row < 2 ^ 31 by omega), iL_add, iL_add]
          unfold fX2_paintDots
          rw [Nat.zero_add] at e5
          rw [show (0 : Int32) = nI 0 from rfl, e5, hb_s, hlet_s, fX2_paint_128, idx_d, idx_s, nI_add, nI_1]
          exact e'
        · rw [List.foldl_append]
          exact H'
    · have : due = 0 := by omega
      subst this
      have e0' : nI (B k) = (0 : Int32) ↔ B k = 0 := nI_eq (b := 0) (by omega) (by decide)
      rw [if_neg q] at e0
      rw [if_pos (by decide), if_neg q]
      by_cases q2 : row = 64
      · rw [if_pos q2] at e0
        exact absurd e0 (by show ¬ k + 1 = 0; omega)
      · rw [if_neg q2] at e0
        rw [if_neg q2]
        by_cases q3 : B k = 0
        · rw [if_pos q3] at e0
          rw [if_pos (e0'.mpr q3), if_pos q3, fX2_paint_128, nI_1, nI_1]
          exact ih (k + 1) (row + 1) 0 0 tm 0 fu f h (by omega) (by omega) (by omega) (by omega) (by omega) h4 H e0
        · rw [if_neg q3] at e0
          rw [if_neg (fun z => q3 (e0'.mp z)), if_neg q3, show (64 : Int32) = nI 64 from rfl, show (128 : Int32) = nI 128 from rfl]
          by_cases q4 : B k % 64 = 0 ∨ 192 ≤ B k ∨ 64 < col + B k % 64
          · rw [if_pos q4] at e0
            exact absurd e0 (by show ¬ k + 1 = 0; omega)
          · rw [if_neg q4] at e0
            rw [if_neg q4]
            by_cases q6 : B k < 64
            · rw [if_pos q6] at e0
              rw [if_neg (nI_ge q6 (by omega)), if_pos q6, hlet_s, fX2_paint_128, nI_add, nI_1]
              rw [show B k % 64 = B k by omega] at e0 ⊢
              exact ih (k + 1) row (col + B k) 0 tm 1 fu f h (by omega) (by omega) h1 (by omega) (by omega) h4 H e0
            · rw [if_neg q6] at e0
              rw [if_pos (nI_le (by omega) (by omega)), if_neg q6, p_dotBytes hb, hb2_s, if_neg q6]
              by_cases q7 : B k < 128
              · rw [if_pos q7] at e0
                rw [if_neg (nI_ge q7 (by omega)), if_pos q7, if_pos q7, fX2_paint_126, fX2_paint_128, nI_1]
                exact ih (k + 1) row col (B k % 64) 1 1 fu f h (by omega) (by omega) h1 (by omega) (by omega) (by omega) H e0
              · rw [if_neg q7] at e0
                rw [if_pos (nI_le (by omega) (by omega)), if_neg q7, if_neg q7]
                unfold fX2_stretchLength
                rw [b_63 _ hb, hb2_s, fX2_paint_126, fX2_paint_128, nI_1]
                exact ih (k + 1) row col 1 (B k % 64) 1 fu f h (by omega) (by omega) h1 (by omega) (by omega) (by omega) H e0
end DRC
