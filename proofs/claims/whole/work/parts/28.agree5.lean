/-! turn -/
theorem vup2 {G : Nat → Nat → Int32} {k : Nat} {f f' : Nat → Int32} : va_up (va_up G k f) k f' = va_up G k f' := by
  funext i
  unfold va_up
  by_cases e : i = k <;> simp [e]
theorem vup_id {G : Nat → Nat → Int32} {k : Nat} : va_up G k (G k) = G := by
  funext i
  unfold va_up
  by_cases e : i = k <;> simp [e]
section TNS
variable {b n : Nat} {S C P : Nat → Nat} {D : Nat → Nat × Nat × Nat} {K : Nat → Nat × Nat × Nat × Nat} {Z : Nat → Int32 × Int32} {tk : Nat → Int32} {G Y : Nat → Nat → Int32} {h : hm_H}
theorem CH.dot1 {k : Nat} {f : Nat → Int32} (H : CH b n S C P D K Z tk (va_up G k f) Y h) (hk : k < n) {j : Nat} (hj : j < (D k).2.1 * (D k).2.2) (x : Int32) : ∃ h', hm_si 0 h (some (S k + 2)) (nI j) x = some h' ∧ CH b n S C P D K Z tk (va_up G k (upd f j x)) Y h' ∧ obs h h' := by
  have hd := H.dk.2 k hk
  have hwg := wg_le hd.2.2.1 hd.2.2.2.2.1
  have hi := H.dia hk
  rw [va_up_self] at hi
  have := H.dots hk (upd f j x)
  rw [vup2] at this
  exact ⟨_, ia_si hi hj (by omega), this.1, this.2⟩
theorem CH.rd1 {k : Nat} {f : Nat → Int32} (H : CH b n S C P D K Z tk (va_up G k f) Y h) (hk : k < n) {j : Nat} (hj : j < (D k).2.1 * (D k).2.2) : hm_ai 0 h (some (S k + 2)) (nI j) = some (f j) := by
  have hd := H.dk.2 k hk
  have hwg := wg_le hd.2.2.1 hd.2.2.2.2.1
  have hi := H.dia hk
  rw [va_up_self] at hi
  exact ia_ai hi hj (by omega)
theorem p_index {k : Nat} (H : CH b n S C P D K Z tk G Y h) (hk : k < n) {x y : Nat} (hx : x < 2 ^ 31) (hy : y < 2 ^ 31) : fX3_indexOf (S k) (nI x).toInt64 (nI y).toInt64 h = some (nI (y * (D k).2.1 + x), h) := by
  rw [nI_L hx, nI_L hy, p_indexOf H hk, show ((y : Int) * ((D k).2.1 : Int) + (x : Int)) = ((y * (D k).2.1 + x : Nat) : Int) by push_cast; rfl, iI_nat]
theorem p_swap {k : Nat} {f : Nat → Int32} (H : CH b n S C P D K Z tk (va_up G k f) Y h) (hk : k < n) {i j : Nat} (hi : i < (D k).2.1 * (D k).2.2) (hj : j < (D k).2.1 * (D k).2.2) : ∃ h', fX3_swapDots (S k) (nI i) (nI j) h = some h' ∧ CH b n S C P D K Z tk (va_up G k (upd (upd f i (f j)) j (f i))) Y h' := by
  obtain ⟨h1, e1, H1, -⟩ := H.dot1 hk hi (f j)
  obtain ⟨h2, e2, H2, -⟩ := H1.dot1 hk hj (f i)
  refine ⟨h2, ?_, H2⟩
  unfold fX3_swapDots
  rw [H.sdq hk, hb_s, H.rd1 hk hi, hb_s, hb_s, hb_s, H.rd1 hk hj, hb_s, e1, hb_s, H1.sdq hk, hb_s, e2, hb_s]
/-- left and right: how far it is -/
def lrI (w g : Nat) (o f : Nat → Int32) (y x : Nat) : Prop := ∀ x' y', x' < w → y' < g → f (y' * w + x') = if y' < y ∨ (y' = y ∧ (x' < x ∨ w - 1 - x' < x)) then o (y' * w + (w - 1 - x')) else o (y' * w + x')
theorem lr_step {w g : Nat} {o f : Nat → Int32} {y x : Nat} (I : lrI w g o f y x) (hy : y < g) (hx : x < w / 2) : lrI w g o (upd (upd f (y * w + x) (f (y * w + (w - 1 - x)))) (y * w + (w - 1 - x)) (f (y * w + x))) y (x + 1) := by
  intro x' y' hx' hy'
  have e1 := I x y (by omega) hy
  have e2 := I (w - 1 - x) y (by omega) hy
  rw [if_neg (by omega)] at e1 e2
  by_cases q1 : x' = w - 1 - x ∧ y' = y
  · obtain ⟨rfl, rfl⟩ := q1
    rw [upd_s, e1, if_pos (by omega), show w - 1 - (w - 1 - x) = x by omega]
  · rw [upd_n (fun e => q1 (ix_inj hx' (by omega) e))]
    by_cases q2 : x' = x ∧ y' = y
    · obtain ⟨rfl, rfl⟩ := q2
      rw [upd_s, e2, if_pos (by omega)]
    · rw [upd_n (fun e => q2 (ix_inj hx' (by omega) e)), I x' y' hx' hy']
      by_cases q3 : y' < y ∨ (y' = y ∧ (x' < x ∨ w - 1 - x' < x))
      · rw [if_pos q3, if_pos (by omega)]
      · rw [if_neg q3, if_neg (by omega)]
theorem lr_next {w g : Nat} {o f : Nat → Int32} {y x : Nat} (I : lrI w g o f y x) (hx : w / 2 ≤ x) : lrI w g o f (y + 1) 0 := by
  intro x' y' hx' hy'
  rw [I x' y' hx' hy']
  by_cases q : y' < y
  · rw [if_pos (by omega), if_pos (by omega)]
  · by_cases q2 : y' = y
    · rw [if_pos (c := y' < y + 1 ∨ _) (by omega)]
      by_cases q3 : x' < x ∨ w - 1 - x' < x
      · rw [if_pos (by omega)]
      · rw [if_neg (by omega), show w - 1 - x' = x' by omega]
    · rw [if_neg (by omega), if_neg (by omega)]
theorem p_lr {k : Nat} (hk : k < n) (H : CH b n S C P D K Z tk G Y h) : ∃ f h', fX3_swapLeftAndRight (S k) h = some h' ∧ CH b n S C P D K Z tk (va_up G k f) Y h' ∧ ∀ x y, x < (D k).2.1 → y < (D k).2.2 → f (y * (D k).2.1 + x) = G k (y * (D k).2.1 + ((D k).2.1 - 1 - x)) := by
  have hd := H.dk.2 k hk
  have hwg := wg_le hd.2.2.1 hd.2.2.2.2.1
  have two : (nI (D k).2.1) / (2 : Int32) = nI ((D k).2.1 / 2) := pk_div (d := 2) (by omega) (by decide) (by decide)
  have inner : ∀ (K2 : Option Nat → Int32 → hm_H → Option hm_H) (y : Nat), y < (D k).2.2 → ∀ r x fu f h, x + r = (D k).2.1 / 2 → r < fu → CH b n S C P D K Z tk (va_up G k f) Y h → lrI (D k).2.1 (D k).2.2 (G k) f y x → ∃ f' h', hm_loop (fun _ _ _ _ => none) (fX3_swapLeftAndRight_15 K2) fu (some (S k)) (nI y) (nI x) h = K2 (some (S k)) (nI (y + 1)) h' ∧ CH b n S C P D K Z tk (va_up G k f') Y h' ∧ lrI (D k).2.1 (D k).2.2 (G k) f' (y + 1) 0 := by
    intro K2 y hy r
    induction r with
    | zero =>
      intro x fu f h hx hfu H I
      obtain ⟨fu, rfl⟩ : ∃ q, fu = q + 1 := ⟨fu - 1, by omega⟩
      refine ⟨f, h, ?_, H, lr_next I (by omega)⟩
      rw [hm_loop_s, fX3_swapLeftAndRight_15, H.swq hk, hb_s, ar_w (H.war hk), hb_s, two, if_pos (nI_le (by omega) (by omega)), nI_1]
    | succ r ih =>
      intro x fu f h hx hfu H I
      obtain ⟨fu, rfl⟩ : ∃ q, fu = q + 1 := ⟨fu - 1, by omega⟩
      obtain ⟨h1, e1, H1⟩ := p_swap H hk (i := y * (D k).2.1 + x) (j := y * (D k).2.1 + ((D k).2.1 - 1 - x)) (idx_lt (by omega) hy) (idx_lt (by omega) hy)
      obtain ⟨f', h', e', H', I'⟩ := ih (x + 1) fu _ h1 (by omega) (by omega) H1 (lr_step I hy (by omega))
      refine ⟨f', h', ?_, H', I'⟩
      have sb : nI (D k).2.1 - (1 : Int32) - nI x = nI ((D k).2.1 - 1 - x) := by
        rw [show (1 : Int32) = nI 1 from rfl, pk_sub (by omega), pk_sub (by omega)]
      rw [hm_loop_s, fX3_swapLeftAndRight_15, H.swq hk, hb_s, ar_w (H.war hk), hb_s, two, if_neg (nI_ge (by omega) (by omega)), H.src hk, hb_s, p_index H hk (by omega) (by omega), hb2_s, H.swq hk, hb_s, ar_w (H.war hk), hb_s, H.src hk, hb_s, sb, p_index H hk (by omega) (by omega), hb2_s, H.src hk, hb_s, e1, hb_s, nI_1]
      exact e'
  have outer : ∀ r y fu f h, y + r = (D k).2.2 → r < fu → CH b n S C P D K Z tk (va_up G k f) Y h → lrI (D k).2.1 (D k).2.2 (G k) f y 0 → ∃ f' h', hm_loop (fun _ _ _ => none) fX3_swapLeftAndRight_2 fu (some (S k)) (nI y) h = some h' ∧ CH b n S C P D K Z tk (va_up G k f') Y h' ∧ lrI (D k).2.1 (D k).2.2 (G k) f' (D k).2.2 0 := by
    intro r
    induction r with
    | zero =>
      intro y fu f h hy hfu H I
      obtain ⟨fu, rfl⟩ : ∃ q, fu = q + 1 := ⟨fu - 1, by omega⟩
      refine ⟨f, h, ?_, H, by rw [show (D k).2.2 = y by omega]; rw [show (D k).2.2 = y by omega] at I; exact I⟩
      rw [hm_loop_s, fX3_swapLeftAndRight_2, H.swq hk, hb_s, ar_g (H.war hk), hb_s, if_pos (nI_le (by omega) (by omega))]
    | succ r ih =>
      intro y fu f h hy hfu H I
      obtain ⟨fu, rfl⟩ : ∃ q, fu = q + 1 := ⟨fu - 1, by omega⟩
      obtain ⟨f1, h1, e1, H1, I1⟩ := inner (hm_loop (fun _ _ _ => none) fX3_swapLeftAndRight_2 fu) y (by omega) ((D k).2.1 / 2) 0 hm_fu f h (by omega) (by unfold hm_fu; omega) H I
      obtain ⟨f', h', e', H', I'⟩ := ih (y + 1) fu f1 h1 (by omega) (by omega) H1 I1
      refine ⟨f', h', ?_, H', I'⟩
      rw [hm_loop_s, fX3_swapLeftAndRight_2, H.swq hk, hb_s, ar_g (H.war hk), hb_s, if_neg (nI_ge (by omega) (by omega)), show (0 : Int32) = nI 0 from rfl, e1]
      exact e'
  obtain ⟨f', h', e', H', I'⟩ := outer (D k).2.2 0 hm_fu (G k) h (by omega) (by unfold hm_fu; omega) (by rw [vup_id]; exact H) (fun x' y' _ _ => by rw [if_neg (by omega)])
  refine ⟨f', h', e', H', fun x y hx hy => ?_⟩
  rw [I' x y hx hy, if_pos (by omega)]
/-- top and bottom: how far it is -/
def tbI (w g : Nat) (o f : Nat → Int32) (y x : Nat) : Prop := ∀ x' y', x' < w → y' < g → f (y' * w + x') = if (y' < y ∨ g - 1 - y' < y) ∨ ((y' = y ∨ g - 1 - y' = y) ∧ x' < x) then o ((g - 1 - y') * w + x') else o (y' * w + x')
theorem tb_step {w g : Nat} {o f : Nat → Int32} {y x : Nat} (I : tbI w g o f y x) (hy : y < g / 2) (hx : x < w) : tbI w g o (upd (upd f (y * w + x) (f ((g - 1 - y) * w + x))) ((g - 1 - y) * w + x) (f (y * w + x))) y (x + 1) := by
  intro x' y' hx' hy'
  have e1 := I x y hx (by omega)
  have e2 := I x (g - 1 - y) hx (by omega)
  rw [if_neg (by omega)] at e1 e2
  by_cases q1 : x' = x ∧ y' = g - 1 - y
  · obtain ⟨rfl, rfl⟩ := q1
    rw [upd_s, e1, if_pos (by omega), show g - 1 - (g - 1 - y) = y by omega]
  · rw [upd_n (fun e => q1 (ix_inj hx' hx e))]
    by_cases q2 : x' = x ∧ y' = y
    · obtain ⟨rfl, rfl⟩ := q2
      rw [upd_s, e2, if_pos (by omega)]
    · rw [upd_n (fun e => q2 (ix_inj hx' hx e)), I x' y' hx' hy']
      by_cases q3 : (y' < y ∨ g - 1 - y' < y) ∨ ((y' = y ∨ g - 1 - y' = y) ∧ x' < x)
      · rw [if_pos q3, if_pos (by omega)]
      · rw [if_neg q3, if_neg (by omega)]
theorem tb_next {w g : Nat} {o f : Nat → Int32} {y : Nat} (I : tbI w g o f y w) : tbI w g o f (y + 1) 0 := by
  intro x' y' hx' hy'
  rw [I x' y' hx' hy']
  by_cases q : (y' < y ∨ g - 1 - y' < y) ∨ (y' = y ∨ g - 1 - y' = y)
  · rw [if_pos (by omega), if_pos (by omega)]
  · rw [if_neg (by omega), if_neg (by omega)]
theorem p_tb {k : Nat} (hk : k < n) (H : CH b n S C P D K Z tk G Y h) : ∃ f h', fX3_swapTopAndBottom (S k) h = some h' ∧ CH b n S C P D K Z tk (va_up G k f) Y h' ∧ ∀ x y, x < (D k).2.1 → y < (D k).2.2 → f (y * (D k).2.1 + x) = G k (((D k).2.2 - 1 - y) * (D k).2.1 + x) := by
  have hd := H.dk.2 k hk
  have hwg := wg_le hd.2.2.1 hd.2.2.2.2.1
  have two : (nI (D k).2.2) / (2 : Int32) = nI ((D k).2.2 / 2) := pk_div (d := 2) (by omega) (by decide) (by decide)
  have inner : ∀ (K2 : Option Nat → Int32 → hm_H → Option hm_H) (y : Nat), y < (D k).2.2 / 2 → ∀ r x fu f h, x + r = (D k).2.1 → r < fu → CH b n S C P D K Z tk (va_up G k f) Y h → tbI (D k).2.1 (D k).2.2 (G k) f y x → ∃ f' h', hm_loop (fun _ _ _ _ => none) (fX3_swapTopAndBottom_17 K2) fu (some (S k)) (nI y) (nI x) h = K2 (some (S k)) (nI (y + 1)) h' ∧ CH b n S C P D K Z tk (va_up G k f') Y h' ∧ tbI (D k).2.1 (D k).2.2 (G k) f' (y + 1) 0 := by
    intro K2 y hy r
    induction r with
    | zero =>
      intro x fu f h hx hfu H I
      obtain ⟨fu, rfl⟩ : ∃ q, fu = q + 1 := ⟨fu - 1, by omega⟩
      refine ⟨f, h, ?_, H, tb_next (by rw [show (D k).2.1 = x by omega]; rw [show (D k).2.1 = x by omega] at I; exact I)⟩
      rw [hm_loop_s, fX3_swapTopAndBottom_17, H.swq hk, hb_s, ar_w (H.war hk), hb_s, if_pos (nI_le (by omega) (by omega)), nI_1]
    | succ r ih =>
      intro x fu f h hx hfu H I
      obtain ⟨fu, rfl⟩ : ∃ q, fu = q + 1 := ⟨fu - 1, by omega⟩
      obtain ⟨h1, e1, H1⟩ := p_swap H hk (i := y * (D k).2.1 + x) (j := ((D k).2.2 - 1 - y) * (D k).2.1 + x) (idx_lt (by omega) (by omega)) (idx_lt (by omega) (by omega))
      obtain ⟨f', h', e', H', I'⟩ := ih (x + 1) fu _ h1 (by omega) (by omega) H1 (tb_step I hy (by omega))
      refine ⟨f', h', ?_, H', I'⟩
      have sb : nI (D k).2.2 - (1 : Int32) - nI y = nI ((D k).2.2 - 1 - y) := by
        rw [show (1 : Int32) = nI 1 from rfl, pk_sub (by omega), pk_sub (by omega)]
      rw [hm_loop_s, fX3_swapTopAndBottom_17, H.swq hk, hb_s, ar_w (H.war hk), hb_s, if_neg (nI_ge (by omega) (by omega)), H.src hk, hb_s, p_index H hk (by omega) (by omega), hb2_s, H.swq hk, hb_s, ar_g (H.war hk), hb_s, H.src hk, hb_s, sb, p_index H hk (by omega) (by omega), hb2_s, H.src hk, hb_s, e1, hb_s, nI_1]
      exact e'
  have outer : ∀ r y fu f h, y + r = (D k).2.2 / 2 → r < fu → CH b n S C P D K Z tk (va_up G k f) Y h → tbI (D k).2.1 (D k).2.2 (G k) f y 0 → ∃ f' h', hm_loop (fun _ _ _ => none) fX3_swapTopAndBottom_2 fu (some (S k)) (nI y) h = some h' ∧ CH b n S C P D K Z tk (va_up G k f') Y h' ∧ tbI (D k).2.1 (D k).2.2 (G k) f' ((D k).2.2 / 2) 0 := by
    intro r
    induction r with
    | zero =>
      intro y fu f h hy hfu H I
      obtain ⟨fu, rfl⟩ : ∃ q, fu = q + 1 := ⟨fu - 1, by omega⟩
      refine ⟨f, h, ?_, H, by rw [← show y = (D k).2.2 / 2 by omega]; exact I⟩
      rw [hm_loop_s, fX3_swapTopAndBottom_2, H.swq hk, hb_s, ar_g (H.war hk), hb_s, two, if_pos (nI_le (by omega) (by omega))]
    | succ r ih =>
      intro y fu f h hy hfu H I
      obtain ⟨fu, rfl⟩ : ∃ q, fu = q + 1 := ⟨fu - 1, by omega⟩
      obtain ⟨f1, h1, e1, H1, I1⟩ := inner (hm_loop (fun _ _ _ => none) fX3_swapTopAndBottom_2 fu) y (by omega) (D k).2.1 0 hm_fu f h (by omega) (by unfold hm_fu; omega) H I
      obtain ⟨f', h', e', H', I'⟩ := ih (y + 1) fu f1 h1 (by omega) (by omega) H1 I1
      refine ⟨f', h', ?_, H', I'⟩
      rw [hm_loop_s, fX3_swapTopAndBottom_2, H.swq hk, hb_s, ar_g (H.war hk), hb_s, two, if_neg (nI_ge (by omega) (by omega)), show (0 : Int32) = nI 0 from rfl, e1]
      exact e'
  obtain ⟨f', h', e', H', I'⟩ := outer ((D k).2.2 / 2) 0 hm_fu (G k) h (by omega) (by unfold hm_fu; omega) (by rw [vup_id]; exact H) (fun x' y' _ _ => by rw [if_neg (by omega)])
  refine ⟨f', h', e', H', fun x y hx hy => ?_⟩
  rw [I' x y hx hy]
  by_cases q : y < (D k).2.2 / 2 ∨ (D k).2.2 - 1 - y < (D k).2.2 / 2
  · rw [if_pos (by omega)]
  · rw [if_neg (by omega), show (D k).2.2 - 1 - y = y by omega]
end TNS
