/-! what the class takes and puts -/
theorem ia_cp {h : hm_H} {a c n0 n1 : Nat} {f g : Nat → Int32} (ha : ia h a n0 f) (hc : ia h c n1 g) {i j l : Nat} (hi : i + l ≤ n0) (hj : j + l ≤ n1) (h0 : n0 < 2 ^ 31) (h1 : n1 < 2 ^ 31) : hm_cp h (some a) (nI i) (some c) (nI j) (nI l) = some (va_up h.1 c (some (.inl (0, n1, .inl (va_cpy f g i j l)))), h.2) := by
  have ci : (nI i).toNatClampNeg = i := nI_clamp (by omega)
  have cj : (nI j).toNatClampNeg = j := nI_clamp (by omega)
  have cl : (nI l).toNatClampNeg = l := nI_clamp (by omega)
  simp only [hm_cp, show h.1 a = _ from ha, show h.1 c = _ from hc]
  rw [ci, cj, cl, if_pos ⟨⟨trivial, trivial⟩, ⟨nI_pos (by omega), nI_pos (by omega), nI_pos (by omega)⟩, hi, hj⟩]
section BLS
variable {b n : Nat} {S C P : Nat → Nat} {D : Nat → Nat × Nat × Nat} {K : Nat → Nat × Nat × Nat × Nat} {Z : Nat → Int32 × Int32} {tk : Nat → Int32} {G Y : Nat → Nat → Int32} {h : hm_H}
theorem CH.tkq (H : CH b n S C P D K Z tk G Y h) : hm_gq 5 4 h (some b) = some (some (b + 13)) := ob_gq H.1.1 rfl
theorem CH.tia (H : CH b n S C P D K Z tk G Y h) : ia h (b + 13) 4096 tk := H.2.1.2.2.1
theorem CH.tk1 (H : CH b n S C P D K Z tk G Y h) {j : Nat} (hj : j < 4096) (x : Int32) : ∃ h', hm_si 0 h (some (b + 13)) (nI j) x = some h' ∧ CH b n S C P D K Z (upd tk j x) G Y h' ∧ obs h h' := ⟨_, ia_si H.tia hj (by decide), (H.taken (upd tk j x)).1, (H.taken (upd tk j x)).2⟩
theorem CH.tkr (H : CH b n S C P D K Z tk G Y h) {j : Nat} (hj : j < 4096) : hm_ai 0 h (some (b + 13)) (nI j) = some (tk j) := ia_ai H.tia hj (by decide)
/-- Arrays.fill of the taken dots -/
theorem p_jfill (H : CH b n S C P D K Z tk G Y h) {z : Nat} (hz : z ≤ 4096) (v : Int32) : ∃ tk' h', fJ7_fill_fda19 (some (b + 13)) 0 (nI z) v h = some h' ∧ CH b n S C P D K Z tk' G Y h' ∧ obs h h' ∧ ∀ j, j < z → tk' j = v := by
  have key : ∀ r j fu tk h, j + r = z → r < fu → CH b n S C P D K Z tk G Y h → (∀ i, i < j → tk i = v) → ∃ tk' h', hm_loop (fun _ _ _ _ _ => none) fJ7_fill_fda19_10 fu (some (b + 13)) (nI z) v (nI j) h = some h' ∧ CH b n S C P D K Z tk' G Y h' ∧ obs h h' ∧ ∀ j, j < z → tk' j = v := by
    intro r
    induction r with
    | zero =>
      intro j fu tk h hj hfu H I
      obtain ⟨fu, rfl⟩ : ∃ q, fu = q + 1 := ⟨fu - 1, by omega⟩
      refine ⟨tk, h, ?_, H, obs.rf h, fun i hi => I i (by omega)⟩
      rw [hm_loop_s, fJ7_fill_fda19_10, if_pos (nI_le (by omega) (by omega))]
    | succ r ih =>
      intro j fu tk h hj hfu H I
      obtain ⟨fu, rfl⟩ : ∃ q, fu = q + 1 := ⟨fu - 1, by omega⟩
      obtain ⟨h1, e1, H1, o1⟩ := H.tk1 (j := j) (by omega) v
      obtain ⟨tk', h', e', H', o', I'⟩ := ih (j + 1) fu _ h1 (by omega) (by omega) H1 (fun i hi => by
        by_cases q : i = j
        · subst q; exact upd_s
        · rw [upd_n q]; exact I i (by omega))
      refine ⟨tk', h', ?_, H', o1.tr o', I'⟩
      rw [hm_loop_s, fJ7_fill_fda19_10, if_neg (nI_ge (by omega) (by omega)), e1, hb_s, nI_1]
      exact e'
  obtain ⟨tk', h', e', H', o', I'⟩ := key z 0 hm_fu tk h (by omega) (by unfold hm_fu; omega) H (fun i hi => absurd hi (by omega))
  refine ⟨tk', h', ?_, H', o', I'⟩
  unfold fJ7_fill_fda19 fJ7_rangeCheck_23922
  rw [ia_al H.tia, hb_s, show (0 : Int32) = nI 0 from rfl, if_pos (nI_le (by omega) (by omega)), if_pos (nI_le (by omega) (by omega)), if_pos (nI_le hz (by decide)), hb_s]
  exact e'
/-- one dot, put -/
def pv (dep : Nat) (op c old : Int32) : Int32 := if c = -1 then old else opD dep op c old
/-- how far the putting is -/
def pdI (W V dep : Nat) (op : Int32) (tk o f : Nat → Int32) (l t w g row col : Nat) : Prop := ∀ x y, x < W → y < V → f (y * W + x) = if (l ≤ x ∧ x < l + w ∧ t ≤ y ∧ y < t + g) ∧ (y < t + row ∨ (y = t + row ∧ x < l + col)) then pv dep op (tk ((y - t) * w + (x - l))) (o (y * W + x)) else o (y * W + x)
theorem pd_step {W V dep : Nat} {op : Int32} {tk o f : Nat → Int32} {l t w g row col : Nat} (I : pdI W V dep op tk o f l t w g row col) (hl : l + w ≤ W) (ht : t + g ≤ V) (hr : row < g) (hc : col < w) {v : Int32} (hv : v = pv dep op (tk (row * w + col)) (o ((t + row) * W + (l + col)))) : pdI W V dep op tk o (upd f ((t + row) * W + (l + col)) v) l t w g row (col + 1) := by
  intro x y hx hy
  by_cases q : x = l + col ∧ y = t + row
  · obtain ⟨rfl, rfl⟩ := q
    rw [upd_s, if_pos (by omega), hv, show t + row - t = row by omega, show l + col - l = col by omega]
  · rw [upd_n (fun e => q (ix_inj hx (by omega) e)), I x y hx hy]
    by_cases q2 : (l ≤ x ∧ x < l + w ∧ t ≤ y ∧ y < t + g) ∧ (y < t + row ∨ (y = t + row ∧ x < l + col))
    · rw [if_pos q2, if_pos (by omega)]
    · rw [if_neg q2, if_neg (by omega)]
theorem pd_skip {W V dep : Nat} {op : Int32} {tk o f : Nat → Int32} {l t w g row col : Nat} (I : pdI W V dep op tk o f l t w g row col) (hc : tk (row * w + col) = -1) : pdI W V dep op tk o f l t w g row (col + 1) := by
  intro x y hx hy
  rw [I x y hx hy]
  by_cases q : x = l + col ∧ y = t + row
  · obtain ⟨rfl, rfl⟩ := q
    rw [if_neg (by omega)]
    by_cases q3 : (l ≤ l + col ∧ l + col < l + w ∧ t ≤ t + row ∧ t + row < t + g) ∧ (t + row < t + row ∨ (t + row = t + row ∧ l + col < l + (col + 1)))
    · rw [if_pos q3, show t + row - t = row by omega, show l + col - l = col by omega]
      unfold pv
      rw [if_pos hc]
    · rw [if_neg q3]
  · by_cases q2 : (l ≤ x ∧ x < l + w ∧ t ≤ y ∧ y < t + g) ∧ (y < t + row ∨ (y = t + row ∧ x < l + col))
    · rw [if_pos q2, if_pos (by omega)]
    · rw [if_neg q2, if_neg (by omega)]
theorem pd_next {W V dep : Nat} {op : Int32} {tk o f : Nat → Int32} {l t w g row : Nat} (I : pdI W V dep op tk o f l t w g row w) : pdI W V dep op tk o f l t w g (row + 1) 0 := by
  intro x y hx hy
  rw [I x y hx hy]
  by_cases q2 : (l ≤ x ∧ x < l + w ∧ t ≤ y ∧ y < t + g) ∧ (y < t + row ∨ (y = t + row ∧ x < l + w))
  · rw [if_pos q2, if_pos (by omega)]
  · rw [if_neg q2, if_neg (by omega)]
theorem p_putDots {k : Nat} (hk : k < n) (H : CH b n S C P D K Z tk G Y h) (op : Int32) {ta l t w g : Nat} (A : ar h ta l t w g) (hl : l + w ≤ (D k).2.1) (ht : t + g ≤ (D k).2.2) : ∃ f h', fX5_putDots b (some (S k)) (some ta) op h = some h' ∧ CH b n S C P D K Z tk (va_up G k f) Y h' ∧ obs h h' ∧ ∀ x y, x < (D k).2.1 → y < (D k).2.2 → f (y * (D k).2.1 + x) = if l ≤ x ∧ x < l + w ∧ t ≤ y ∧ y < t + g then pv (D k).1 op (tk ((y - t) * w + (x - l))) (G k (y * (D k).2.1 + x)) else G k (y * (D k).2.1 + x) := by
  have hd := H.dk.2 k hk
  have hwg : w * g ≤ 4096 := wg_le (by omega) (by omega)
  have inner : ∀ (K3 : Option Nat → Option Nat → Option Nat → Int32 → Int32 → hm_H → Option hm_H) (row : Nat), row < g → ∀ r col fu f h, col + r = w → r < fu → CH b n S C P D K Z tk (va_up G k f) Y h → ar h ta l t w g → pdI (D k).2.1 (D k).2.2 (D k).1 op tk (G k) f l t w g row col → ∃ f' h', hm_loop (fun _ _ _ _ _ _ _ _ => none) (fX5_putDots_33 K3) fu (some b) (some (S k)) (some ta) op (nI row) (nI ((t + row) * (D k).2.1 + l)) (nI col) h = K3 (some b) (some (S k)) (some ta) op (nI (row + 1)) h' ∧ CH b n S C P D K Z tk (va_up G k f') Y h' ∧ obs h h' ∧ pdI (D k).2.1 (D k).2.2 (D k).1 op tk (G k) f' l t w g (row + 1) 0 := by
    intro K3 row hrow r
    induction r with
    | zero =>
      intro col fu f h hcol hfu H A I
      obtain ⟨fu, rfl⟩ : ∃ q, fu = q + 1 := ⟨fu - 1, by omega⟩
      refine ⟨f, h, ?_, H, obs.rf h, pd_next (by rw [show col = w by omega] at I; exact I)⟩
      rw [hm_loop_s, fX5_putDots_33, ar_w A, hb_s, if_pos (nI_le (by omega) (by omega)), nI_1]
    | succ r ih =>
      intro col fu f h hcol hfu H A I
      obtain ⟨fu, rfl⟩ : ∃ q, fu = q + 1 := ⟨fu - 1, by omega⟩
      have hix : row * w + col < w * g := idx_lt (by omega) hrow
      have e1 : nI row * nI w + nI col = nI (row * w + col) := by rw [pk_mul, nI_add]
      have e2 : nI ((t + row) * (D k).2.1 + l) + nI col = nI ((t + row) * (D k).2.1 + (l + col)) := by rw [nI_add]; congr 1; omega
      have hj : (t + row) * (D k).2.1 + (l + col) < (D k).2.1 * (D k).2.2 := idx_lt (by omega) (by omega)
      by_cases q : tk (row * w + col) = -1
      · obtain ⟨f', h', e', H', o', I'⟩ := ih (col + 1) fu f h (by omega) (by omega) H A (pd_skip I q)
        refine ⟨f', h', ?_, H', o', I'⟩
        rw [hm_loop_s, fX5_putDots_33, ar_w A, hb_s, if_neg (nI_ge (by omega) (by omega)), H.tkq, hb_s, hb_s, e1, H.tkr (by omega), hb_s, if_pos q, fX5_putDots_100, nI_1]
        exact e'
      · have old : f ((t + row) * (D k).2.1 + (l + col)) = G k ((t + row) * (D k).2.1 + (l + col)) := by
          rw [I (l + col) (t + row) (by omega) (by omega), if_neg (by omega)]
        obtain ⟨h1, p1, H1, o1⟩ := H.dot1 hk hj (opD (D k).1 op (tk (row * w + col)) (f ((t + row) * (D k).2.1 + (l + col))))
        obtain ⟨f', h', e', H', o', I'⟩ := ih (col + 1) fu _ h1 (by omega) (by omega) H1 (o1.ar A) (pd_step I hl ht hrow (by omega) (by unfold pv; rw [if_neg q, old]))
        refine ⟨f', h', ?_, H', o1.tr o', I'⟩
        rw [hm_loop_s, fX5_putDots_33, ar_w A, hb_s, if_neg (nI_ge (by omega) (by omega)), H.tkq, hb_s, hb_s, e1, H.tkr (by omega), hb_s, if_neg q, H.sdq hk, hb_s, e2, H.rd1 hk hj, hb_s, hb_s, p_combined, hb2_s, H.slg hk, hb_s]
        show hm_b (hm_si 0 h (some (S k + 2)) (nI ((t + row) * (D k).2.1 + (l + col))) (opD (D k).1 op (tk (row * w + col)) (f ((t + row) * (D k).2.1 + (l + col))))) _ = _
        rw [p1, hb_s, fX5_putDots_100, nI_1]
        exact e'
  have outer : ∀ r row fu f h, row + r = g → r < fu → CH b n S C P D K Z tk (va_up G k f) Y h → ar h ta l t w g → pdI (D k).2.1 (D k).2.2 (D k).1 op tk (G k) f l t w g row 0 → ∃ f' h', hm_loop (fun _ _ _ _ _ _ => none) fX5_putDots_3 fu (some b) (some (S k)) (some ta) op (nI row) h = some h' ∧ CH b n S C P D K Z tk (va_up G k f') Y h' ∧ obs h h' ∧ pdI (D k).2.1 (D k).2.2 (D k).1 op tk (G k) f' l t w g g 0 := by
    intro r
    induction r with
    | zero =>
      intro row fu f h hrow hfu H A I
      obtain ⟨fu, rfl⟩ : ∃ q, fu = q + 1 := ⟨fu - 1, by omega⟩
      refine ⟨f, h, ?_, H, obs.rf h, by rw [show row = g by omega] at I; exact I⟩
      rw [hm_loop_s, fX5_putDots_3, ar_g A, hb_s, if_pos (nI_le (by omega) (by omega))]
    | succ r ih =>
      intro row fu f h hrow hfu H A I
      obtain ⟨fu, rfl⟩ : ∃ q, fu = q + 1 := ⟨fu - 1, by omega⟩
      obtain ⟨f1, h1, e1, H1, o1, I1⟩ := inner (hm_loop (fun _ _ _ _ _ _ => none) fX5_putDots_3 fu) row (by omega) w 0 hm_fu f h (by omega) (by unfold hm_fu; omega) H A I
      obtain ⟨f', h', e', H', o', I'⟩ := ih (row + 1) fu f1 h1 (by omega) (by omega) H1 (o1.ar A) I1
      refine ⟨f', h', ?_, H', o1.tr o', I'⟩
      rw [hm_loop_s, fX5_putDots_3, ar_g A, hb_s, if_neg (nI_ge (by omega) (by omega)), ar_l A, hb_s, ar_t A, hb_s, H.src hk, hb_s, nI_L (show row < 2 ^ 31 by omega), iL_add, p_indexOf H hk, hb2_s,
        show ((((t : Nat) : Int) + ((row : Nat) : Int)) * ((D k).2.1 : Int) + (l : Int)) = (((t + row) * (D k).2.1 + l : Nat) : Int) by push_cast; rfl, iI_nat, show (0 : Int32) = nI 0 from rfl, e1]
      exact e'
  obtain ⟨f', h', e', H', o', I'⟩ := outer g 0 hm_fu (G k) h (by omega) (by unfold hm_fu; omega) (by rw [vup_id]; exact H) A (fun x y _ _ => by rw [if_neg (by omega)])
  refine ⟨f', h', e', H', o', fun x y hx hy => ?_⟩
  rw [I' x y hx hy]
  by_cases q : l ≤ x ∧ x < l + w ∧ t ≤ y ∧ y < t + g
  · rw [if_pos ⟨q, by omega⟩, if_pos q]
  · rw [if_neg (fun z => q z.1), if_neg q]
/-- taking the dots of a rectangle of surface k -/
theorem p_takeDots {k : Nat} (hk : k < n) (H : CH b n S C P D K Z tk G Y h) {mv sa : Nat} {fs : List Value} (hm : ob h mv 1 fs) (h0 : fs[0]? = some (.ref (S k))) (h2 : fs[2]? = some (.ref sa)) {sl st : Int} {w g : Nat} (A : ar h sa sl st w g) (hg : g ≤ 64) (hr : 0 < g → ∃ l t : Nat, sl = l ∧ st = t ∧ l + w ≤ (D k).2.1 ∧ t + g ≤ (D k).2.2) : ∃ tk' h', fX5_takeDots b (some mv) h = some h' ∧ CH b n S C P D K Z tk' G Y h' ∧ obs h h' ∧ ∀ row col, row < g → col < w → tk' (row * w + col) = G k ((st.toNat + row) * (D k).2.1 + (sl.toNat + col)) := by
  have hd := H.dk.2 k hk
  have hwg2 := wg_le hd.2.2.1 hd.2.2.2.2.1
  have key : ∀ r row fu tk h, row + r = g → r < fu → CH b n S C P D K Z tk G Y h → ob h mv 1 fs → ar h sa sl st w g → (∀ row' col, row' < row → col < w → tk (row' * w + col) = G k ((st.toNat + row') * (D k).2.1 + (sl.toNat + col))) → ∃ tk' h', hm_loop (fun _ _ _ _ _ => none) fX5_takeDots_7 fu (some b) (some mv) (some sa) (nI row) h = some h' ∧ CH b n S C P D K Z tk' G Y h' ∧ obs h h' ∧ ∀ row col, row < g → col < w → tk' (row * w + col) = G k ((st.toNat + row) * (D k).2.1 + (sl.toNat + col)) := by
    intro r
    induction r with
    | zero =>
      intro row fu tk h hrow hfu H hm A I
      obtain ⟨fu, rfl⟩ : ∃ q, fu = q + 1 := ⟨fu - 1, by omega⟩
      refine ⟨tk, h, ?_, H, obs.rf h, fun row' col a1 a2 => I row' col (by omega) a2⟩
      rw [hm_loop_s, fX5_takeDots_7, ar_g A, hb_s, if_pos (nI_le (by omega) (by omega))]
    | succ r ih =>
      intro row fu tk h hrow hfu H hm A I
      obtain ⟨fu, rfl⟩ : ∃ q, fu = q + 1 := ⟨fu - 1, by omega⟩
      obtain ⟨l, t, el, et, hl, ht⟩ := hr (by omega)
      subst el
      subst et
      have hwg : w * g ≤ 4096 := wg_le (by omega) (by omega)
      have b1 : (t + row) * (D k).2.1 + l + w ≤ (D k).2.1 * (D k).2.2 := by
        calc (t + row) * (D k).2.1 + l + w ≤ (t + row) * (D k).2.1 + (D k).2.1 := by omega
          _ = (t + row + 1) * (D k).2.1 := by rw [Nat.add_mul (t + row) 1, Nat.one_mul]
          _ ≤ (D k).2.2 * (D k).2.1 := Nat.mul_le_mul_right _ (by omega)
          _ = _ := Nat.mul_comm _ _
      have b2 : row * w + w ≤ w * g := by
        calc row * w + w = (row + 1) * w := by rw [Nat.add_mul, Nat.one_mul]
          _ ≤ g * w := Nat.mul_le_mul_right _ (by omega)
          _ = _ := Nat.mul_comm _ _
      have cp := ia_cp (H.dia hk) H.tia (i := (t + row) * (D k).2.1 + l) (j := row * w) (l := w) b1 (by omega) (by omega) (by decide)
      have T := H.taken (va_cpy (G k) tk ((t + row) * (D k).2.1 + l) (row * w) w)
      obtain ⟨tk', h', e', H', o', I'⟩ := ih (row + 1) fu _ _ (by omega) (by omega) T.1 (T.2.ob hm) (T.2.ar A) (fun row' col a1 a2 => by
        by_cases q : row' = row
        · subst q
          rw [pk_cpy_in (by omega) (by omega)]
          congr 1
          show (t + row') * (D k).2.1 + l + (row' * w + col - row' * w) = (t + row') * (D k).2.1 + (l + col)
          omega
        · have : row' * w + w ≤ row * w := by
            calc row' * w + w = (row' + 1) * w := by rw [Nat.add_mul, Nat.one_mul]
              _ ≤ row * w := Nat.mul_le_mul_right _ (by omega)
          rw [pk_cpy_out (Or.inl (by omega))]
          exact I row' col (by omega) a2)
      refine ⟨tk', h', ?_, H', T.2.tr o', I'⟩
      rw [hm_loop_s, fX5_takeDots_7, ar_g A, hb_s, if_neg (nI_ge (by omega) (by omega)), ob_gq hm h0, hb_s, ar_l A, hb_s, ar_t A, hb_s, H.src hk, hb_s, nI_L (show row < 2 ^ 31 by omega), iL_add, p_indexOf H hk, hb2_s,
        show ((((t : Nat) : Int) + ((row : Nat) : Int)) * ((D k).2.1 : Int) + (l : Int)) = (((t + row) * (D k).2.1 + l : Nat) : Int) by push_cast; rfl, iI_nat, ob_gq hm h0, hb_s, H.sdq hk, hb_s, H.tkq, hb_s, ar_w A, hb_s, hb_s, pk_mul, cp, hb_s, nI_1]
      exact e'
  obtain ⟨tk', h', e', H', o', I'⟩ := key g 0 hm_fu tk h (by omega) (by unfold hm_fu; omega) H hm A (fun _ _ a1 _ => absurd a1 (by omega))
  refine ⟨tk', h', ?_, H', o', I'⟩
  unfold fX5_takeDots
  rw [ob_gq hm h2, hb_s]
  exact e'
end BLS
