/-! tell: the bytes, and the class's telling -/
theorem nI_sub {a c : Nat} (h : c ≤ a) : nI a - nI c = nI (a - c) := by
  rw [← iI_nat a, ← iI_nat c, iI_sub, ← iI_nat]
  congr 1
  omega
/-- dots one by one -/
def dl (dt : Nat → Int32) : Nat → Nat → List Int32
  | 0, _ => []
  | r + 1, s => dt s :: dl dt r (s + 1)
def nd (kd len : Nat) : Nat := if kd = 64 then len else if kd = 128 then 1 else 0
/-- a stretch's bytes -/
def str (dt : Nat → Int32) (kd e : Nat) : Nat → Nat → List Int32
  | 0, _ => []
  | f + 1, a => if e ≤ a then [] else nI (kd + min 63 (e - a)) :: (dl dt (nd kd (min 63 (e - a))) a ++ str dt kd e f (a + 63))
def thr (dt : Nat → Int32) (W : Nat) (z : Int) : Bool := decide (0 ≤ z ∧ z + 2 < W ∧ dt z.toNat = dt (z.toNat + 1) ∧ dt z.toNat = dt (z.toNat + 2))
def kdf (dt : Nat → Int32) (W : Nat) (key : Int32) (c : Nat) : Nat := if dt c = key then 0 else if thr dt W ((c : Int) - 2) = true ∨ thr dt W ((c : Int) - 1) = true ∨ thr dt W c = true then 128 else 64
theorem kdf_v (dt : Nat → Int32) (W : Nat) (key : Int32) (c : Nat) : kdf dt W key c = 0 ∨ kdf dt W key c = 64 ∨ kdf dt W key c = 128 := by
  unfold kdf
  split
  · exact Or.inl rfl
  · split
    · exact Or.inr (Or.inr rfl)
    · exact Or.inr (Or.inl rfl)
def te (dt : Nat → Int32) (key : Int32) : Nat → Nat
  | 0 => 0
  | j + 1 => if dt j = key then te dt key j else j + 1
theorem te_s (dt : Nat → Int32) (key : Int32) (j : Nat) : te dt key (j + 1) = if dt j = key then te dt key j else j + 1 := rfl
theorem te_le (dt : Nat → Int32) (key : Int32) (j : Nat) : te dt key j ≤ j := by
  induction j with
  | zero => exact Nat.le_refl _
  | succ j ih =>
    unfold te
    split
    · omega
    · exact Nat.le_refl _
def bkt (dt : Nat → Int32) (W : Nat) (key : Int32) (s c : Nat) : Bool := decide (kdf dt W key c ≠ kdf dt W key s ∨ (kdf dt W key c = 128 ∧ dt c ≠ dt (c - 1)))
/-- a row's bytes from a stretch's beginning on -/
def cr (dt : Nat → Int32) (W : Nat) (key : Int32) : Nat → Nat → Nat → List Int32
  | 0, s, c => str dt (kdf dt W key s) c 2 s
  | r + 1, s, c => if bkt dt W key s c = true then str dt (kdf dt W key s) c 2 s ++ cr dt W key r c (c + 1) else cr dt W key r s (c + 1)
def crow (dt : Nat → Int32) (W : Nat) (key : Int32) (e s : Nat) : List Int32 := if s < e then cr dt W key (e - (s + 1)) s (s + 1) else []
section TLC
variable {b n : Nat} {S C P : Nat → Nat} {D : Nat → Nat × Nat × Nat} {K : Nat → Nat × Nat × Nat × Nat} {Z : Nat → Int32 × Int32} {tk : Nat → Int32} {G Y : Nat → Nat → Int32} {h : hm_H}
theorem CH.pby2 (H : CH b n S C P D K Z tk G Y h) {k : Nat} (hk : k < 5) {j : Nat} (hj : j < 5000) (x : Int32) : ∃ h', hm_si 0 h (some (P k + 1)) (nI j) x = some h' ∧ CH b n S C P D K Z tk G (va_up Y k (upd (Y k) j x)) h' ∧ obs h h' := by
  obtain ⟨h', e, H'⟩ := H.pby hk hj x
  have e2 := ia_si (x := x) (H.pia hk) hj (by decide)
  rw [e] at e2
  injection e2 with e3
  refine ⟨h', e, H', ?_⟩
  rw [e3]
  exact obs.arr (H.pia hk)
theorem CH.psz2 (H : CH b n S C P D K Z tk G Y h) {k : Nat} (hk : k < 5) (x : Int32) : ∃ h', hm_p 2 1 (.int x) h (some (P k)) = some h' ∧ CH b n S C P D K (va_up Z k (x, (Z k).2)) tk G Y h' ∧ ∀ q, q ≠ P k → h'.1 q = h.1 q := by
  obtain ⟨h1, p1, e1, k1, g1⟩ := st_p (H.pob hk) (k := 1) (Nat.le_of_ble_eq_true rfl) (.int x)
  exact ⟨h1, p1, H.spr hk (x, (Z k).2) e1 k1 g1, k1⟩
theorem CH.psp2 (H : CH b n S C P D K Z tk G Y h) {k : Nat} (hk : k < 5) (x : Int32) : ∃ h', hm_p 2 2 (.int x) h (some (P k)) = some h' ∧ CH b n S C P D K (va_up Z k ((Z k).1, x)) tk G Y h' ∧ ∀ q, q ≠ P k → h'.1 q = h.1 q := by
  obtain ⟨h1, p1, e1, k1, g1⟩ := st_p (H.pob hk) (k := 2) (Nat.le_of_ble_eq_true rfl) (.int x)
  exact ⟨h1, p1, H.spr hk ((Z k).1, x) e1 k1 g1, k1⟩
end TLC
/-- the class has told the bytes L -/
def CT (b n : Nat) (S C P : Nat → Nat) (D : Nat → Nat × Nat × Nat) (K : Nat → Nat × Nat × Nat × Nat) (Z0 : Nat → Int32 × Int32) (tk : Nat → Int32) (G Y0 : Nat → Nat → Int32) (tl k : Nat) (key : Int32) (L : List Int32) (h : hm_H) : Prop :=
  ∃ Z Y, CH b n S C P D K Z tk G Y h ∧ ob h tl 4 [.ref (S k), .int key, .ref (P 4)] ∧ (Z 4).1 = nI (min L.length 5000) ∧ (Z 4).2 = (if 5000 < L.length then 1 else 0) ∧ (∀ j v, L[j]? = some v → j < 5000 → Y 4 j = v) ∧ ∀ j, j < 4 → Z j = Z0 j ∧ Y j = Y0 j
section TLD
variable {b n : Nat} {S C P : Nat → Nat} {D : Nat → Nat × Nat × Nat} {K : Nat → Nat × Nat × Nat × Nat} {Z0 : Nat → Int32 × Int32} {tk : Nat → Int32} {G Y0 : Nat → Nat → Int32} {tl k : Nat} {key : Int32}
theorem p_app {L : List Int32} {h : hm_H} (T : CT b n S C P D K Z0 tk G Y0 tl k key L h) (v : Int32) : ∃ h', fX2_append (P 4) v h = some h' ∧ CT b n S C P D K Z0 tk G Y0 tl k key (L ++ [v]) h' := by
  obtain ⟨Z, Y, H, O, z1, z2, yb, oth⟩ := T
  have hl : (L ++ [v]).length = L.length + 1 := by simp
  have ne2 : tl ≠ P 4 := ob_ne O (H.pob (k := 4) (by decide)) (by decide)
  by_cases q : L.length < 5000
  · obtain ⟨h1, e1, H1, o1⟩ := H.pby2 (k := 4) (by decide) q v
    obtain ⟨h2, e2, H2, k2⟩ := H1.psz2 (k := 4) (by decide) (nI (L.length + 1))
    rw [show min L.length 5000 = L.length by omega] at z1
    refine ⟨h2, ?_, _, _, H2, (k2 tl ne2).trans (o1.ob O), ?_, ?_, fun j w e hj => ?_, fun j hj => ?_⟩
    · unfold fX2_append
      rw [H.gsz (by decide), hb_s, z1, if_pos (by rw [show (5000 : Int32) = nI 5000 from rfl]; exact nI_lt q (by decide)), H.gby (by decide), hb_s, hb_s, e1, hb_s, H1.gsz (by decide), hb_s, z1, nI_1, e2, hb_s]
    · rw [va_up_self, hl]
      show nI _ = _
      congr 1
      omega
    · rw [va_up_self, hl, if_neg (by omega)]
      show (Z 4).2 = 0
      rw [z2, if_neg (by omega)]
    · rw [va_up_self]
      by_cases e3 : j = L.length
      · subst e3
        rw [upd_s]
        simp at e
        exact e
      · rw [upd_n e3]
        by_cases e4 : j < L.length
        · rw [List.getElem?_append_left e4] at e
          exact yb j w e hj
        · have : (L ++ [v])[j]? = none := by
            rw [List.getElem?_eq_none]
            omega
          rw [this] at e
          cases e
    · rw [va_up_ne _ _ (show j ≠ 4 by omega), va_up_ne _ _ (show j ≠ 4 by omega)]
      exact oth j hj
  · obtain ⟨h2, e2, H2, k2⟩ := H.psp2 (k := 4) (by decide) 1
    rw [show min L.length 5000 = 5000 by omega] at z1
    refine ⟨h2, ?_, _, _, H2, (k2 tl ne2).trans O, ?_, ?_, fun j w e hj => ?_, fun j hj => ?_⟩
    · unfold fX2_append
      rw [H.gsz (by decide), hb_s, z1, if_neg (by decide), e2, hb_s]
    · rw [va_up_self, hl]
      show (Z 4).1 = _
      rw [z1]
      congr 1
      omega
    · rw [va_up_self, hl, if_pos (by omega)]
    · rw [List.getElem?_append_left (by omega)] at e
      exact yb j w e hj
    · rw [va_up_ne _ _ (show j ≠ 4 by omega)]
      exact oth j hj
variable {dt : Nat → Int32} {f0 : Nat}
theorem CT.o {L : List Int32} {h : hm_H} (T : CT b n S C P D K Z0 tk G Y0 tl k key L h) : ob h tl 4 [.ref (S k), .int key, .ref (P 4)] := by
  obtain ⟨Z, Y, H, O, -⟩ := T
  exact O
theorem CT.rs {L : List Int32} {h : hm_H} (T : CT b n S C P D K Z0 tk G Y0 tl k key L h) : hm_rc 2 h (some (P 4)) = some (P 4) := by
  obtain ⟨Z, Y, H, O, -⟩ := T
  exact H.prc (by decide)
theorem CT.sd {L : List Int32} {h : hm_H} (T : CT b n S C P D K Z0 tk G Y0 tl k key L h) (hk : k < n) : hm_gq 3 3 h (some (S k)) = some (some (S k + 2)) := by
  obtain ⟨Z, Y, H, O, -⟩ := T
  exact H.sdq hk
theorem CT.sw {L : List Int32} {h : hm_H} (T : CT b n S C P D K Z0 tk G Y0 tl k key L h) (hk : k < n) : hm_gq 3 2 h (some (S k)) = some (some (S k + 1)) := by
  obtain ⟨Z, Y, H, O, -⟩ := T
  exact H.swq hk
theorem CT.wa {L : List Int32} {h : hm_H} (T : CT b n S C P D K Z0 tk G Y0 tl k key L h) (hk : k < n) : ar h (S k + 1) 0 0 (D k).2.1 (D k).2.2 := by
  obtain ⟨Z, Y, H, O, -⟩ := T
  exact H.war hk
theorem CT.dk {L : List Int32} {h : hm_H} (T : CT b n S C P D K Z0 tk G Y0 tl k key L h) : DK n D K := by
  obtain ⟨Z, Y, H, O, -⟩ := T
  exact H.dk
theorem CT.rd {L : List Int32} {h : hm_H} (T : CT b n S C P D K Z0 tk G Y0 tl k key L h) (hk : k < n) (hf : f0 + (D k).2.1 ≤ (D k).2.1 * (D k).2.2) (hdt : ∀ c, c < (D k).2.1 → G k (f0 + c) = dt c) {c : Nat} (hc : c < (D k).2.1) : hm_ai 0 h (some (S k + 2)) (nI (f0 + c)) = some (dt c) := by
  obtain ⟨Z, Y, H, O, -⟩ := T
  have hd := H.dk.2 k hk
  have := wg_le hd.2.2.1 hd.2.2.2.2.1
  rw [ia_ai (H.dia hk) (by omega) (by omega), hdt c hc]
theorem p_dots (hk : k < n) (hf : f0 + (D k).2.1 ≤ (D k).2.1 * (D k).2.2) (hdt : ∀ c, c < (D k).2.1 → G k (f0 + c) = dt c) (K3 : Option Nat → Int32 → Int32 → Int32 → hm_H → Option hm_H) (x1 x3 : Int32) (a : Nat) : ∀ r j fu L h, r < fu → a + j + r ≤ (D k).2.1 → CT b n S C P D K Z0 tk G Y0 tl k key L h → ∃ h', hm_loop (fun _ _ _ _ _ _ _ => none) (fX4_addStretch_52 K3) fu (some tl) x1 x3 (nI (f0 + a)) (nI (j + r)) (nI j) h = K3 (some tl) x1 x3 (nI (f0 + a + 63)) h' ∧ CT b n S C P D K Z0 tk G Y0 tl k key (L ++ dl dt r (a + j)) h' := by
  intro r
  induction r with
  | zero =>
    intro j fu L h hfu hj T
    obtain ⟨fu, rfl⟩ : ∃ q, fu = q + 1 := ⟨fu - 1, by omega⟩
    have hd := T.dk.2 k hk
    refine ⟨h, ?_, by show CT b n S C P D K Z0 tk G Y0 tl k key (L ++ []) h; rw [List.append_nil]; exact T⟩
    rw [hm_loop_s, fX4_addStretch_52, if_pos (nI_le (a := j + 0) (b := j) (Nat.le_refl j) (by omega)), show (63 : Int32) = nI 63 from rfl, nI_add]
  | succ r ih =>
    intro j fu L h hfu hj T
    obtain ⟨fu, rfl⟩ : ∃ q, fu = q + 1 := ⟨fu - 1, by omega⟩
    have hd := T.dk.2 k hk
    obtain ⟨h1, e1, T1⟩ := p_app T (dt (a + j))
    obtain ⟨h', e', T'⟩ := ih (j + 1) fu _ h1 (by omega) (by omega) T1
    refine ⟨h', ?_, ?_⟩
    · rw [hm_loop_s, fX4_addStretch_52, if_neg (nI_ge (by omega) (by omega)), ob_gq T.o (v := P 4) rfl, hb_s, ob_gq T.o (v := S k) rfl, hb_s, T.sd hk, hb_s, nI_add, show f0 + a + j = f0 + (a + j) by omega, T.rd hk hf hdt (by omega), hb_s, T.rs, hb_s, e1, hb_s, nI_1, show j + (r + 1) = j + 1 + r by omega]
      exact e'
    · rw [List.append_assoc] at T'
      exact T'
theorem p_str (hk : k < n) (hf : f0 + (D k).2.1 ≤ (D k).2.1 * (D k).2.2) (hdt : ∀ c, c < (D k).2.1 → G k (f0 + c) = dt c) {kd e : Nat} (hkd : kd = 0 ∨ kd = 64 ∨ kd = 128) (he : e ≤ (D k).2.1) : ∀ f a fu L h, f < fu → e ≤ a + 63 * f → a + 63 * f ≤ 400 → CT b n S C P D K Z0 tk G Y0 tl k key L h → ∃ h', hm_loop (fun _ _ _ _ _ => none) fX4_addStretch_3 fu (some tl) (nI kd) (nI (f0 + e)) (nI (f0 + a)) h = some h' ∧ CT b n S C P D K Z0 tk G Y0 tl k key (L ++ str dt kd e f a) h' := by
  intro f
  induction f with
  | zero =>
    intro a fu L h hfu ha hb T
    obtain ⟨fu, rfl⟩ : ∃ q, fu = q + 1 := ⟨fu - 1, by omega⟩
    have hd := T.dk.2 k hk
    have := wg_le hd.2.2.1 hd.2.2.2.2.1
    refine ⟨h, ?_, by show CT b n S C P D K Z0 tk G Y0 tl k key (L ++ []) h; rw [List.append_nil]; exact T⟩
    rw [hm_loop_s, fX4_addStretch_3, if_pos (nI_le (by omega) (by omega))]
  | succ f ih =>
    intro a fu L h hfu ha hb T
    obtain ⟨fu, rfl⟩ : ∃ q, fu = q + 1 := ⟨fu - 1, by omega⟩
    have hd := T.dk.2 k hk
    have := wg_le hd.2.2.1 hd.2.2.2.2.1
    by_cases q : e ≤ a
    · refine ⟨h, ?_, ?_⟩
      · rw [hm_loop_s, fX4_addStretch_3, if_pos (nI_le (by omega) (by omega))]
      · unfold str
        rw [if_pos q, List.append_nil]
        exact T
    · have ml : (if nI (e - a) < (63 : Int32) then nI (e - a) else (63 : Int32)) = nI (min 63 (e - a)) := by
        rw [show (63 : Int32) = nI 63 from rfl]
        by_cases z : e - a < 63
        · rw [if_pos (nI_lt (b := 63) z (by omega))]
          congr 1; omega
        · rw [if_neg (nI_nlt (a := e - a) (b := 63) (by omega) (by omega)), show min 63 (e - a) = 63 by omega]
      obtain ⟨h1, e1, T1⟩ := p_app T (nI (kd + min 63 (e - a)))
      obtain ⟨h2, e2, T2⟩ := p_dots hk hf hdt (hm_loop (fun _ _ _ _ _ => none) fX4_addStretch_3 fu) (nI kd) (nI (f0 + e)) a (nd kd (min 63 (e - a))) 0 hm_fu _ h1 (by unfold nd hm_fu; split; omega; split <;> omega) (by unfold nd; split; omega; split <;> omega) T1
      obtain ⟨h3, e3, T3⟩ := ih (a + 63) fu _ h2 (by omega) (by omega) (by omega) T2
      refine ⟨h3, ?_, ?_⟩
      · rw [hm_loop_s, fX4_addStretch_3, if_neg (nI_ge (by omega) (by omega)), nI_sub (by omega), show f0 + e - (f0 + a) = e - a by omega, hlet_s, ml, ob_gq T.o (v := P 4) rfl, hb_s, T.rs, hb_s, nI_add, e1, hb_s]
        rw [Nat.zero_add] at e2
        rw [show f0 + a + 63 = f0 + (a + 63) by omega, e3] at e2
        rcases hkd with rfl | rfl | rfl
        · rw [if_neg (by decide), fX4_addStretch_47]
          exact e2
        · rw [if_pos (by rfl), fX4_addStretch_47]
          exact e2
        · rw [if_neg (by decide), fX4_addStretch_47]
          exact e2
      · unfold str
        rw [if_neg q]
        rw [List.append_assoc, List.append_assoc] at T3
        exact T3
theorem p_addStretch (hk : k < n) (hf : f0 + (D k).2.1 ≤ (D k).2.1 * (D k).2.2) (hdt : ∀ c, c < (D k).2.1 → G k (f0 + c) = dt c) {kd e a : Nat} (hkd : kd = 0 ∨ kd = 64 ∨ kd = 128) (he : e ≤ (D k).2.1) (ha : a ≤ e) {L : List Int32} {h : hm_H} (T : CT b n S C P D K Z0 tk G Y0 tl k key L h) : ∃ h', fX4_addStretch tl (nI kd) (nI (f0 + a)) (nI (f0 + e)) h = some h' ∧ CT b n S C P D K Z0 tk G Y0 tl k key (L ++ str dt kd e 2 a) h' := by
  have hd := T.dk.2 k hk
  exact p_str hk hf hdt hkd he 2 a hm_fu L h (by decide) (by omega) (by omega) T
theorem p_isThree (hk : k < n) (hf : f0 + (D k).2.1 ≤ (D k).2.1 * (D k).2.2) (hdt : ∀ c, c < (D k).2.1 → G k (f0 + c) = dt c) {L : List Int32} {h : hm_H} (T : CT b n S C P D K Z0 tk G Y0 tl k key L h) {z : Int} (h1 : -2 ≤ z) (h2 : z < 64) : fX4_isThree tl (nI f0) (iI (f0 + z)) h = some (if thr dt (D k).2.1 z = true then 1 else 0, h) := by
  have hd := T.dk.2 k hk
  have := wg_le hd.2.2.1 hd.2.2.2.2.1
  have t0 : (nI f0).toInt = f0 := nI_toInt (by omega)
  have t1 : (iI (f0 + z)).toInt = f0 + z := iI_toInt (by omega) (by omega)
  unfold fX4_isThree
  by_cases q : z < 0
  · rw [if_pos (by rw [i_lt, t0, t1]; omega), if_neg (by unfold thr; simp; omega)]
  · obtain ⟨c, rfl⟩ := Int.eq_ofNat_of_zero_le (show 0 ≤ z by omega)
    have ec : iI ((f0 : Int) + (c : Int)) = nI (f0 + c) := by rw [← iI_nat]; congr 1
    rw [if_neg (by rw [i_lt, t0, t1]; omega), ob_gq T.o (v := S k) rfl, hb_s, T.sw hk, hb_s, ar_w (T.wa hk), hb_s, ec, nI_add, show (2 : Int32) = nI 2 from rfl, nI_add]
    by_cases q2 : c + 2 < (D k).2.1
    · have r0 := T.rd hk hf hdt (c := c) (by omega)
      have r1 : hm_ai 0 h (some (S k + 2)) (nI (f0 + c) + 1) = some (dt (c + 1)) := by rw [nI_1]; exact T.rd hk hf hdt (c := c + 1) (by omega)
      have r2 : hm_ai 0 h (some (S k + 2)) (nI (f0 + c + 2)) = some (dt (c + 2)) := T.rd hk hf hdt (c := c + 2) (by omega)
      rw [if_pos (nI_lt (by omega) (by omega))]
      simp only [hb_s, T.sd hk, r0, r1, r2]
      by_cases q3 : dt c = dt (c + 1)
      · rw [if_pos q3]
        by_cases q4 : dt c = dt (c + 2)
        · rw [if_pos q4, if_pos (by unfold thr; simp; exact ⟨by omega, q3, q4⟩)]
        · rw [if_neg q4, if_neg (by unfold thr; simp; exact fun _ _ => q4)]
      · rw [if_neg q3, if_neg (by unfold thr; simp; exact fun _ z => absurd z q3)]
    · rw [if_neg (nI_nlt (by omega) (by omega)), if_neg (by unfold thr; simp; omega)]
theorem p_kindAt (hk : k < n) (hf : f0 + (D k).2.1 ≤ (D k).2.1 * (D k).2.2) (hdt : ∀ c, c < (D k).2.1 → G k (f0 + c) = dt c) {L : List Int32} {h : hm_H} (T : CT b n S C P D K Z0 tk G Y0 tl k key L h) {c : Nat} (hc : c < (D k).2.1) : fX4_kindAt tl (nI f0) (nI (f0 + c)) h = some (nI (kdf dt (D k).2.1 key c), h) := by
  have hd := T.dk.2 k hk
  have t2 := p_isThree hk hf hdt T (z := (c : Int) - 2) (by omega) (by omega)
  have t1 := p_isThree hk hf hdt T (z := (c : Int) - 1) (by omega) (by omega)
  have t0 := p_isThree hk hf hdt T (z := (c : Int)) (by omega) (by omega)
  have e2 : nI (f0 + c) - 2 = iI ((f0 : Int) + ((c : Int) - 2)) := by
    rw [← iI_nat, show (2 : Int32) = iI 2 from rfl, iI_sub]; congr 1; omega
  have e1 : nI (f0 + c) - 1 = iI ((f0 : Int) + ((c : Int) - 1)) := by
    rw [← iI_nat, show (1 : Int32) = iI 1 from rfl, iI_sub]; congr 1; omega
  have e0 : nI (f0 + c) = iI ((f0 : Int) + (c : Int)) := by
    rw [← iI_nat]; congr 1
  unfold fX4_kindAt
  rw [ob_gq T.o (v := S k) rfl, hb_s, T.sd hk, hb_s, T.rd hk hf hdt hc, hb_s, ob_gi T.o (v := key) rfl, hb_s]
  unfold kdf
  by_cases q : dt c = key
  · rw [if_pos q, if_pos q]
    rfl
  · rw [if_neg q, if_neg q, ob_rc T.o, hb_s, e2]
    by_cases q2 : thr dt (D k).2.1 ((c : Int) - 2) = true
    · rw [bif_t t2 q2, hb2_s, if_neg (by decide), if_pos (Or.inl q2)]
      rfl
    · rw [bif_f t2 q2, hb2_s, if_pos rfl, ob_rc T.o, hb_s, e1]
      by_cases q1 : thr dt (D k).2.1 ((c : Int) - 1) = true
      · rw [bif_t t1 q1, hb2_s, if_neg (by decide), if_pos (Or.inr (Or.inl q1))]
        rfl
      · rw [bif_f t1 q1, hb2_s, if_pos rfl, ob_rc T.o, hb_s, e0]
        by_cases q0 : thr dt (D k).2.1 (c : Int) = true
        · rw [bif_t t0 q0, hb2_s, if_neg (by decide), if_pos (Or.inr (Or.inr q0))]
          rfl
        · rw [bif_f t0 q0, hb2_s, if_pos rfl, if_neg (by intro z; rcases z with z | z | z; exact q2 z; exact q1 z; exact q0 z)]
          rfl
theorem p_toldEnd (hk : k < n) (hf : f0 + (D k).2.1 ≤ (D k).2.1 * (D k).2.2) (hdt : ∀ c, c < (D k).2.1 → G k (f0 + c) = dt c) {L : List Int32} {h : hm_H} (T : CT b n S C P D K Z0 tk G Y0 tl k key L h) : fX4_toldEnd tl (nI f0) h = some (nI (f0 + te dt key (D k).2.1), h) := by
  have hd := T.dk.2 k hk
  have := wg_le hd.2.2.1 hd.2.2.2.2.1
  have lp : ∀ r c fu, c + r = (D k).2.1 → r < fu → hm_loop (fun _ _ _ _ _ => none) fX4_toldEnd_4 fu (some tl) (nI f0) (nI (f0 + te dt key c)) (nI (f0 + c)) h = some (nI (f0 + te dt key (D k).2.1), h) := by
    intro r
    induction r with
    | zero =>
      intro c fu hc hfu
      obtain ⟨fu, rfl⟩ : ∃ q, fu = q + 1 := ⟨fu - 1, by omega⟩
      rw [hm_loop_s, fX4_toldEnd_4, ob_gq T.o (v := S k) rfl, hb_s, T.sw hk, hb_s, ar_w (T.wa hk), hb_s, nI_add, if_pos (nI_le (by omega) (by omega)), show c = (D k).2.1 by omega]
    | succ r ih =>
      intro c fu hc hfu
      obtain ⟨fu, rfl⟩ : ∃ q, fu = q + 1 := ⟨fu - 1, by omega⟩
      have := ih (c + 1) fu (by omega) (by omega)
      rw [hm_loop_s, fX4_toldEnd_4, ob_gq T.o (v := S k) rfl, hb_s, T.sw hk, hb_s, ar_w (T.wa hk), hb_s, nI_add, if_neg (nI_ge (by omega) (by omega)), hb_s, T.sd hk, hb_s, T.rd hk hf hdt (by omega), hb_s, ob_gi T.o (v := key) rfl, hb_s]
      rw [te_s] at this
      by_cases q : dt c = key
      · rw [if_pos q] at this
        rw [if_pos q, fX4_toldEnd_40, nI_1]
        exact this
      · rw [if_neg q] at this
        rw [if_neg q, hlet_s, fX4_toldEnd_40, nI_1]
        exact this
  exact lp (D k).2.1 0 hm_fu (by omega) (by unfold hm_fu; omega)
theorem p_addRow (hk : k < n) (hf : f0 + (D k).2.1 ≤ (D k).2.1 * (D k).2.2) (hdt : ∀ c, c < (D k).2.1 → G k (f0 + c) = dt c) {L : List Int32} {h : hm_H} (T : CT b n S C P D K Z0 tk G Y0 tl k key L h) : ∃ h', fX4_addRow tl (nI f0) h = some h' ∧ CT b n S C P D K Z0 tk G Y0 tl k key (L ++ crow dt (D k).2.1 key (te dt key (D k).2.1) 0) h' := by
  have hd := T.dk.2 k hk
  have := wg_le hd.2.2.1 hd.2.2.2.2.1
  have hte := te_le dt key (D k).2.1
  generalize he : te dt key (D k).2.1 = e at *
  have vn : ∀ c, ¬ (-1 : Int32) = nI (kdf dt (D k).2.1 key c) := fun c z => nI_nm1 (by rcases kdf_v dt (D k).2.1 key c with z | z | z <;> omega) z.symm
  have ve : ∀ c d, nI (kdf dt (D k).2.1 key c) = nI (kdf dt (D k).2.1 key d) ↔ kdf dt (D k).2.1 key c = kdf dt (D k).2.1 key d := fun c d => nI_eq (by rcases kdf_v dt (D k).2.1 key c with z | z | z <;> omega) (by rcases kdf_v dt (D k).2.1 key d with z | z | z <;> omega)
  have v8 : ∀ c, nI (kdf dt (D k).2.1 key c) = (128 : Int32) ↔ kdf dt (D k).2.1 key c = 128 := fun c => nI_eq (b := 128) (by rcases kdf_v dt (D k).2.1 key c with z | z | z <;> omega) (by decide)
  have lp : ∀ r s c fu L h, c + r = e → s < c → r + 1 < fu → CT b n S C P D K Z0 tk G Y0 tl k key L h → ∃ h', hm_loop (fun _ _ _ _ _ _ _ => none) fX4_addRow_21 fu (some tl) (nI f0) (nI (f0 + e)) (nI (f0 + s)) (nI (kdf dt (D k).2.1 key s)) (nI (f0 + c)) h = some h' ∧ CT b n S C P D K Z0 tk G Y0 tl k key (L ++ cr dt (D k).2.1 key r s c) h' := by
    intro r
    induction r with
    | zero =>
      intro s c fu L h hc hs hfu T
      obtain ⟨fu, rfl⟩ : ∃ q, fu = q + 1 + 1 := ⟨fu - 2, by omega⟩
      obtain ⟨h1, e1, T1⟩ := p_addStretch hk hf hdt (kdf_v dt (D k).2.1 key s) (e := c) (a := s) (by omega) (by omega) T
      refine ⟨h1, ?_, T1⟩
      rw [hm_loop_s, fX4_addRow_21, if_neg (nI_nlt (by omega) (by omega)), if_pos (nI_le (by omega) (by omega)), fX4_addRow_44, if_neg (vn s), fX4_addRow_86, ob_rc T.o, hb_s, e1, hb_s, fX4_addRow_102, hm_loop_s, fX4_addRow_21, nI_1, if_pos (nI_lt (by omega) (by omega))]
    | succ r ih =>
      intro s c fu L h hc hs hfu T
      obtain ⟨fu, rfl⟩ : ∃ q, fu = q + 1 := ⟨fu - 1, by omega⟩
      have k1 := p_kindAt hk hf hdt T (c := c) (by omega)
      rw [hm_loop_s, fX4_addRow_21, if_neg (nI_nlt (by omega) (by omega)), if_neg (nI_ge (by omega) (by omega)), ob_rc T.o, hb_s, k1, hb2_s, fX4_addRow_44]
      have brk : bkt dt (D k).2.1 key s c = true → ∃ h', fX4_addRow_86 (hm_loop (fun _ _ _ _ _ _ _ => none) fX4_addRow_21 fu) (some tl) (nI f0) (nI (f0 + e)) (nI (f0 + s)) (nI (kdf dt (D k).2.1 key s)) (nI (f0 + c)) (nI (kdf dt (D k).2.1 key c)) h = some h' ∧ CT b n S C P D K Z0 tk G Y0 tl k key (L ++ cr dt (D k).2.1 key (r + 1) s c) h' := by
        intro hb
        obtain ⟨h1, e1, T1⟩ := p_addStretch hk hf hdt (kdf_v dt (D k).2.1 key s) (e := c) (a := s) (by omega) (by omega) T
        obtain ⟨h', e', T'⟩ := ih c (c + 1) fu _ h1 (by omega) (by omega) (by omega) T1
        refine ⟨h', ?_, ?_⟩
        · rw [fX4_addRow_86, ob_rc T.o, hb_s, e1, hb_s, fX4_addRow_102, nI_1]
          exact e'
        · unfold cr
          rw [if_pos hb, ← List.append_assoc]
          exact T'
      have nob : ¬ bkt dt (D k).2.1 key s c = true → ∃ h', fX4_addRow_102 (hm_loop (fun _ _ _ _ _ _ _ => none) fX4_addRow_21 fu) (some tl) (nI f0) (nI (f0 + e)) (nI (f0 + s)) (nI (kdf dt (D k).2.1 key s)) (nI (f0 + c)) h = some h' ∧ CT b n S C P D K Z0 tk G Y0 tl k key (L ++ cr dt (D k).2.1 key (r + 1) s c) h' := by
        intro hb
        obtain ⟨h', e', T'⟩ := ih s (c + 1) fu _ h (by omega) (by omega) (by omega) T
        refine ⟨h', ?_, ?_⟩
        · rw [fX4_addRow_102, nI_1]
          exact e'
        · unfold cr
          rw [if_neg hb]
          exact T'
      by_cases q : kdf dt (D k).2.1 key c = kdf dt (D k).2.1 key s
      · rw [if_pos ((ve c s).mpr q)]
        by_cases q2 : kdf dt (D k).2.1 key c = 128
        · have r0 := T.rd hk hf hdt (c := c) (by omega)
          have r1 := T.rd hk hf hdt (c := c - 1) (by omega)
          rw [if_pos ((v8 c).mpr q2), ob_gq T.o (v := S k) rfl, hb_s, T.sd hk, hb_s, r0, hb_s, hb_s, T.sd hk, hb_s, show f0 + c = f0 + (c - 1) + 1 by omega, nI_pred, r1, hb_s, show f0 + (c - 1) + 1 = f0 + c by omega]
          by_cases q3 : dt c = dt (c - 1)
          · rw [if_pos q3]
            exact nob (by unfold bkt; simp; exact ⟨q, fun _ => q3⟩)
          · rw [if_neg q3]
            exact brk (by unfold bkt; simp; exact Or.inr ⟨q2, q3⟩)
        · rw [if_neg (fun z => q2 ((v8 c).mp z))]
          exact nob (by unfold bkt; simp; exact ⟨q, fun z => absurd z q2⟩)
      · rw [if_neg (fun z => q ((ve c s).mp z))]
        exact brk (by unfold bkt; simp; exact Or.inl q)
  have k0 := p_kindAt hk hf hdt T (c := 0) (by omega)
  rw [Nat.add_zero] at k0
  unfold crow
  by_cases q : 0 < e
  · obtain ⟨h', e', T'⟩ := lp (e - (0 + 1)) 0 (0 + 1) hm_fu L h (by omega) (by omega) (by unfold hm_fu; omega) T
    rw [if_pos q]
    refine ⟨h', ?_, T'⟩
    rw [fX4_addRow, ob_rc T.o, hb_s, p_toldEnd hk hf hdt T, hb2_s, he, ob_rc T.o, hb_s, k0, hb2_s, hlet_s, nI_1]
    exact e'
  · rw [if_neg q, List.append_nil]
    refine ⟨h, ?_, T⟩
    rw [fX4_addRow, ob_rc T.o, hb_s, p_toldEnd hk hf hdt T, hb2_s, he, ob_rc T.o, hb_s, k0, hb2_s, hlet_s, nI_1]
    rw [show hm_fu = 19999 + 1 from rfl, hm_loop_s, fX4_addRow_21, if_pos (nI_lt (by omega) (by omega))]
end TLD
