/-! tell: the reference's telling -/
def MT (m n : Nat) (dr : Int32) (F0 : Nat → Nat → Int32) (L : List Int32) (h : hm_H) : Prop :=
  ∃ F, MH m n (nI L.length) dr F h ∧ (∀ j, j ≠ 10 → F j = F0 j) ∧ (∀ j v, L[j]? = some v → F 10 j = v) ∧ ∀ v ∈ L, byt v
section TLM
variable {m n : Nat} {dr : Int32} {F0 : Nat → Nat → Int32}
theorem m_put {L : List Int32} {h : hm_H} (T : MT m n dr F0 L h) (hl : L.length < 7000) {v : Int32} (hv : byt v) : ∃ h', fX6_put m v h = some h' ∧ MT m n dr F0 (L ++ [v]) h' := by
  obtain ⟨F, M, oth, bs, by'⟩ := T
  obtain ⟨h1, e1, M1, -⟩ := M.si 10 (j := L.length) v (by decide) hl
  obtain ⟨h2, e2, M2, -⟩ := M1.pm (nI (L.length + 1))
  refine ⟨h2, ?_, _, by rw [List.length_append]; exact M2, fun j hj => ?_, fun j w e => ?_, fun w hw => ?_⟩
  · unfold fX6_put
    rw [M.q10, hb_s, M.gm, hb_s, e1, hb_s, M1.gm, hb_s, nI_1, e2, hb_s]
  · rw [va_up_ne _ _ hj]
    exact oth j hj
  · rw [va_up_self]
    by_cases e3 : j = L.length
    · subst e3
      rw [upd_s]
      simp at e
      exact e
    · rw [upd_n e3]
      by_cases e4 : j < L.length
      · rw [List.getElem?_append_left e4] at e
        exact bs j w e
      · have : (L ++ [v])[j]? = none := by
          rw [List.getElem?_eq_none]
          simp
          omega
        rw [this] at e
        cases e
  · rcases List.mem_append.mp hw with hw | hw
    · exact by' w hw
    · simp at hw
      rw [hw]
      exact hv
theorem MT.rc {L : List Int32} {h : hm_H} (T : MT m n dr F0 L h) : hm_rc 6 h (some m) = some m := by
  obtain ⟨F, M, -⟩ := T
  exact M.rc
variable {D : Nat → Nat × Nat × Nat} {K : Nat → Nat × Nat × Nat × Nat}
theorem MT.wd {L : List Int32} {h : hm_H} (T : MT m n dr F0 L h) (R : MR n D K F0) (hD : DK n D K) {k : Nat} (hk : k < n) : hm_gq 6 2 h (some m) = some (some (m + 2)) ∧ hm_ai 0 h (some (m + 2)) (nI k) = some (nI (D k).2.1) := by
  obtain ⟨F, M, oth, -⟩ := T
  have hn := hD.1
  have e := M.ai 2 (j := k) (by decide) (by show k < 8; omega)
  rw [oth 2 (by decide), (R.1 k hk).2.1] at e
  exact ⟨M.q2, e⟩
theorem MT.ht {L : List Int32} {h : hm_H} (T : MT m n dr F0 L h) (R : MR n D K F0) (hD : DK n D K) {k : Nat} (hk : k < n) : hm_gq 6 3 h (some m) = some (some (m + 3)) ∧ hm_ai 0 h (some (m + 3)) (nI k) = some (nI (D k).2.2) := by
  obtain ⟨F, M, oth, -⟩ := T
  have hn := hD.1
  have e := M.ai 3 (j := k) (by decide) (by show k < 8; omega)
  rw [oth 3 (by decide), (R.1 k hk).2.2.1] at e
  exact ⟨M.q3, e⟩
theorem MT.dot {L : List Int32} {h : hm_H} (T : MT m n dr F0 L h) (R : MR n D K F0) (hD : DK n D K) {k y c : Nat} (hk : k < n) (hy : y < (D k).2.2) (hc : c < (D k).2.1) {dt : Nat → Int32} (hdt : ∀ c, c < (D k).2.1 → F0 5 (4096 * k + 64 * y + c) = dt c) : fX6_dot m (nI k) (nI c).toInt64 (nI y).toInt64 h = some (dt c, h) := by
  obtain ⟨F, M, oth, -⟩ := T
  have hd := hD.2 k hk
  have R1 : MR n D K F := R.keep (oth 1 (by decide)) (oth 2 (by decide)) (oth 3 (by decide)) (oth 4 (by decide)) (fun i j _ _ _ => by rw [oth 5 (by decide)])
  rw [nI_L (by omega), nI_L (by omega), m_dotIn M R1 hD hk hc hy, oth 5 (by decide), hdt c hc]
variable {k y : Nat} {dt : Nat → Int32}
theorem m_dots (R : MR n D K F0) (hD : DK n D K) (hk : k < n) (hy : y < (D k).2.2) (hdt : ∀ c, c < (D k).2.1 → F0 5 (4096 * k + 64 * y + c) = dt c) (hby : ∀ c, c < (D k).2.1 → byt (dt c)) (K3 : Option Nat → Int32 → Int32 → Int32 → Int32 → Int32 → hm_H → Option hm_H) (x4 : Int32) (a : Nat) : ∀ r j fu L h, r < fu → a + j + r ≤ (D k).2.1 → MT m n dr F0 L h → L.length + r ≤ 7000 → ∃ h', hm_loop (fun _ _ _ _ _ _ _ _ _ => none) (fX6_tellStretch_43 K3) fu (some m) (nI 64) (nI k) x4 (nI y) (nI a) (nI (j + r)) (nI j) h = fX6_tellStretch_80 K3 (some m) (nI 64) (nI k) x4 (nI y) (nI a) h' ∧ MT m n dr F0 (L ++ dl dt r (a + j)) h' := by
  have hd := hD.2 k hk
  intro r
  induction r with
  | zero =>
    intro j fu L h hfu hj T hl
    obtain ⟨fu, rfl⟩ : ∃ q, fu = q + 1 := ⟨fu - 1, by omega⟩
    refine ⟨h, ?_, by show MT m n dr F0 (L ++ []) h; rw [List.append_nil]; exact T⟩
    rw [hm_loop_s, fX6_tellStretch_43, if_pos (nI_le (a := j + 0) (b := j) (Nat.le_refl j) (by omega))]
  | succ r ih =>
    intro j fu L h hfu hj T hl
    obtain ⟨fu, rfl⟩ : ∃ q, fu = q + 1 := ⟨fu - 1, by omega⟩
    obtain ⟨h1, e1, T1⟩ := m_put T (by omega) (hby (a + j) (by omega))
    obtain ⟨h', e', T'⟩ := ih (j + 1) fu _ h1 (by omega) (by omega) T1 (by rw [List.length_append]; show _ + 1 + r ≤ _; omega)
    refine ⟨h', ?_, ?_⟩
    · rw [hm_loop_s, fX6_tellStretch_43, if_neg (nI_ge (by omega) (by omega)), if_pos (by rfl), T.rc, hb_s, nI_add, T.dot R hD hk hy (by omega) hdt, hb2_s, T.rc, hb_s, e1, hb_s, nI_1, show j + (r + 1) = j + 1 + r by omega]
      exact e'
    · rw [List.append_assoc] at T'
      exact T'
theorem m_str (R : MR n D K F0) (hD : DK n D K) (hk : k < n) (hy : y < (D k).2.2) (hdt : ∀ c, c < (D k).2.1 → F0 5 (4096 * k + 64 * y + c) = dt c) (hby : ∀ c, c < (D k).2.1 → byt (dt c)) {kd e : Nat} (hkd : kd = 0 ∨ kd = 64 ∨ kd = 128) (he : e ≤ (D k).2.1) : ∀ f a fu L h, f < fu → e ≤ a + 63 * f → a + 63 * f ≤ 400 → MT m n dr F0 L h → L.length + (str dt kd e f a).length ≤ 7000 → ∃ h', hm_loop (fun _ _ _ _ _ _ _ => none) fX6_tellStretch_3 fu (some m) (nI kd) (nI k) (nI e) (nI y) (nI a) h = some h' ∧ MT m n dr F0 (L ++ str dt kd e f a) h' := by
  have hd := hD.2 k hk
  intro f
  induction f with
  | zero =>
    intro a fu L h hfu ha hb T hl
    obtain ⟨fu, rfl⟩ : ∃ q, fu = q + 1 := ⟨fu - 1, by omega⟩
    refine ⟨h, ?_, by show MT m n dr F0 (L ++ []) h; rw [List.append_nil]; exact T⟩
    rw [hm_loop_s, fX6_tellStretch_3, if_pos (nI_le (by omega) (by omega))]
  | succ f ih =>
    intro a fu L h hfu ha hb T hl
    obtain ⟨fu, rfl⟩ : ∃ q, fu = q + 1 := ⟨fu - 1, by omega⟩
    rw [str_s] at hl ⊢
    by_cases q : e ≤ a
    · refine ⟨h, ?_, ?_⟩
      · rw [hm_loop_s, fX6_tellStretch_3, if_pos (nI_le (by omega) (by omega))]
      · rw [if_pos q, List.append_nil]
        exact T
    · rw [if_neg q] at hl ⊢
      rw [List.length_cons, List.length_append, dl_len] at hl
      obtain ⟨h1, e1, T1⟩ := m_put T (by omega) (v := nI (kd + min 63 (e - a))) ⟨_, by omega, rfl⟩
      have l1 : (L ++ [nI (kd + min 63 (e - a))]).length = L.length + 1 := by rw [List.length_append]; rfl
      have step : ∃ h2, fX6_tellStretch_30 (hm_loop (fun _ _ _ _ _ _ _ => none) fX6_tellStretch_3 fu) (some m) (nI kd) (nI k) (nI e) (nI y) (nI a) (nI (min 63 (e - a))) h = hm_loop (fun _ _ _ _ _ _ _ => none) fX6_tellStretch_3 fu (some m) (nI kd) (nI k) (nI e) (nI y) (nI (a + 63)) h2 ∧ MT m n dr F0 (L ++ [nI (kd + min 63 (e - a))] ++ dl dt (nd kd (min 63 (e - a))) a) h2 := by
        have e63 : nI a + 63 = nI (a + 63) := nI_add a 63
        rcases hkd with rfl | rfl | rfl
        · refine ⟨h1, ?_, by show MT m n dr F0 (_ ++ []) h1; rw [List.append_nil]; exact T1⟩
          rw [fX6_tellStretch_30, T.rc, hb_s, nI_add, e1, hb_s, show hm_fu = 19999 + 1 from rfl, hm_loop_s, fX6_tellStretch_43, show (0 : Int32) = nI 0 from rfl, if_neg (nI_ge (by omega) (by omega)), if_neg (by decide), fX6_tellStretch_80, if_neg (by decide), fX6_tellStretch_102, e63]
        · obtain ⟨h2, e2, T2⟩ := m_dots R hD hk hy hdt hby (hm_loop (fun _ _ _ _ _ _ _ => none) fX6_tellStretch_3 fu) (nI e) a (min 63 (e - a)) 0 hm_fu _ h1 (by unfold hm_fu; omega) (by omega) T1 (by rw [l1]; have : nd 64 (min 63 (e - a)) = min 63 (e - a) := rfl; omega)
          refine ⟨h2, ?_, T2⟩
          rw [Nat.zero_add] at e2
          rw [fX6_tellStretch_30, T.rc, hb_s, nI_add, e1, hb_s, show (0 : Int32) = nI 0 from rfl, e2, fX6_tellStretch_80, if_neg (by decide), fX6_tellStretch_102, e63]
        · obtain ⟨h2, e2, T2⟩ := m_put T1 (by rw [l1]; have : nd 128 (min 63 (e - a)) = 1 := rfl; omega) (hby a (by omega))
          refine ⟨h2, ?_, T2⟩
          rw [fX6_tellStretch_30, T.rc, hb_s, nI_add, e1, hb_s, show hm_fu = 19999 + 1 from rfl, hm_loop_s, fX6_tellStretch_43, show (0 : Int32) = nI 0 from rfl, if_neg (nI_ge (by omega) (by omega)), if_neg (by decide), fX6_tellStretch_80, if_pos (by rfl), T1.rc, hb_s, T1.dot R hD hk hy (by omega) hdt, hb2_s, T1.rc, hb_s, e2, hb_s, fX6_tellStretch_102, e63]
      obtain ⟨h2, e2, T2⟩ := step
      obtain ⟨h3, e3, T3⟩ := ih (a + 63) fu _ h2 (by omega) (by omega) (by omega) T2 (by rw [List.length_append, l1, dl_len]; omega)
      refine ⟨h3, ?_, ?_⟩
      · rw [hm_loop_s, fX6_tellStretch_3, if_neg (nI_ge (by omega) (by omega)), nI_sub (by omega), show (63 : Int32) = nI 63 from rfl]
        by_cases z : 63 ≤ e - a
        · rw [show min 63 (e - a) = 63 by omega] at e2
          rw [if_pos (nI_le (a := 63) z (by omega))]
          exact e2.trans e3
        · rw [show min 63 (e - a) = e - a by omega] at e2
          rw [if_neg (nI_ge (a := e - a) (b := 63) (by omega) (by omega))]
          exact e2.trans e3
      · rw [List.append_assoc, List.append_assoc] at T3
        exact T3
theorem m_tellStretch (R : MR n D K F0) (hD : DK n D K) (hk : k < n) (hy : y < (D k).2.2) (hdt : ∀ c, c < (D k).2.1 → F0 5 (4096 * k + 64 * y + c) = dt c) (hby : ∀ c, c < (D k).2.1 → byt (dt c)) {kd e a : Nat} (hkd : kd = 0 ∨ kd = 64 ∨ kd = 128) (he : e ≤ (D k).2.1) (ha : a ≤ e) {L : List Int32} {h : hm_H} (T : MT m n dr F0 L h) (hl : L.length + (str dt kd e 2 a).length ≤ 7000) : ∃ h', fX6_tellStretch m (nI kd) (nI k) (nI a) (nI e) (nI y) h = some h' ∧ MT m n dr F0 (L ++ str dt kd e 2 a) h' := by
  have hd := hD.2 k hk
  exact m_str R hD hk hy hdt hby hkd he 2 a hm_fu L h (by decide) (by omega) (by omega) T hl
theorem m_alike (R : MR n D K F0) (hD : DK n D K) (hk : k < n) (hy : y < (D k).2.2) (hdt : ∀ c, c < (D k).2.1 → F0 5 (4096 * k + 64 * y + c) = dt c) {a e : Nat} (he : e ≤ (D k).2.1) (ha : a < e) {L : List Int32} {h : hm_H} (T : MT m n dr F0 L h) : ∃ l, fX6_alike m (nI k) (nI a) (nI e) (nI y) h = some (nI l, h) ∧ 1 ≤ l ∧ a + l ≤ e ∧ (∀ j, j < l → dt (a + j) = dt a) ∧ (a + l = e ∨ dt (a + l) ≠ dt a) := by
  have hd := hD.2 k hk
  have lp : ∀ r l fu, a + l + r = e → 1 ≤ l → r < fu → (∀ j, j < l → dt (a + j) = dt a) → ∃ l', hm_loop (fun _ _ _ _ _ _ _ => none) fX6_alike_3 fu (some m) (nI k) (nI a) (nI e) (nI y) (nI l) h = some (nI l', h) ∧ 1 ≤ l' ∧ a + l' ≤ e ∧ (∀ j, j < l' → dt (a + j) = dt a) ∧ (a + l' = e ∨ dt (a + l') ≠ dt a) := by
    intro r
    induction r with
    | zero =>
      intro l fu hr hl hfu I
      obtain ⟨fu, rfl⟩ : ∃ q, fu = q + 1 := ⟨fu - 1, by omega⟩
      refine ⟨l, ?_, hl, by omega, I, Or.inl (by omega)⟩
      rw [hm_loop_s, fX6_alike_3, nI_add, if_pos (nI_le (by omega) (by omega))]
    | succ r ih =>
      intro l fu hr hl hfu I
      obtain ⟨fu, rfl⟩ : ∃ q, fu = q + 1 := ⟨fu - 1, by omega⟩
      rw [hm_loop_s, fX6_alike_3, nI_add, if_neg (nI_ge (by omega) (by omega)), T.rc, hb_s, T.dot R hD hk hy (by omega) hdt, hb2_s, T.rc, hb_s, T.dot R hD hk hy (by omega) hdt, hb2_s]
      by_cases q : dt (a + l) = dt a
      · rw [if_pos q, nI_1]
        exact ih (l + 1) fu (by omega) (by omega) (by omega) (fun j hj => by
          by_cases z : j = l
          · subst z; exact q
          · exact I j (by omega))
      · rw [if_neg q]
        exact ⟨l, rfl, hl, by omega, I, Or.inr q⟩
  exact lp (e - (a + 1)) 1 hm_fu (by omega) (by omega) (by unfold hm_fu; omega) (fun j hj => by rw [show j = 0 by omega]; rfl)
end TLM
