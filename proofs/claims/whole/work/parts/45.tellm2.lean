/-! tell: the reference's rows -/
theorem te_top {dt : Nat → Int32} {key : Int32} {j : Nat} (h : 0 < te dt key j) : dt (te dt key j - 1) ≠ key := by
  induction j with
  | zero => exact absurd h (by show ¬ 0 < 0; omega)
  | succ j ih =>
    rw [te_s] at h ⊢
    by_cases q : dt j = key
    · rw [if_pos q] at h ⊢
      exact ih h
    · rw [if_neg q]
      exact q
section TLN
variable {m n : Nat} {dr : Int32} {F0 : Nat → Nat → Int32} {D : Nat → Nat × Nat × Nat} {K : Nat → Nat × Nat × Nat × Nat} {k y : Nat} {dt : Nat → Int32} {key : Int32}
theorem m_tellDrawn (R : MR n D K F0) (hD : DK n D K) (hk : k < n) (hy : y < (D k).2.2) (hdt : ∀ c, c < (D k).2.1 → F0 5 (4096 * k + 64 * y + c) = dt c) (hby : ∀ c, c < (D k).2.1 → byt (dt c)) {p q : Nat} (hpq : p < q) (hq : q ≤ (D k).2.1) (hin : ∀ j, p ≤ j → j < q → dt j ≠ key) (hqe : q = (D k).2.1 ∨ dt q = key) (hpe : p = 0 ∨ dt (p - 1) = key) {L : List Int32} {h : hm_H} (T : MT m n dr F0 L h) (hl : L.length + (crow dt (D k).2.1 key (te dt key (D k).2.1) p).length ≤ 7000) : ∃ L' h', fX6_tellDrawn m (nI k) (nI p) (nI q) (nI y) h = some h' ∧ MT m n dr F0 L' h' ∧ L' ++ crow dt (D k).2.1 key (te dt key (D k).2.1) q = L ++ crow dt (D k).2.1 key (te dt key (D k).2.1) p := by
  have hd := hD.2 k hk
  have qe : q ≤ te dt key (D k).2.1 := by have := te_lo (dt := dt) (key := key) (c := q - 1) (j := (D k).2.1) (by omega) (hin _ (by omega) (by omega)); omega
  have te0 := te_le dt key (D k).2.1
  -- what stands at the end of the run
  have qb : ∀ s, kdf dt (D k).2.1 key s ≠ 0 → q = te dt key (D k).2.1 ∨ bkt dt (D k).2.1 key s q = true := fun s hs => by
    by_cases z : q = te dt key (D k).2.1
    · exact Or.inl z
    · rcases hqe with z2 | z2
      · omega
      · exact Or.inr (bkt_t.mpr (Or.inl (by rw [kdf_0 z2]; exact fun w => hs w.symm)))
  have lp : ∀ r pl at' fu L h, at' + r = q → r < fu → p ≤ pl → pl ≤ at' → (∀ j, pl ≤ j → j < at' → kdf dt (D k).2.1 key j = 64) → (at' = q ∨ at' = p ∨ dt (at' - 1) ≠ dt at') → MT m n dr F0 L h → L.length + (crow dt (D k).2.1 key (te dt key (D k).2.1) pl).length ≤ 7000 → ∃ L' h', hm_loop (fun _ _ _ _ _ _ _ => none) fX6_tellDrawn_6 fu (some m) (nI k) (nI q) (nI y) (nI at') (nI pl) h = some h' ∧ MT m n dr F0 L' h' ∧ L' ++ crow dt (D k).2.1 key (te dt key (D k).2.1) q = L ++ crow dt (D k).2.1 key (te dt key (D k).2.1) pl := by
    intro r
    induction r using Nat.strongRecOn with
    | _ r ih =>
      intro pl at' fu L h hr hfu h1 h2 h3 h4 T hl
      obtain ⟨fu, rfl⟩ : ∃ q, fu = q + 1 := ⟨fu - 1, by omega⟩
      -- the plain dots before a break
      have plain : ∀ e, pl < e → e ≤ q → (∀ j, pl ≤ j → j < e → kdf dt (D k).2.1 key j = 64) → (e = te dt key (D k).2.1 ∨ bkt dt (D k).2.1 key pl e = true) → crow dt (D k).2.1 key (te dt key (D k).2.1) pl = str dt 64 e 2 pl ++ crow dt (D k).2.1 key (te dt key (D k).2.1) e := fun e p1 p2 p3 p4 => by
        have k0 := p3 pl (Nat.le_refl _) p1
        rw [crow_seg p1 (by omega) (fun j p5 p6 => by rw [bkt_t, p3 j (by omega) p6, k0]; omega) p4, k0]
      by_cases z : at' < q
      · obtain ⟨l, ea, l1, l2, l3, l4⟩ := m_alike R hD hk hy hdt (a := at') (e := q) hq z T
        have dk : ∀ j, at' ≤ j → j < at' + l → dt j = dt at' := fun j p1 p2 => by have := l3 (j - at') (by omega); rw [show at' + (j - at') = j by omega] at this; exact this
        by_cases z2 : l ≤ 2
        · have k64 : ∀ j, at' ≤ j → j < at' + l → kdf dt (D k).2.1 key j = 64 := fun j p1 p2 => by
            refine (kdf_3 (hin j (by omega) (by omega))).2 (fun t3 => ?_)
            obtain ⟨a, a1, a2, a3, a4, a5⟩ := t3
            have ev : ∀ i, a ≤ i → i ≤ a + 2 → dt i = dt a := fun i i1 i2 => by
              have : i = a ∨ i = a + 1 ∨ i = a + 2 := by omega
              rcases this with rfl | rfl | rfl
              · rfl
              · exact a4.symm
              · exact a5.symm
            have aj := ev j a1 a2
            have nk : dt a ≠ key := by rw [← aj]; exact hin j (by omega) (by omega)
            have ap : p ≤ a := by
              by_cases w : p ≤ a
              · exact w
              · rcases hpe with w2 | w2
                · omega
                · exact absurd ((ev (p - 1) (by omega) (by omega)).symm.trans w2) nk
            have aq : a + 2 < q := by
              by_cases w : a + 2 < q
              · exact w
              · rcases hqe with w2 | w2
                · omega
                · exact absurd ((ev q (by omega) (by omega)).symm.trans w2) nk
            have aa : at' ≤ a := by
              by_cases w : at' ≤ a
              · exact w
              · rcases h4 with w2 | w2 | w2
                · omega
                · omega
                · exact absurd ((ev (at' - 1) (by omega) (by omega)).trans (ev at' (by omega) (by omega)).symm) w2
            have ae : a + 2 < at' + l := by
              by_cases w : a + 2 < at' + l
              · exact w
              · rcases l4 with w2 | w2
                · omega
                · exact absurd ((ev (at' + l) (by omega) (by omega)).trans (by rw [← aj]; exact dk j p1 p2)) w2
            omega
          obtain ⟨L', h', e', T', c'⟩ := ih (r - l) (by omega) pl (at' + l) fu L h (by omega) (by omega) h1 (by omega) (fun j p1 p2 => by
            by_cases w : j < at'
            · exact h3 j p1 w
            · exact k64 j (by omega) p2) (by
            rcases l4 with w | w
            · exact Or.inl w
            · refine Or.inr (Or.inr ?_)
              rw [dk (at' + l - 1) (by omega) (by omega)]
              exact fun w2 => w w2.symm) T hl
          refine ⟨L', h', ?_, T', c'⟩
          rw [hm_loop_s, fX6_tellDrawn_6, if_neg (nI_ge z (by omega)), T.rc, hb_s, ea, hb2_s, show (2 : Int32) = nI 2 from rfl, if_pos (nI_le (b := 2) z2 (by omega)), fX6_tellDrawn_67, hlet_s, nI_add]
          exact e'
        · have k128 : ∀ j, at' ≤ j → j < at' + l → kdf dt (D k).2.1 key j = 128 := fun j p1 p2 => by
            refine (kdf_3 (hin j (by omega) (by omega))).1 ?_
            by_cases w : j + 2 < at' + l
            · exact ⟨j, by omega, by omega, by omega, by rw [dk j p1 p2, dk (j + 1) (by omega) (by omega)], by rw [dk j p1 p2, dk (j + 2) (by omega) (by omega)]⟩
            · exact ⟨at' + l - 3, by omega, by omega, by omega, by rw [dk (at' + l - 3) (by omega) (by omega), dk (at' + l - 3 + 1) (by omega) (by omega)], by rw [dk (at' + l - 3) (by omega) (by omega), dk (at' + l - 3 + 2) (by omega) (by omega)]⟩
          have ka := k128 at' (by omega) (by omega)
          have c1 : crow dt (D k).2.1 key (te dt key (D k).2.1) pl = str dt 64 at' 2 pl ++ crow dt (D k).2.1 key (te dt key (D k).2.1) at' := by
            by_cases w : pl < at'
            · exact plain at' w (by omega) h3 (Or.inr (bkt_t.mpr (Or.inl (by rw [ka, h3 pl (by omega) w]; decide))))
            · rw [show pl = at' by omega, str_0]
              rfl
          have c2 : crow dt (D k).2.1 key (te dt key (D k).2.1) at' = str dt 128 (at' + l) 2 at' ++ crow dt (D k).2.1 key (te dt key (D k).2.1) (at' + l) := by
            have nb : ∀ j, at' < j → j < at' + l → ¬ bkt dt (D k).2.1 key at' j = true := fun j p5 p6 => by
              rw [bkt_t, k128 j (by omega) p6, ka, dk j (by omega) p6, dk (j - 1) (by omega) (by omega)]
              intro w
              rcases w with w | w
              · exact w rfl
              · exact w.2 rfl
            have bb : at' + l = te dt key (D k).2.1 ∨ bkt dt (D k).2.1 key at' (at' + l) = true := by
              by_cases w3 : at' + l = q
              · rw [w3]
                exact qb at' (by rw [ka]; decide)
              · rcases l4 with w | w
                · exact absurd w w3
                · right
                  rw [bkt_t, ka]
                  rcases kdf_v dt (D k).2.1 key (at' + l) with v | v | v
                  · left; rw [v]; decide
                  · left; rw [v]; decide
                  · right
                    refine ⟨v, ?_⟩
                    rw [dk (at' + l - 1) (by omega) (by omega)]
                    exact w
            rw [crow_seg (s := at') (q := at' + l) (by omega) (by omega) nb bb, ka]
          rw [c1, c2, List.length_append, List.length_append] at hl
          obtain ⟨h5, e5, T5⟩ := m_tellStretch R hD hk hy hdt hby (kd := 64) (e := at') (a := pl) (by decide) (by omega) h2 T (by omega)
          obtain ⟨h6, e6, T6⟩ := m_tellStretch R hD hk hy hdt hby (kd := 128) (e := at' + l) (a := at') (by decide) (by omega) (by omega) T5 (by rw [List.length_append]; omega)
          obtain ⟨L', h', e', T', c'⟩ := ih (r - l) (by omega) (at' + l) (at' + l) fu _ h6 (by omega) (by omega) (by omega) (by omega) (fun j p1 p2 => by omega) (by
            rcases l4 with w | w
            · exact Or.inl w
            · refine Or.inr (Or.inr ?_)
              rw [dk (at' + l - 1) (by omega) (by omega)]
              exact fun w2 => w w2.symm) T6 (by rw [List.length_append, List.length_append]; omega)
          refine ⟨L', h', ?_, T', ?_⟩
          · rw [hm_loop_s, fX6_tellDrawn_6, if_neg (nI_ge z (by omega)), T.rc, hb_s, ea, hb2_s, show (2 : Int32) = nI 2 from rfl, if_neg (nI_ge (a := 2) (b := l) (by omega) (by omega)), T.rc, hb_s]
            show hm_b (fX6_tellStretch m (nI 64) (nI k) (nI pl) (nI at') (nI y) h) _ = _
            rw [e5, hb_s, T5.rc, hb_s, nI_add]
            show hm_b (fX6_tellStretch m (nI 128) (nI k) (nI at') (nI (at' + l)) (nI y) h5) _ = _
            rw [e6, hb_s, hlet_s, fX6_tellDrawn_67, hlet_s, nI_add]
            exact e'
          · rw [c', c1, c2, List.append_assoc, List.append_assoc]
      · have : at' = q := by omega
        subst this
        have c1 : crow dt (D k).2.1 key (te dt key (D k).2.1) pl = str dt 64 at' 2 pl ++ crow dt (D k).2.1 key (te dt key (D k).2.1) at' := by
          by_cases w : pl < at'
          · exact plain at' w (by omega) h3 (qb pl (by rw [h3 pl (by omega) w]; decide))
          · rw [show pl = at' by omega, str_0]
            rfl
        rw [c1, List.length_append] at hl
        obtain ⟨h5, e5, T5⟩ := m_tellStretch R hD hk hy hdt hby (kd := 64) (e := at') (a := pl) (by decide) (by omega) h2 T (by omega)
        refine ⟨_, h5, ?_, T5, ?_⟩
        · rw [hm_loop_s, fX6_tellDrawn_6, if_pos (nI_le (Nat.le_refl _) (by omega)), T.rc, hb_s]
          show hm_b (fX6_tellStretch m (nI 64) (nI k) (nI pl) (nI at') (nI y) h) _ = _
          rw [e5, hb_s]
        · rw [c1, List.append_assoc]
  exact lp (q - p) p p hm_fu L h (by omega) (by unfold hm_fu; omega) (by omega) (by omega) (fun j p1 p2 => by omega) (Or.inr (Or.inl rfl)) T hl
/-- the end of a run -/
theorem m_run (R : MR n D K F0) (hD : DK n D K) (hk : k < n) (hy : y < (D k).2.2) (hdt : ∀ c, c < (D k).2.1 → F0 5 (4096 * k + 64 * y + c) = dt c) (K3 : Option Nat → Int32 → Int32 → Int32 → Int32 → hm_H → Option hm_H) {L : List Int32} {h : hm_H} (T : MT m n dr F0 L h) {p : Nat} (d : Int32) : ∀ r c fu, c + r = (D k).2.1 → r < fu → p ≤ c → (∀ j, p ≤ j → j < c → (if dt j = key then (0 : Int32) else 1) = d) → ∃ q, hm_loop (fun _ _ _ _ _ _ _ _ => none) (fX6_tellRow_39 K3) fu (some m) (nI k) key (nI y) (nI p) (nI c) d h = fX6_tellRow_80 K3 (some m) (nI k) key (nI y) (nI p) (nI q) d h ∧ c ≤ q ∧ q ≤ (D k).2.1 ∧ (∀ j, p ≤ j → j < q → (if dt j = key then (0 : Int32) else 1) = d) ∧ (q = (D k).2.1 ∨ (if dt q = key then (0 : Int32) else 1) ≠ d) := by
  have hd := hD.2 k hk
  intro r
  induction r with
  | zero =>
    intro c fu hc hfu hp I
    obtain ⟨fu, rfl⟩ : ∃ q, fu = q + 1 := ⟨fu - 1, by omega⟩
    refine ⟨c, ?_, Nat.le_refl _, by omega, I, Or.inl (by omega)⟩
    rw [hm_loop_s, fX6_tellRow_39, (T.wd R hD hk).1, hb_s, (T.wd R hD hk).2, hb_s, if_pos (nI_le (by omega) (by omega))]
  | succ r ih =>
    intro c fu hc hfu hp I
    obtain ⟨fu, rfl⟩ : ∃ q, fu = q + 1 := ⟨fu - 1, by omega⟩
    rw [hm_loop_s, fX6_tellRow_39, (T.wd R hD hk).1, hb_s, (T.wd R hD hk).2, hb_s, if_neg (nI_ge (by omega) (by omega)), T.rc, hb_s, T.dot R hD hk hy (by omega) hdt, hb2_s]
    by_cases q : (if dt c = key then (0 : Int32) else 1) = d
    · obtain ⟨q', e', w1, w2, w3, w4⟩ := ih (c + 1) fu (by omega) (by omega) (by omega) (fun j p1 p2 => by
        by_cases z : j = c
        · subst z; exact q
        · exact I j p1 (by omega))
      refine ⟨q', ?_, by omega, w2, w3, w4⟩
      by_cases z : dt c = key
      · rw [if_pos z] at q
        rw [if_pos z, fX6_tellRow_69, if_pos q, nI_1]
        exact e'
      · rw [if_neg z] at q
        rw [if_neg z, fX6_tellRow_69, if_pos q, nI_1]
        exact e'
    · refine ⟨c, ?_, Nat.le_refl _, by omega, I, Or.inr q⟩
      by_cases z : dt c = key
      · rw [if_pos z] at q
        rw [if_pos z, fX6_tellRow_69, if_neg q]
      · rw [if_neg z] at q
        rw [if_neg z, fX6_tellRow_69, if_neg q]
theorem m_tellRow (R : MR n D K F0) (hD : DK n D K) (hk : k < n) (hy : y < (D k).2.2) (hdt : ∀ c, c < (D k).2.1 → F0 5 (4096 * k + 64 * y + c) = dt c) (hby : ∀ c, c < (D k).2.1 → byt (dt c)) {L : List Int32} {h : hm_H} (T : MT m n dr F0 L h) (hl : L.length + 97 ≤ 7000) : ∃ h', fX6_tellRow m (nI k) key (nI y) h = some h' ∧ MT m n dr F0 (L ++ (crow dt (D k).2.1 key (te dt key (D k).2.1) 0 ++ [0])) h' := by
  have hd := hD.2 k hk
  have te0 := te_le dt key (D k).2.1
  have cl := crow_len (dt := dt) (W := (D k).2.1) (key := key) (e := te dt key (D k).2.1) (by omega) (te_hi (D k).2.1) (te dt key (D k).2.1) 0 (by omega) (Or.inl rfl)
  have cl2 : L.length + (crow dt (D k).2.1 key (te dt key (D k).2.1) 0).length + 1 ≤ 7000 := by split at cl <;> omega
  have lp : ∀ r p fu L h, p + r = (D k).2.1 → r < fu → (p = 0 ∨ p = (D k).2.1 ∨ ((dt (p - 1) = key) ↔ ¬ (dt p = key))) → MT m n dr F0 L h → L.length + (crow dt (D k).2.1 key (te dt key (D k).2.1) p).length + 1 ≤ 7000 → ∃ h', hm_loop (fun _ _ _ _ _ _ => none) fX6_tellRow_3 fu (some m) (nI k) key (nI y) (nI p) h = some h' ∧ MT m n dr F0 (L ++ (crow dt (D k).2.1 key (te dt key (D k).2.1) p ++ [0])) h' := by
    intro r
    induction r using Nat.strongRecOn with
    | _ r ih =>
      intro p fu L h hp hfu hb T hl
      obtain ⟨fu, rfl⟩ : ∃ q, fu = q + 1 := ⟨fu - 1, by omega⟩
      by_cases z : p < (D k).2.1
      · -- a run of dots not drawn
        by_cases kp : dt p = key
        · obtain ⟨q, e1, w1, w2, w3, w4⟩ := m_run R hD hk hy hdt (key := key) (hm_loop (fun _ _ _ _ _ _ => none) fX6_tellRow_3 fu) T (p := p) 0 ((D k).2.1 - p) p hm_fu (by omega) (by unfold hm_fu; omega) (Nat.le_refl _) (fun j p1 p2 => by omega)
          have w3' : ∀ j, p ≤ j → j < q → dt j = key := fun j p1 p2 => by
            have := w3 j p1 p2
            by_cases zz : dt j = key
            · exact zz
            · rw [if_neg zz] at this; exact absurd this (by decide)
          have pq : p < q := by
            by_cases zz : p < q
            · exact zz
            · rcases w4 with w4 | w4
              · omega
              · rw [show q = p by omega, if_pos kp] at w4
                exact absurd rfl w4
          rw [hm_loop_s, fX6_tellRow_3, (T.wd R hD hk).1, hb_s, (T.wd R hD hk).2, hb_s, if_neg (nI_ge z (by omega)), T.rc, hb_s, T.dot R hD hk hy z hdt, hb2_s, if_pos kp, fX6_tellRow_37, e1, fX6_tellRow_80, if_pos rfl, (T.wd R hD hk).1, hb_s, (T.wd R hD hk).2, hb_s]
          by_cases qW : q = (D k).2.1
          · have ep : te dt key (D k).2.1 ≤ p := by
              by_cases zz : te dt key (D k).2.1 ≤ p
              · exact zz
              · exact absurd (w3' (te dt key (D k).2.1 - 1) (by omega) (by omega)) (te_top (by omega))
            have c0 : crow dt (D k).2.1 key (te dt key (D k).2.1) p = [] := by unfold crow; rw [if_neg (by omega)]
            have c1 : crow dt (D k).2.1 key (te dt key (D k).2.1) q = [] := by unfold crow; rw [if_neg (by omega)]
            obtain ⟨h', e', T'⟩ := ih (r - (q - p)) (by omega) q fu L h (by omega) (by omega) (Or.inr (Or.inl qW)) T (by rw [c1]; rw [c0] at hl; exact hl)
            rw [c1] at T'
            rw [c0]
            refine ⟨h', ?_, T'⟩
            rw [if_pos (nI_le (by omega) (by omega)), fX6_tellRow_120]
            exact e'
          · have kq : dt q ≠ key := fun zz => by
              rcases w4 with w4 | w4
              · exact qW w4
              · rw [if_pos zz] at w4
                exact w4 rfl
            have qe := te_lo (dt := dt) (key := key) (c := q) (j := (D k).2.1) (by omega) kq
            have c1 : crow dt (D k).2.1 key (te dt key (D k).2.1) p = str dt 0 q 2 p ++ crow dt (D k).2.1 key (te dt key (D k).2.1) q := by
              rw [crow_seg pq (by omega) (fun j p5 p6 => by rw [bkt_t, kdf_0 (w3' j (by omega) p6), kdf_0 kp]; omega) (Or.inr (bkt_t.mpr (Or.inl (by
                rw [kdf_0 kp]
                intro zz
                by_cases t : th3 dt (D k).2.1 q
                · rw [(kdf_3 kq).1 t] at zz; omega
                · rw [(kdf_3 kq).2 t] at zz; omega)))), kdf_0 kp]
            rw [c1, List.length_append] at hl
            obtain ⟨h5, e5, T5⟩ := m_tellStretch R hD hk hy hdt hby (kd := 0) (e := q) (a := p) (by decide) (by omega) (by omega) T (by omega)
            obtain ⟨h', e', T'⟩ := ih (r - (q - p)) (by omega) q fu _ h5 (by omega) (by omega) (Or.inr (Or.inr ⟨fun _ => kq, fun _ => w3' (q - 1) (by omega) (by omega)⟩)) T5 (by rw [List.length_append]; omega)
            refine ⟨h', ?_, ?_⟩
            · rw [if_neg (nI_ge (by omega) (by omega)), T.rc, hb_s]
              show hm_b (fX6_tellStretch m (nI 0) (nI k) (nI p) (nI q) (nI y) h) _ = _
              rw [e5, hb_s, fX6_tellRow_120]
              exact e'
            · rw [c1, List.append_assoc]
              rw [List.append_assoc] at T'
              exact T'
        · -- a run of drawn dots
          obtain ⟨q, e1, w1, w2, w3, w4⟩ := m_run R hD hk hy hdt (key := key) (hm_loop (fun _ _ _ _ _ _ => none) fX6_tellRow_3 fu) T (p := p) 1 ((D k).2.1 - p) p hm_fu (by omega) (by unfold hm_fu; omega) (Nat.le_refl _) (fun j p1 p2 => by omega)
          have w3' : ∀ j, p ≤ j → j < q → dt j ≠ key := fun j p1 p2 zz => by
            have := w3 j p1 p2
            rw [if_pos zz] at this
            exact absurd this (by decide)
          have pq : p < q := by
            by_cases zz : p < q
            · exact zz
            · rcases w4 with w4 | w4
              · omega
              · rw [show q = p by omega, if_neg kp] at w4
                exact absurd rfl w4
          have qk : q = (D k).2.1 ∨ dt q = key := by
            rcases w4 with w4 | w4
            · exact Or.inl w4
            · by_cases zz : dt q = key
              · exact Or.inr zz
              · rw [if_neg zz] at w4
                exact absurd rfl w4
          have pk : p = 0 ∨ dt (p - 1) = key := by
            rcases hb with hb | hb | hb
            · exact Or.inl hb
            · omega
            · exact Or.inr (hb.mpr kp)
          obtain ⟨L5, h5, e5, T5, c5⟩ := m_tellDrawn R hD hk hy hdt hby pq w2 w3' qk pk T (by omega)
          have ln : L5.length + (crow dt (D k).2.1 key (te dt key (D k).2.1) q).length = L.length + (crow dt (D k).2.1 key (te dt key (D k).2.1) p).length := by rw [← List.length_append, c5, List.length_append]
          obtain ⟨h', e', T'⟩ := ih (r - (q - p)) (by omega) q fu L5 h5 (by omega) (by omega) (by
            rcases qk with zz | zz
            · exact Or.inr (Or.inl zz)
            · exact Or.inr (Or.inr ⟨fun w => absurd w (w3' (q - 1) (by omega) (by omega)), fun w => absurd zz w⟩)) T5 (by omega)
          refine ⟨h', ?_, ?_⟩
          · rw [hm_loop_s, fX6_tellRow_3, (T.wd R hD hk).1, hb_s, (T.wd R hD hk).2, hb_s, if_neg (nI_ge z (by omega)), T.rc, hb_s, T.dot R hD hk hy z hdt, hb2_s, if_neg kp, fX6_tellRow_37, e1, fX6_tellRow_80, if_neg (by decide), T.rc, hb_s, e5, hb_s, fX6_tellRow_120]
            exact e'
          · rw [← List.append_assoc, c5, List.append_assoc] at T'
            exact T'
      · have c0 : crow dt (D k).2.1 key (te dt key (D k).2.1) p = [] := by unfold crow; rw [if_neg (by omega)]
        obtain ⟨h1, e1, T1⟩ := m_put T (by omega) (v := 0) ⟨0, by omega, rfl⟩
        refine ⟨h1, ?_, by rw [c0]; exact T1⟩
        rw [hm_loop_s, fX6_tellRow_3, (T.wd R hD hk).1, hb_s, (T.wd R hD hk).2, hb_s, if_pos (nI_le (by omega) (by omega)), T.rc, hb_s, e1, hb_s]
  exact lp (D k).2.1 0 hm_fu L h (by omega) (by unfold hm_fu; omega) (Or.inl rfl) T cl2
end TLN
