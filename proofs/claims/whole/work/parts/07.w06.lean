/-! ==== X6_set: BlitBoardModel.set(IIII)I ==== -/
def fX6_set (t : Nat) (a1 : Int32) (a2 : Int32) (a3 : Int32) (a4 : Int32) (h0 : hm_H) : Option (Int32 × hm_H) :=
  hm_b (hm_rc 6 h0 (some t)) fun b2 =>
  hm_b2 (fX6_isSurface b2 a1 h0) fun v3 h1 =>
  if v3 = 0 then
    some ((0 : Int32), h1)
  else
    hm_b (hm_rc 6 h1 (some t)) fun b5 =>
    hm_b2 (fX6_isPlace b5 a1 ((a2).toInt64) ((a3).toInt64) h1) fun v6 h4 =>
    if v6 = 0 then
      some ((0 : Int32), h4)
    else
      hm_b (hm_rc 6 h4 (some t)) fun b8 =>
      hm_b2 (fX6_fits b8 a1 a4 h4) fun v9 h7 =>
      if v9 = 0 then
        some ((0 : Int32), h7)
      else
        hm_b (hm_gq 6 5 h7 (some t)) fun v10 =>
        hm_b (hm_si 0 h7 v10 ((((4096 : Int32) * a1) + ((64 : Int32) * a3)) + a2) a4) fun h11 =>
        some ((1 : Int32), h11)
set_option maxRecDepth 100000 in
set_option maxHeartbeats 8000000 in
theorem kX6_set (l : Launch) (D : va_G) (kA : Nat → ClassId) (t : Nat) (a1 : Int32) (a2 : Int32) (a3 : Int32) (a4 : Int32) (h0 h' : hm_H) (r : Int32) (hf : fX6_set t a1 a2 a3 a4 h0 = some (r, h')) : hm_C l yX6_set wsX6_set { frames := 1, cells := 0, slots := 0, locals := 25 } D vwCl kA (hm_ty kA) [.ref t, .int a1, .int a2, .int a3, .int a4] h0 (some (.int r)) h' 0 0 := by
  refine Met.ofW (cc := cX6_set) (maxL := 5) (ret := (some .int)) (by decide) rfl ?_
  intro p e s m args below meth c s₁ B hml hv
  obtain ⟨hargs, hB⟩ := hv
  have hx := B.exec
  have hb := B.bytes
  have hr := B.returns
  have hts := atoms_spec (ws := wsX6_set) B.pre
  have hown : s.vm.findClass RX6 = some m.cls := findClass_of_methodNamed B.named
  have hlocks := B.notSynchronized
  have hK := hB.2
  have hI := hm_start hB
  have w1 := hts (.fieldLink RX6 23 "BlitBoardModel" "dots" "[I") (by decide +kernel)
  have hiX6 : ∀ w ∈ wsX60, w ∈ wsX6_set := by decide +kernel
  rw [show entryFrame m args 5 = entryFrame m ([.ref t, .int a1, .int a2, .int a3, .int a4] : List Value).toArray 5 from by rw [hargs]]
  have hl := lv_entry ([.ref t, .int a1, .int a2, .int a3, .int a4]) (n := 5) (Nat.le_of_ble_eq_true rfl)
  rw [lg_entry_eq]
  generalize (lg_sl ([.ref t, .int a1, .int a2, .int a3, .int a4]) ++ List.replicate (5 - (lg_sl ([.ref t, .int a1, .int a2, .int a3, .int a4])).length) Slot.unset).toArray = ls at hl ⊢
  have hl : lv_has ls 5 [(0, va_rf (some t)), (1, .int a1), (2, .int a2), (3, .int a3), (4, .int a4)] := hl
  unfold fX6_set at hf
  refine hm_aload_n hx hb dX6_set_0 rfl (lv_at hl 0 rfl) ?_
  refine lv_iload_n hx hb dX6_set_1 rfl (lv_at hl 1 rfl) ?_
  obtain ⟨b2, eb2, hf⟩ := hm_b_s hf
  obtain ⟨v3, h1, eh1, hf⟩ := hm_b2_s hf
  refine hm_cV (As := [.int a1]) (rest := []) ⟨hx, hb, hml, hown, hts⟩ hK hI eb2 rfl rfl (kX6_isSurface l D kA b2 a1 h0 h1 v3 eh1) (cwV 1 hts gX6_set_X6_isSurface rfl rfl rfl (by decide +kernel) ⟨Nat.le_of_ble_eq_true rfl, Nat.le_of_ble_eq_true rfl⟩) rfl hl.1 rfl (by first | exact Nat.le_of_ble_eq_true rfl | (simp only [List.map, hm_rf_cat, hm_ci, hm_cl, List.sum_cons, List.sum_nil] <;> decide)) dX6_set_2 ⟨Nat.le_of_ble_eq_true rfl, Nat.le_of_ble_eq_true rfl⟩ (fun H locs hI => ?_)
  refine lv_if_eq (tgt := 30) hx hb dX6_set_5 (by decide) (fun c => ?_) (fun c => ?_)
  · rw [if_pos c] at hf
    refine lv_iconst (v := (0 : Int32)) hx hb dX6_set_30 (by decide) ?_
    exact hm_iret_e hf hx hb hr hlocks hK hI (Nat.le_of_ble_eq_true rfl) (Nat.le_of_ble_eq_true rfl) dX6_set_31
  · rw [if_neg c] at hf
    refine hm_aload_n hx hb dX6_set_8 rfl (lv_at hl 0 rfl) ?_
    refine lv_iload_n hx hb dX6_set_9 rfl (lv_at hl 1 rfl) ?_
    refine lv_iload_n hx hb dX6_set_10 rfl (lv_at hl 2 rfl) ?_
    refine lv_i2l (v := (a2).toInt64) hx hb dX6_set_11 rfl ?_
    refine lv_iload_n hx hb dX6_set_12 rfl (lv_at hl 3 rfl) ?_
    refine lv_i2l (v := (a3).toInt64) hx hb dX6_set_13 rfl ?_
    obtain ⟨b5, eb5, hf⟩ := hm_b_s hf
    obtain ⟨v6, h4, eh4, hf⟩ := hm_b2_s hf
    refine hm_cV (As := [.int a1, .long ((a2).toInt64), .long ((a3).toInt64)]) (rest := []) ⟨hx, hb, hml, hown, hts⟩ hK hI eb5 rfl rfl (kX6_isPlace l D kA b5 a1 ((a2).toInt64) ((a3).toInt64) h1 h4 v6 eh4) (cwV 3 hts gX6_set_X6_isPlace rfl rfl rfl (by decide +kernel) ⟨Nat.le_of_ble_eq_true rfl, Nat.le_of_ble_eq_true rfl⟩) rfl hl.1 rfl (by first | exact Nat.le_of_ble_eq_true rfl | (simp only [List.map, hm_rf_cat, hm_ci, hm_cl, List.sum_cons, List.sum_nil] <;> decide)) dX6_set_14 ⟨Nat.le_of_ble_eq_true rfl, Nat.le_of_ble_eq_true rfl⟩ (fun H locs hI => ?_)
    refine lv_if_eq (tgt := 30) hx hb dX6_set_17 (by decide) (fun c => ?_) (fun c => ?_)
    · rw [if_pos c] at hf
      refine lv_iconst (v := (0 : Int32)) hx hb dX6_set_30 (by decide) ?_
      exact hm_iret_e hf hx hb hr hlocks hK hI (Nat.le_of_ble_eq_true rfl) (Nat.le_of_ble_eq_true rfl) dX6_set_31
    · rw [if_neg c] at hf
      refine hm_aload_n hx hb dX6_set_20 rfl (lv_at hl 0 rfl) ?_
      refine lv_iload_n hx hb dX6_set_21 rfl (lv_at hl 1 rfl) ?_
      refine lv_iload hx hb dX6_set_22 (lv_at hl 4 rfl) ?_
      obtain ⟨b8, eb8, hf⟩ := hm_b_s hf
      obtain ⟨v9, h7, eh7, hf⟩ := hm_b2_s hf
      refine hm_cV (As := [.int a1, .int a4]) (rest := []) ⟨hx, hb, hml, hown, hts⟩ hK hI eb8 rfl rfl (kX6_fits l D kA b8 a1 a4 h4 h7 v9 eh7) (cwV 2 hts gX6_set_X6_fits rfl rfl rfl (by decide +kernel) ⟨Nat.le_of_ble_eq_true rfl, Nat.le_of_ble_eq_true rfl⟩) rfl hl.1 rfl (by first | exact Nat.le_of_ble_eq_true rfl | (simp only [List.map, hm_rf_cat, hm_ci, hm_cl, List.sum_cons, List.sum_nil] <;> decide)) dX6_set_24 ⟨Nat.le_of_ble_eq_true rfl, Nat.le_of_ble_eq_true rfl⟩ (fun H locs hI => ?_)
      refine lv_if_ne (tgt := 32) hx hb dX6_set_27 (by decide) (fun c => ?_) (fun c => ?_)
      · rw [if_neg c] at hf
        refine hm_aload_n hx hb dX6_set_32 rfl (lv_at hl 0 rfl) ?_
        obtain ⟨v10, ev10, hf⟩ := hm_b_s hf
        refine hm_get (ci := 6) (k := 5) (C := RX6) (T := TX6) (N := 16) hx hb hts hiX6 hown hK hI rfl (by decide) w1 (hm_gq_s ev10) dX6_set_33 ?_
        refine lv_sipush (v := (4096 : Int32)) hx hb dX6_set_36 (by decide) ?_
        refine lv_iload_n hx hb dX6_set_39 rfl (lv_at hl 1 rfl) ?_
        refine lv_imul hx hb dX6_set_40 ?_
        refine lv_bipush (v := (64 : Int32)) hx hb dX6_set_41 (by decide) ?_
        refine lv_iload_n hx hb dX6_set_43 rfl (lv_at hl 3 rfl) ?_
        refine lv_imul hx hb dX6_set_44 ?_
        refine lv_iadd hx hb dX6_set_45 ?_
        refine lv_iload_n hx hb dX6_set_46 rfl (lv_at hl 2 rfl) ?_
        refine lv_iadd hx hb dX6_set_47 ?_
        refine lv_iload hx hb dX6_set_48 (lv_at hl 4 rfl) ?_
        obtain ⟨h11, eh11, hf⟩ := hm_b_s hf
        refine hm_iast (kd := 0) (t0 := 0) hx hb hK hI rfl eh11 dX6_set_50 (fun H locs hI => ?_)
        refine lv_iconst (v := (1 : Int32)) hx hb dX6_set_51 (by decide) ?_
        exact hm_iret_e hf hx hb hr hlocks hK hI (Nat.le_of_ble_eq_true rfl) (Nat.le_of_ble_eq_true rfl) dX6_set_52
      · rw [if_pos c] at hf
        refine lv_iconst (v := (0 : Int32)) hx hb dX6_set_30 (by decide) ?_
        exact hm_iret_e hf hx hb hr hlocks hK hI (Nat.le_of_ble_eq_true rfl) (Nat.le_of_ble_eq_true rfl) dX6_set_31
/-! ==== X6_get: BlitBoardModel.get(III)I ==== -/
def fX6_get (t : Nat) (a1 : Int32) (a2 : Int32) (a3 : Int32) (h0 : hm_H) : Option (Int32 × hm_H) :=
  hm_b (hm_rc 6 h0 (some t)) fun b2 =>
  hm_b2 (fX6_isSurface b2 a1 h0) fun v3 h1 =>
  if v3 = 0 then
    some ((-1 : Int32), h1)
  else
    hm_b (hm_rc 6 h1 (some t)) fun b5 =>
    hm_b2 (fX6_isPlace b5 a1 ((a2).toInt64) ((a3).toInt64) h1) fun v6 h4 =>
    if v6 = 0 then
      some ((-1 : Int32), h4)
    else
      hm_b (hm_rc 6 h4 (some t)) fun b8 =>
      hm_b2 (fX6_dot b8 a1 ((a2).toInt64) ((a3).toInt64) h4) fun v9 h7 =>
      some (v9, h7)
set_option maxRecDepth 100000 in
set_option maxHeartbeats 8000000 in
theorem kX6_get (l : Launch) (D : va_G) (kA : Nat → ClassId) (t : Nat) (a1 : Int32) (a2 : Int32) (a3 : Int32) (h0 h' : hm_H) (r : Int32) (hf : fX6_get t a1 a2 a3 h0 = some (r, h')) : hm_C l yX6_get wsX6_get { frames := 2, cells := 0, slots := 0, locals := 50 } D vwCl kA (hm_ty kA) [.ref t, .int a1, .int a2, .int a3] h0 (some (.int r)) h' 0 0 := by
  refine Met.ofW (cc := cX6_get) (maxL := 4) (ret := (some .int)) (by decide) rfl ?_
  intro p e s m args below meth c s₁ B hml hv
  obtain ⟨hargs, hB⟩ := hv
  have hx := B.exec
  have hb := B.bytes
  have hr := B.returns
  have hts := atoms_spec (ws := wsX6_get) B.pre
  have hown : s.vm.findClass RX6 = some m.cls := findClass_of_methodNamed B.named
  have hlocks := B.notSynchronized
  have hK := hB.2
  have hI := hm_start hB
  rw [show entryFrame m args 4 = entryFrame m ([.ref t, .int a1, .int a2, .int a3] : List Value).toArray 4 from by rw [hargs]]
  have hl := lv_entry ([.ref t, .int a1, .int a2, .int a3]) (n := 4) (Nat.le_of_ble_eq_true rfl)
  rw [lg_entry_eq]
  generalize (lg_sl ([.ref t, .int a1, .int a2, .int a3]) ++ List.replicate (4 - (lg_sl ([.ref t, .int a1, .int a2, .int a3])).length) Slot.unset).toArray = ls at hl ⊢
  have hl : lv_has ls 4 [(0, va_rf (some t)), (1, .int a1), (2, .int a2), (3, .int a3)] := hl
  unfold fX6_get at hf
  refine hm_aload_n hx hb dX6_get_0 rfl (lv_at hl 0 rfl) ?_
  refine lv_iload_n hx hb dX6_get_1 rfl (lv_at hl 1 rfl) ?_
  obtain ⟨b2, eb2, hf⟩ := hm_b_s hf
  obtain ⟨v3, h1, eh1, hf⟩ := hm_b2_s hf
  refine hm_cV (As := [.int a1]) (rest := []) ⟨hx, hb, hml, hown, hts⟩ hK hI eb2 rfl rfl (kX6_isSurface l D kA b2 a1 h0 h1 v3 eh1) (cwV 1 hts gX6_get_X6_isSurface rfl rfl rfl (by decide +kernel) ⟨Nat.le_of_ble_eq_true rfl, Nat.le_of_ble_eq_true rfl⟩) rfl hl.1 rfl (by first | exact Nat.le_of_ble_eq_true rfl | (simp only [List.map, hm_rf_cat, hm_ci, hm_cl, List.sum_cons, List.sum_nil] <;> decide)) dX6_get_2 ⟨Nat.le_of_ble_eq_true rfl, Nat.le_of_ble_eq_true rfl⟩ (fun H locs hI => ?_)
  refine lv_if_eq (tgt := 32) hx hb dX6_get_5 (by decide) (fun c => ?_) (fun c => ?_)
  · rw [if_pos c] at hf
    refine lv_iconst (v := (-1 : Int32)) hx hb dX6_get_32 (by decide) ?_
    exact hm_iret_e hf hx hb hr hlocks hK hI (Nat.le_of_ble_eq_true rfl) (Nat.le_of_ble_eq_true rfl) dX6_get_33
  · rw [if_neg c] at hf
    refine hm_aload_n hx hb dX6_get_8 rfl (lv_at hl 0 rfl) ?_
    refine lv_iload_n hx hb dX6_get_9 rfl (lv_at hl 1 rfl) ?_
    refine lv_iload_n hx hb dX6_get_10 rfl (lv_at hl 2 rfl) ?_
    refine lv_i2l (v := (a2).toInt64) hx hb dX6_get_11 rfl ?_
    refine lv_iload_n hx hb dX6_get_12 rfl (lv_at hl 3 rfl) ?_
    refine lv_i2l (v := (a3).toInt64) hx hb dX6_get_13 rfl ?_
    obtain ⟨b5, eb5, hf⟩ := hm_b_s hf
    obtain ⟨v6, h4, eh4, hf⟩ := hm_b2_s hf
    refine hm_cV (As := [.int a1, .long ((a2).toInt64), .long ((a3).toInt64)]) (rest := []) ⟨hx, hb, hml, hown, hts⟩ hK hI eb5 rfl rfl (kX6_isPlace l D kA b5 a1 ((a2).toInt64) ((a3).toInt64) h1 h4 v6 eh4) (cwV 3 hts gX6_get_X6_isPlace rfl rfl rfl (by decide +kernel) ⟨Nat.le_of_ble_eq_true rfl, Nat.le_of_ble_eq_true rfl⟩) rfl hl.1 rfl (by first | exact Nat.le_of_ble_eq_true rfl | (simp only [List.map, hm_rf_cat, hm_ci, hm_cl, List.sum_cons, List.sum_nil] <;> decide)) dX6_get_14 ⟨Nat.le_of_ble_eq_true rfl, Nat.le_of_ble_eq_true rfl⟩ (fun H locs hI => ?_)
    refine lv_if_eq (tgt := 32) hx hb dX6_get_17 (by decide) (fun c => ?_) (fun c => ?_)
    · rw [if_pos c] at hf
      refine lv_iconst (v := (-1 : Int32)) hx hb dX6_get_32 (by decide) ?_
      exact hm_iret_e hf hx hb hr hlocks hK hI (Nat.le_of_ble_eq_true rfl) (Nat.le_of_ble_eq_true rfl) dX6_get_33
    · rw [if_neg c] at hf
      refine hm_aload_n hx hb dX6_get_20 rfl (lv_at hl 0 rfl) ?_
      refine lv_iload_n hx hb dX6_get_21 rfl (lv_at hl 1 rfl) ?_
      refine lv_iload_n hx hb dX6_get_22 rfl (lv_at hl 2 rfl) ?_
      refine lv_i2l (v := (a2).toInt64) hx hb dX6_get_23 rfl ?_
      refine lv_iload_n hx hb dX6_get_24 rfl (lv_at hl 3 rfl) ?_
      refine lv_i2l (v := (a3).toInt64) hx hb dX6_get_25 rfl ?_
      obtain ⟨b8, eb8, hf⟩ := hm_b_s hf
      obtain ⟨v9, h7, eh7, hf⟩ := hm_b2_s hf
      refine hm_cV (As := [.int a1, .long ((a2).toInt64), .long ((a3).toInt64)]) (rest := []) ⟨hx, hb, hml, hown, hts⟩ hK hI eb8 rfl rfl (kX6_dot l D kA b8 a1 ((a2).toInt64) ((a3).toInt64) h4 h7 v9 eh7) (cwV 3 hts gX6_get_X6_dot rfl rfl rfl (by decide +kernel) ⟨Nat.le_of_ble_eq_true rfl, Nat.le_of_ble_eq_true rfl⟩) rfl hl.1 rfl (by first | exact Nat.le_of_ble_eq_true rfl | (simp only [List.map, hm_rf_cat, hm_ci, hm_cl, List.sum_cons, List.sum_nil] <;> decide)) dX6_get_26 ⟨Nat.le_of_ble_eq_true rfl, Nat.le_of_ble_eq_true rfl⟩ (fun H locs hI => ?_)
      refine lv_goto (tgt := 33) hx hb dX6_get_29 (by decide) ?_
      exact hm_iret_e hf hx hb hr hlocks hK hI (Nat.le_of_ble_eq_true rfl) (Nat.le_of_ble_eq_true rfl) dX6_get_33
/-! ==== X6_told: BlitBoardModel.told(II)I ==== -/
def fX6_told (t : Nat) (a1 : Int32) (a2 : Int32) (h0 : hm_H) : Option (Int32 × hm_H) :=
  hm_b (hm_rc 6 h0 (some t)) fun b2 =>
  hm_b2 (fX6_isSurface b2 a1 h0) fun v3 h1 =>
  if v3 = 0 then
    some ((-1 : Int32), h1)
  else
    if a2 < 0 then
      some ((-1 : Int32), h1)
    else
      if a2 ≤ (6 : Int32) then
        if a2 = 0 then
          hm_b (hm_gq 6 1 h1 (some t)) fun v10 =>
          hm_b (hm_ai 0 h1 v10 a1) fun v11 =>
          some (v11, h1)
        else
          if a2 = (1 : Int32) then
            hm_b (hm_gq 6 2 h1 (some t)) fun v8 =>
            hm_b (hm_ai 0 h1 v8 a1) fun v9 =>
            some (v9, h1)
          else
            if a2 = (2 : Int32) then
              hm_b (hm_gq 6 3 h1 (some t)) fun v6 =>
              hm_b (hm_ai 0 h1 v6 a1) fun v7 =>
              some (v7, h1)
            else
              hm_b (hm_gq 6 4 h1 (some t)) fun v4 =>
              hm_b (hm_ai 0 h1 v4 ((((4 : Int32) * a1) + a2) - (3 : Int32))) fun v5 =>
              some (v5, h1)
      else
        some ((-1 : Int32), h1)
set_option maxRecDepth 100000 in
set_option maxHeartbeats 8000000 in
theorem kX6_told (l : Launch) (D : va_G) (kA : Nat → ClassId) (t : Nat) (a1 : Int32) (a2 : Int32) (h0 h' : hm_H) (r : Int32) (hf : fX6_told t a1 a2 h0 = some (r, h')) : hm_C l yX6_told wsX6_told { frames := 1, cells := 0, slots := 0, locals := 21 } D vwCl kA (hm_ty kA) [.ref t, .int a1, .int a2] h0 (some (.int r)) h' 0 0 := by
  refine Met.ofW (cc := cX6_told) (maxL := 3) (ret := (some .int)) (by decide) rfl ?_
  intro p e s m args below meth c s₁ B hml hv
  obtain ⟨hargs, hB⟩ := hv
  have hx := B.exec
  have hb := B.bytes
  have hr := B.returns
  have hts := atoms_spec (ws := wsX6_told) B.pre
  have hown : s.vm.findClass RX6 = some m.cls := findClass_of_methodNamed B.named
  have hlocks := B.notSynchronized
  have hK := hB.2
  have hI := hm_start hB
  have w1 := hts (.fieldLink RX6 19 "BlitBoardModel" "clips" "[I") (by decide +kernel)
  have w2 := hts (.fieldLink RX6 16 "BlitBoardModel" "highs" "[I") (by decide +kernel)
  have w3 := hts (.fieldLink RX6 13 "BlitBoardModel" "wides" "[I") (by decide +kernel)
  have w4 := hts (.fieldLink RX6 7 "BlitBoardModel" "depths" "[I") (by decide +kernel)
  have hiX6 : ∀ w ∈ wsX60, w ∈ wsX6_told := by decide +kernel
  rw [show entryFrame m args 3 = entryFrame m ([.ref t, .int a1, .int a2] : List Value).toArray 3 from by rw [hargs]]
  have hl := lv_entry ([.ref t, .int a1, .int a2]) (n := 3) (Nat.le_of_ble_eq_true rfl)
  rw [lg_entry_eq]
  generalize (lg_sl ([.ref t, .int a1, .int a2]) ++ List.replicate (3 - (lg_sl ([.ref t, .int a1, .int a2])).length) Slot.unset).toArray = ls at hl ⊢
  have hl : lv_has ls 3 [(0, va_rf (some t)), (1, .int a1), (2, .int a2)] := hl
  unfold fX6_told at hf
  refine hm_aload_n hx hb dX6_told_0 rfl (lv_at hl 0 rfl) ?_
  refine lv_iload_n hx hb dX6_told_1 rfl (lv_at hl 1 rfl) ?_
  obtain ⟨b2, eb2, hf⟩ := hm_b_s hf
  obtain ⟨v3, h1, eh1, hf⟩ := hm_b2_s hf
  refine hm_cV (As := [.int a1]) (rest := []) ⟨hx, hb, hml, hown, hts⟩ hK hI eb2 rfl rfl (kX6_isSurface l D kA b2 a1 h0 h1 v3 eh1) (cwV 1 hts gX6_told_X6_isSurface rfl rfl rfl (by decide +kernel) ⟨Nat.le_of_ble_eq_true rfl, Nat.le_of_ble_eq_true rfl⟩) rfl hl.1 rfl (by first | exact Nat.le_of_ble_eq_true rfl | (simp only [List.map, hm_rf_cat, hm_ci, hm_cl, List.sum_cons, List.sum_nil] <;> decide)) dX6_told_2 ⟨Nat.le_of_ble_eq_true rfl, Nat.le_of_ble_eq_true rfl⟩ (fun H locs hI => ?_)
  refine lv_if_eq (tgt := 18) hx hb dX6_told_5 (by decide) (fun c => ?_) (fun c => ?_)
  · rw [if_pos c] at hf
    refine lv_iconst (v := (-1 : Int32)) hx hb dX6_told_18 (by decide) ?_
    exact hm_iret_e hf hx hb hr hlocks hK hI (Nat.le_of_ble_eq_true rfl) (Nat.le_of_ble_eq_true rfl) dX6_told_19
  · rw [if_neg c] at hf
    refine lv_iload_n hx hb dX6_told_8 rfl (lv_at hl 2 rfl) ?_
    refine lv_if_lt (tgt := 18) hx hb dX6_told_9 (by decide) (fun c => ?_) (fun c => ?_)
    · rw [if_pos c] at hf
      refine lv_iconst (v := (-1 : Int32)) hx hb dX6_told_18 (by decide) ?_
      exact hm_iret_e hf hx hb hr hlocks hK hI (Nat.le_of_ble_eq_true rfl) (Nat.le_of_ble_eq_true rfl) dX6_told_19
    · rw [if_neg c] at hf
      refine lv_iload_n hx hb dX6_told_12 rfl (lv_at hl 2 rfl) ?_
      refine lv_bipush (v := (6 : Int32)) hx hb dX6_told_13 (by decide) ?_
      refine lv_icmp_le (tgt := 20) hx hb dX6_told_15 (by decide) (fun c => ?_) (fun c => ?_)
      · rw [if_pos c] at hf
        refine lv_iload_n hx hb dX6_told_20 rfl (lv_at hl 2 rfl) ?_
        refine lv_if_ne (tgt := 33) hx hb dX6_told_21 (by decide) (fun c => ?_) (fun c => ?_)
        · rw [if_neg c] at hf
          refine lv_iload_n hx hb dX6_told_33 rfl (lv_at hl 2 rfl) ?_
          refine lv_iconst (v := (1 : Int32)) hx hb dX6_told_34 (by decide) ?_
          refine lv_icmp_ne (tgt := 47) hx hb dX6_told_35 (by decide) (fun c => ?_) (fun c => ?_)
          · rw [if_neg c] at hf
            refine lv_iload_n hx hb dX6_told_47 rfl (lv_at hl 2 rfl) ?_
            refine lv_iconst (v := (2 : Int32)) hx hb dX6_told_48 (by decide) ?_
            refine lv_icmp_ne (tgt := 61) hx hb dX6_told_49 (by decide) (fun c => ?_) (fun c => ?_)
            · rw [if_neg c] at hf
              refine hm_aload_n hx hb dX6_told_61 rfl (lv_at hl 0 rfl) ?_
              obtain ⟨v4, ev4, hf⟩ := hm_b_s hf
              refine hm_get (ci := 6) (k := 4) (C := RX6) (T := TX6) (N := 16) hx hb hts hiX6 hown hK hI rfl (by decide) w1 (hm_gq_s ev4) dX6_told_62 ?_
              refine lv_iconst (v := (4 : Int32)) hx hb dX6_told_65 (by decide) ?_
              refine lv_iload_n hx hb dX6_told_66 rfl (lv_at hl 1 rfl) ?_
              refine lv_imul hx hb dX6_told_67 ?_
              refine lv_iload_n hx hb dX6_told_68 rfl (lv_at hl 2 rfl) ?_
              refine lv_iadd hx hb dX6_told_69 ?_
              refine lv_iconst (v := (3 : Int32)) hx hb dX6_told_70 (by decide) ?_
              refine lv_isub hx hb dX6_told_71 ?_
              obtain ⟨v5, ev5, hf⟩ := hm_b_s hf
              refine hm_iald (kd := 0) (t0 := 0) hx hb hK hI rfl ev5 dX6_told_72 ?_
              exact hm_iret_e hf hx hb hr hlocks hK hI (Nat.le_of_ble_eq_true rfl) (Nat.le_of_ble_eq_true rfl) dX6_told_73
            · rw [if_pos c] at hf
              refine hm_aload_n hx hb dX6_told_52 rfl (lv_at hl 0 rfl) ?_
              obtain ⟨v6, ev6, hf⟩ := hm_b_s hf
              refine hm_get (ci := 6) (k := 3) (C := RX6) (T := TX6) (N := 16) hx hb hts hiX6 hown hK hI rfl (by decide) w2 (hm_gq_s ev6) dX6_told_53 ?_
              refine lv_iload_n hx hb dX6_told_56 rfl (lv_at hl 1 rfl) ?_
              obtain ⟨v7, ev7, hf⟩ := hm_b_s hf
              refine hm_iald (kd := 0) (t0 := 0) hx hb hK hI rfl ev7 dX6_told_57 ?_
              refine lv_goto (tgt := 73) hx hb dX6_told_58 (by decide) ?_
              exact hm_iret_e hf hx hb hr hlocks hK hI (Nat.le_of_ble_eq_true rfl) (Nat.le_of_ble_eq_true rfl) dX6_told_73
          · rw [if_pos c] at hf
            refine hm_aload_n hx hb dX6_told_38 rfl (lv_at hl 0 rfl) ?_
            obtain ⟨v8, ev8, hf⟩ := hm_b_s hf
            refine hm_get (ci := 6) (k := 2) (C := RX6) (T := TX6) (N := 16) hx hb hts hiX6 hown hK hI rfl (by decide) w3 (hm_gq_s ev8) dX6_told_39 ?_
            refine lv_iload_n hx hb dX6_told_42 rfl (lv_at hl 1 rfl) ?_
            obtain ⟨v9, ev9, hf⟩ := hm_b_s hf
            refine hm_iald (kd := 0) (t0 := 0) hx hb hK hI rfl ev9 dX6_told_43 ?_
            refine lv_goto (tgt := 73) hx hb dX6_told_44 (by decide) ?_
            exact hm_iret_e hf hx hb hr hlocks hK hI (Nat.le_of_ble_eq_true rfl) (Nat.le_of_ble_eq_true rfl) dX6_told_73
        · rw [if_pos c] at hf
          refine hm_aload_n hx hb dX6_told_24 rfl (lv_at hl 0 rfl) ?_
          obtain ⟨v10, ev10, hf⟩ := hm_b_s hf
          refine hm_get (ci := 6) (k := 1) (C := RX6) (T := TX6) (N := 16) hx hb hts hiX6 hown hK hI rfl (by decide) w4 (hm_gq_s ev10) dX6_told_25 ?_
          refine lv_iload_n hx hb dX6_told_28 rfl (lv_at hl 1 rfl) ?_
          obtain ⟨v11, ev11, hf⟩ := hm_b_s hf
          refine hm_iald (kd := 0) (t0 := 0) hx hb hK hI rfl ev11 dX6_told_29 ?_
          refine lv_goto (tgt := 73) hx hb dX6_told_30 (by decide) ?_
          exact hm_iret_e hf hx hb hr hlocks hK hI (Nat.le_of_ble_eq_true rfl) (Nat.le_of_ble_eq_true rfl) dX6_told_73
      · rw [if_neg c] at hf
        refine lv_iconst (v := (-1 : Int32)) hx hb dX6_told_18 (by decide) ?_
        exact hm_iret_e hf hx hb hr hlocks hK hI (Nat.le_of_ble_eq_true rfl) (Nat.le_of_ble_eq_true rfl) dX6_told_19
/-! ==== X6_combined: BlitBoardModel.combined(III)I ==== -/
def fX6_combined_5 (K5 : Int32 → Int32 → Int32 → Int32 → Int32 → hm_H → Option (Int32 × hm_H)) (x0 : Int32) (x1 : Int32) (x2 : Int32) (x3 : Int32) (x4 : Int32) (h : hm_H) : Option (Int32 × hm_H) :=
  if (8 : Int32) ≤ x4 then
    some (x3, h)
  else
    hm_let (((2 : Int32) * ((x0 >>> (x4 &&& 31)) &&& (1 : Int32))) + ((x1 >>> (x4 &&& 31)) &&& (1 : Int32))) fun v1 =>
    hm_let (x3 ||| (((x2 >>> (v1 &&& 31)) &&& (1 : Int32)) <<< (x4 &&& 31))) fun v2 =>
    K5 x0 x1 x2 v2 (x4 + (1 : Int32)) h
def fX6_combined (a1 : Int32) (a2 : Int32) (a3 : Int32) (h0 : hm_H) : Option (Int32 × hm_H) :=
  hm_loop (fun _ _ _ _ _ _ => none) (fX6_combined_5) hm_fu a1 a2 a3 (0 : Int32) (0 : Int32) h0
set_option maxRecDepth 100000 in
set_option maxHeartbeats 8000000 in
theorem kX6_combined (l : Launch) (D : va_G) (kA : Nat → ClassId) (a1 : Int32) (a2 : Int32) (a3 : Int32) (h0 h' : hm_H) (r : Int32) (hf : fX6_combined a1 a2 a3 h0 = some (r, h')) : hm_C l yX6_combined wsX6_combined { frames := 0, cells := 0, slots := 0, locals := 0 } D vwCl kA (hm_ty kA) [.int a1, .int a2, .int a3] h0 (some (.int r)) h' 0 0 := by
  refine Met.ofW (cc := cX6_combined) (maxL := 6) (ret := (some .int)) (by decide) rfl ?_
  intro p e s m args below meth c s₁ B hml hv
  obtain ⟨hargs, hB⟩ := hv
  have hx := B.exec
  have hb := B.bytes
  have hr := B.returns
  have hts := atoms_spec (ws := wsX6_combined) B.pre
  have hown : s.vm.findClass RX6 = some m.cls := findClass_of_methodNamed B.named
  have hlocks := B.notSynchronized
  have hK := hB.2
  have hI := hm_start hB
  have B5 : ∀ (fu : Nat) (x0 : Int32) (x1 : Int32) (x2 : Int32) (x3 : Int32) (x4 : Int32) (h : hm_H), hm_loop (fun _ _ _ _ _ _ => none) (fX6_combined_5) fu x0 x1 x2 x3 x4 h = some (r, h') → ∀ (H : Heap) (locs : List Loc) (ls : Array Slot), hm_I D vwCl kA (hm_A h0) s.heap h H locs → lv_has ls 6 [(0, .int x0), (1, .int x1), (2, .int x2), (3, .int x3), (4, .int x4)] → W p l e (headSpec wsX6_combined { frames := 0, cells := 0, slots := 0, locals := 0 }).room s m args below meth c H locs 0 0 (MQ below (hm_Q D vwCl kA (hm_ty kA) h0 (some (.int r)) h') args s 0 0 (hm_A h0)) (F0 m 5 ls []) := by
    intro fu
    induction fu with
    | zero => intro x0 x1 x2 x3 x4 h hf; cases hf
    | succ fu ih5 =>
      rw [hm_loop_s]
      generalize hm_loop (fun _ _ _ _ _ _ => none) (fX6_combined_5) fu = K5 at ih5 ⊢
      intro x0 x1 x2 x3 x4 h hf H locs ls hI hl
      unfold fX6_combined_5 at hf
      refine lv_iload hx hb dX6_combined_5 (lv_at hl 4 rfl) ?_
      refine lv_bipush (v := (8 : Int32)) hx hb dX6_combined_7 (by decide) ?_
      refine lv_icmp_ge (tgt := 47) hx hb dX6_combined_9 (by decide) (fun c => ?_) (fun c => ?_)
      · rw [if_pos c] at hf
        refine lv_iload_n hx hb dX6_combined_47 rfl (lv_at hl 3 rfl) ?_
        exact hm_iret_e hf hx hb hr hlocks hK hI (Nat.le_of_ble_eq_true rfl) (Nat.le_of_ble_eq_true rfl) dX6_combined_48
      · rw [if_neg c] at hf
        refine lv_iconst (v := (2 : Int32)) hx hb dX6_combined_12 (by decide) ?_
        refine lv_iload_n hx hb dX6_combined_13 rfl (lv_at hl 0 rfl) ?_
        refine lv_iload hx hb dX6_combined_14 (lv_at hl 4 rfl) ?_
        refine lv_ishr hx hb dX6_combined_16 ?_
        refine lv_iconst (v := (1 : Int32)) hx hb dX6_combined_17 (by decide) ?_
        refine lv_iand hx hb dX6_combined_18 ?_
        refine lv_imul hx hb dX6_combined_19 ?_
        refine lv_iload_n hx hb dX6_combined_20 rfl (lv_at hl 1 rfl) ?_
        refine lv_iload hx hb dX6_combined_21 (lv_at hl 4 rfl) ?_
        refine lv_ishr hx hb dX6_combined_23 ?_
        refine lv_iconst (v := (1 : Int32)) hx hb dX6_combined_24 (by decide) ?_
        refine lv_iand hx hb dX6_combined_25 ?_
        refine lv_iadd hx hb dX6_combined_26 ?_
        obtain ⟨v1, ev1, hf⟩ := hm_let_s hf
        refine hm_ti ev1 ?_
        refine lv_istore (lv' := [(5, .int v1), (0, .int x0), (1, .int x1), (2, .int x2), (3, .int x3), (4, .int x4)]) hx hb dX6_combined_27 hl (by decide) rfl (fun ls hl => ?_)
        refine lv_iload_n hx hb dX6_combined_29 rfl (lv_at hl 4 rfl) ?_
        refine lv_iload_n hx hb dX6_combined_30 rfl (lv_at hl 3 rfl) ?_
        refine lv_iload hx hb dX6_combined_31 (lv_at hl 0 rfl) ?_
        refine lv_ishr hx hb dX6_combined_33 ?_
        refine lv_iconst (v := (1 : Int32)) hx hb dX6_combined_34 (by decide) ?_
        refine lv_iand hx hb dX6_combined_35 ?_
        refine lv_iload hx hb dX6_combined_36 (lv_at hl 5 rfl) ?_
        refine lv_ishl hx hb dX6_combined_38 ?_
        refine lv_ior hx hb dX6_combined_39 ?_
        obtain ⟨v2, ev2, hf⟩ := hm_let_s hf
        refine hm_ti ev2 ?_
        refine lv_istore_n (lv' := [(3, .int v2), (5, .int v1), (0, .int x0), (1, .int x1), (2, .int x2), (4, .int x4)]) hx hb dX6_combined_40 rfl hl (by decide) rfl (fun ls hl => ?_)
        refine lv_iinc (v := x4 + (1 : Int32)) (lv' := [(4, .int (x4 + (1 : Int32))), (3, .int v2), (5, .int v1), (0, .int x0), (1, .int x1), (2, .int x2)]) hx hb dX6_combined_41 hl (k := 5) rfl rfl (by decide) rfl (fun ls hl => ?_)
        refine lv_goto (tgt := 5) hx hb dX6_combined_44 (by decide) ?_
        exact ih5 x0 x1 x2 v2 (x4 + (1 : Int32)) h hf _ _ _ hI (lv_sub hl [3, 4, 5, 1, 0] rfl)
  rw [show entryFrame m args 6 = entryFrame m ([.int a1, .int a2, .int a3] : List Value).toArray 6 from by rw [hargs]]
  have hl := lv_entry ([.int a1, .int a2, .int a3]) (n := 6) (Nat.le_of_ble_eq_true rfl)
  rw [lg_entry_eq]
  generalize (lg_sl ([.int a1, .int a2, .int a3]) ++ List.replicate (6 - (lg_sl ([.int a1, .int a2, .int a3])).length) Slot.unset).toArray = ls at hl ⊢
  have hl : lv_has ls 6 [(0, .int a1), (1, .int a2), (2, .int a3)] := hl
  unfold fX6_combined at hf
  refine lv_iconst (v := (0 : Int32)) hx hb dX6_combined_0 (by decide) ?_
  refine lv_istore_n (lv' := [(3, .int (0 : Int32)), (0, .int a1), (1, .int a2), (2, .int a3)]) hx hb dX6_combined_1 rfl hl (by decide) rfl (fun ls hl => ?_)
  refine lv_iconst (v := (0 : Int32)) hx hb dX6_combined_2 (by decide) ?_
  refine lv_istore (lv' := [(4, .int (0 : Int32)), (3, .int (0 : Int32)), (0, .int a1), (1, .int a2), (2, .int a3)]) hx hb dX6_combined_3 hl (by decide) rfl (fun ls hl => ?_)
  exact B5 hm_fu a1 a2 a3 (0 : Int32) (0 : Int32) h0 hf _ _ _ hI (lv_sub hl [2, 3, 4, 1, 0] rfl)
/-! ==== X6_fitted: BlitBoardModel.fitted(II)I ==== -/
def fX6_fitted (t : Nat) (a1 : Int32) (a2 : Int32) (h0 : hm_H) : Option (Int32 × hm_H) :=
  hm_b (hm_gq 6 1 h0 (some t)) fun v1 =>
  hm_b (hm_ai 0 h0 v1 a1) fun v2 =>
  some (a2 &&& (((1 : Int32) <<< (v2 &&& 31)) - (1 : Int32)), h0)
set_option maxRecDepth 100000 in
set_option maxHeartbeats 8000000 in
theorem kX6_fitted (l : Launch) (D : va_G) (kA : Nat → ClassId) (t : Nat) (a1 : Int32) (a2 : Int32) (h0 h' : hm_H) (r : Int32) (hf : fX6_fitted t a1 a2 h0 = some (r, h')) : hm_C l yX6_fitted wsX6_fitted { frames := 0, cells := 0, slots := 0, locals := 0 } D vwCl kA (hm_ty kA) [.ref t, .int a1, .int a2] h0 (some (.int r)) h' 0 0 := by
  refine Met.ofW (cc := cX6_fitted) (maxL := 3) (ret := (some .int)) (by decide) rfl ?_
  intro p e s m args below meth c s₁ B hml hv
  obtain ⟨hargs, hB⟩ := hv
  have hx := B.exec
  have hb := B.bytes
  have hr := B.returns
  have hts := atoms_spec (ws := wsX6_fitted) B.pre
  have hown : s.vm.findClass RX6 = some m.cls := findClass_of_methodNamed B.named
  have hlocks := B.notSynchronized
  have hK := hB.2
  have hI := hm_start hB
  have w1 := hts (.fieldLink RX6 7 "BlitBoardModel" "depths" "[I") (by decide +kernel)
  have hiX6 : ∀ w ∈ wsX60, w ∈ wsX6_fitted := by decide +kernel
  rw [show entryFrame m args 3 = entryFrame m ([.ref t, .int a1, .int a2] : List Value).toArray 3 from by rw [hargs]]
  have hl := lv_entry ([.ref t, .int a1, .int a2]) (n := 3) (Nat.le_of_ble_eq_true rfl)
  rw [lg_entry_eq]
  generalize (lg_sl ([.ref t, .int a1, .int a2]) ++ List.replicate (3 - (lg_sl ([.ref t, .int a1, .int a2])).length) Slot.unset).toArray = ls at hl ⊢
  have hl : lv_has ls 3 [(0, va_rf (some t)), (1, .int a1), (2, .int a2)] := hl
  unfold fX6_fitted at hf
  refine lv_iload_n hx hb dX6_fitted_0 rfl (lv_at hl 2 rfl) ?_
  refine lv_iconst (v := (1 : Int32)) hx hb dX6_fitted_1 (by decide) ?_
  refine hm_aload_n hx hb dX6_fitted_2 rfl (lv_at hl 0 rfl) ?_
  obtain ⟨v1, ev1, hf⟩ := hm_b_s hf
  refine hm_get (ci := 6) (k := 1) (C := RX6) (T := TX6) (N := 16) hx hb hts hiX6 hown hK hI rfl (by decide) w1 (hm_gq_s ev1) dX6_fitted_3 ?_
  refine lv_iload_n hx hb dX6_fitted_6 rfl (lv_at hl 1 rfl) ?_
  obtain ⟨v2, ev2, hf⟩ := hm_b_s hf
  refine hm_iald (kd := 0) (t0 := 0) hx hb hK hI rfl ev2 dX6_fitted_7 ?_
  refine lv_ishl hx hb dX6_fitted_8 ?_
  refine lv_iconst (v := (1 : Int32)) hx hb dX6_fitted_9 (by decide) ?_
  refine lv_isub hx hb dX6_fitted_10 ?_
  refine lv_iand hx hb dX6_fitted_11 ?_
  exact hm_iret_e hf hx hb hr hlocks hK hI (Nat.le_of_ble_eq_true rfl) (Nat.le_of_ble_eq_true rfl) dX6_fitted_12
/-! ==== X6_fill: BlitBoardModel.fill(IIIIIII)I ==== -/
def fX6_fill_146 (K64 : Option Nat → Int32 → Int32 → Int32 → Int32 → Int32 → Int32 → Int32 → Int32 → Int32 → Int32 → hm_H → Option (Int32 × hm_H)) (x0 : Option Nat) (x1 : Int32) (x2 : Int32) (x3 : Int32) (x4 : Int32) (x5 : Int32) (x6 : Int32) (x7 : Int32) (x8 : Int32) (x9 : Int32) (x10 : Int32) (h : hm_H) : Option (Int32 × hm_H) :=
  K64 x0 x1 x2 x3 x4 x5 x6 x7 x8 x9 (x10 + (1 : Int32)) h
def fX6_fill_64 (K54 : Option Nat → Int32 → Int32 → Int32 → Int32 → Int32 → Int32 → Int32 → Int32 → Int32 → hm_H → Option (Int32 × hm_H)) (K64 : Option Nat → Int32 → Int32 → Int32 → Int32 → Int32 → Int32 → Int32 → Int32 → Int32 → Int32 → hm_H → Option (Int32 × hm_H)) (x0 : Option Nat) (x1 : Int32) (x2 : Int32) (x3 : Int32) (x4 : Int32) (x5 : Int32) (x6 : Int32) (x7 : Int32) (x8 : Int32) (x9 : Int32) (x10 : Int32) (h : hm_H) : Option (Int32 × hm_H) :=
  if x4 ≤ x10 then
    K54 x0 x1 x2 x3 x4 x5 x6 x7 x8 (x9 + (1 : Int32)) h
  else
    hm_let (((x2).toInt64) + ((x10).toInt64)) fun v11 =>
    hm_let (((x3).toInt64) + ((x9).toInt64)) fun v12 =>
    hm_b (hm_rc 6 h x0) fun b14 =>
    hm_b2 (fX6_isInClip b14 x1 v11 v12 h) fun v15 h13 =>
    if v15 = 0 then
      fX6_fill_146 K64 x0 x1 x2 x3 x4 x5 x6 x7 x8 x9 x10 h13
    else
      hm_let ((((4096 : Int32) * x1) + ((64 : Int32) * ((v12).toInt32))) + ((v11).toInt32)) fun v16 =>
      hm_b (hm_gq 6 5 h13 x0) fun v17 =>
      hm_b (hm_gq 6 5 h13 x0) fun v18 =>
      hm_b (hm_ai 0 h13 v18 v16) fun v19 =>
      hm_b2 (fX6_combined x6 v19 x7 h13) fun v21 h20 =>
      hm_b (hm_rc 6 h20 x0) fun b23 =>
      hm_b2 (fX6_fitted b23 x1 v21 h20) fun v24 h22 =>
      hm_b (hm_si 0 h22 v17 v16 v24) fun h25 =>
      fX6_fill_146 K64 x0 x1 x2 x3 x4 x5 x6 x7 (x8 + (1 : Int32)) x9 x10 h25
def fX6_fill_54 (K54 : Option Nat → Int32 → Int32 → Int32 → Int32 → Int32 → Int32 → Int32 → Int32 → Int32 → hm_H → Option (Int32 × hm_H)) (x0 : Option Nat) (x1 : Int32) (x2 : Int32) (x3 : Int32) (x4 : Int32) (x5 : Int32) (x6 : Int32) (x7 : Int32) (x8 : Int32) (x9 : Int32) (h : hm_H) : Option (Int32 × hm_H) :=
  if x5 ≤ x9 then
    some (x8, h)
  else
    hm_loop (fun _ _ _ _ _ _ _ _ _ _ _ _ => none) (fX6_fill_64 K54) hm_fu x0 x1 x2 x3 x4 x5 x6 x7 x8 x9 (0 : Int32) h
def fX6_fill (t : Nat) (a1 : Int32) (a2 : Int32) (a3 : Int32) (a4 : Int32) (a5 : Int32) (a6 : Int32) (a7 : Int32) (h0 : hm_H) : Option (Int32 × hm_H) :=
  hm_b (hm_rc 6 h0 (some t)) fun b2 =>
  hm_b2 (fX6_isSurface b2 a1 h0) fun v3 h1 =>
  if v3 = 0 then
    some ((-1 : Int32), h1)
  else
    if a7 < 0 then
      some ((-1 : Int32), h1)
    else
      if (15 : Int32) < a7 then
        some ((-1 : Int32), h1)
      else
        hm_b2 (fX6_isSpan a4 h1) fun v5 h4 =>
        if v5 = 0 then
          some ((-1 : Int32), h4)
        else
          hm_b2 (fX6_isSpan a5 h4) fun v7 h6 =>
          if v7 = 0 then
            some ((-1 : Int32), h6)
          else
            hm_b (hm_rc 6 h6 (some t)) fun b9 =>
            hm_b2 (fX6_fits b9 a1 a6 h6) fun v10 h8 =>
            if v10 = 0 then
              some ((-1 : Int32), h8)
            else
              hm_loop (fun _ _ _ _ _ _ _ _ _ _ _ => none) (fX6_fill_54) hm_fu (some t) a1 a2 a3 a4 a5 a6 a7 (0 : Int32) (0 : Int32) h8
set_option maxRecDepth 100000 in
set_option maxHeartbeats 8000000 in
theorem kX6_fill (l : Launch) (D : va_G) (kA : Nat → ClassId) (t : Nat) (a1 : Int32) (a2 : Int32) (a3 : Int32) (a4 : Int32) (a5 : Int32) (a6 : Int32) (a7 : Int32) (h0 h' : hm_H) (r : Int32) (hf : fX6_fill t a1 a2 a3 a4 a5 a6 a7 h0 = some (r, h')) : hm_C l yX6_fill wsX6_fill { frames := 1, cells := 0, slots := 0, locals := 26 } D vwCl kA (hm_ty kA) [.ref t, .int a1, .int a2, .int a3, .int a4, .int a5, .int a6, .int a7] h0 (some (.int r)) h' 0 0 := by
  refine Met.ofW (cc := cX6_fill) (maxL := 16) (ret := (some .int)) (by decide) rfl ?_
  intro p e s m args below meth c s₁ B hml hv
  obtain ⟨hargs, hB⟩ := hv
  have hx := B.exec
  have hb := B.bytes
  have hr := B.returns
  have hts := atoms_spec (ws := wsX6_fill) B.pre
  have hown : s.vm.findClass RX6 = some m.cls := findClass_of_methodNamed B.named
  have hlocks := B.notSynchronized
  have hK := hB.2
  have hI := hm_start hB
  have w1 := hts (.fieldLink RX6 23 "BlitBoardModel" "dots" "[I") (by decide +kernel)
  have hiX6 : ∀ w ∈ wsX60, w ∈ wsX6_fill := by decide +kernel
  have B54 : ∀ (fu : Nat) (x0 : Option Nat) (x1 : Int32) (x2 : Int32) (x3 : Int32) (x4 : Int32) (x5 : Int32) (x6 : Int32) (x7 : Int32) (x8 : Int32) (x9 : Int32) (h : hm_H), hm_loop (fun _ _ _ _ _ _ _ _ _ _ _ => none) (fX6_fill_54) fu x0 x1 x2 x3 x4 x5 x6 x7 x8 x9 h = some (r, h') → ∀ (H : Heap) (locs : List Loc) (ls : Array Slot), hm_I D vwCl kA (hm_A h0) s.heap h H locs → lv_has ls 16 [(0, va_rf x0), (1, .int x1), (2, .int x2), (3, .int x3), (4, .int x4), (5, .int x5), (6, .int x6), (7, .int x7), (8, .int x8), (9, .int x9)] → W p l e (headSpec wsX6_fill { frames := 1, cells := 0, slots := 0, locals := 26 }).room s m args below meth c H locs 0 0 (MQ below (hm_Q D vwCl kA (hm_ty kA) h0 (some (.int r)) h') args s 0 0 (hm_A h0)) (F0 m 54 ls []) := by
    intro fu
    induction fu with
    | zero => intro x0 x1 x2 x3 x4 x5 x6 x7 x8 x9 h hf; cases hf
    | succ fu ih54 =>
      rw [hm_loop_s]
      generalize hm_loop (fun _ _ _ _ _ _ _ _ _ _ _ => none) (fX6_fill_54) fu = K54 at ih54 ⊢
      have B64 : ∀ (fu : Nat) (x0 : Option Nat) (x1 : Int32) (x2 : Int32) (x3 : Int32) (x4 : Int32) (x5 : Int32) (x6 : Int32) (x7 : Int32) (x8 : Int32) (x9 : Int32) (x10 : Int32) (h : hm_H), hm_loop (fun _ _ _ _ _ _ _ _ _ _ _ _ => none) (fX6_fill_64 K54) fu x0 x1 x2 x3 x4 x5 x6 x7 x8 x9 x10 h = some (r, h') → ∀ (H : Heap) (locs : List Loc) (ls : Array Slot), hm_I D vwCl kA (hm_A h0) s.heap h H locs → lv_has ls 16 [(0, va_rf x0), (1, .int x1), (2, .int x2), (3, .int x3), (4, .int x4), (5, .int x5), (6, .int x6), (7, .int x7), (8, .int x8), (9, .int x9), (10, .int x10)] → W p l e (headSpec wsX6_fill { frames := 1, cells := 0, slots := 0, locals := 26 }).room s m args below meth c H locs 0 0 (MQ below (hm_Q D vwCl kA (hm_ty kA) h0 (some (.int r)) h') args s 0 0 (hm_A h0)) (F0 m 64 ls []) := by
        intro fu
        induction fu with
        | zero => intro x0 x1 x2 x3 x4 x5 x6 x7 x8 x9 x10 h hf; cases hf
        | succ fu ih64 =>
          rw [hm_loop_s]
          generalize hm_loop (fun _ _ _ _ _ _ _ _ _ _ _ _ => none) (fX6_fill_64 K54) fu = K64 at ih64 ⊢
          have B146 : ∀ (x0 : Option Nat) (x1 : Int32) (x2 : Int32) (x3 : Int32) (x4 : Int32) (x5 : Int32) (x6 : Int32) (x7 : Int32) (x8 : Int32) (x9 : Int32) (x10 : Int32) (h : hm_H), fX6_fill_146 K64 x0 x1 x2 x3 x4 x5 x6 x7 x8 x9 x10 h = some (r, h') → ∀ (H : Heap) (locs : List Loc) (ls : Array Slot), hm_I D vwCl kA (hm_A h0) s.heap h H locs → lv_has ls 16 [(0, va_rf x0), (1, .int x1), (2, .int x2), (3, .int x3), (4, .int x4), (5, .int x5), (6, .int x6), (7, .int x7), (8, .int x8), (9, .int x9), (10, .int x10)] → W p l e (headSpec wsX6_fill { frames := 1, cells := 0, slots := 0, locals := 26 }).room s m args below meth c H locs 0 0 (MQ below (hm_Q D vwCl kA (hm_ty kA) h0 (some (.int r)) h') args s 0 0 (hm_A h0)) (F0 m 146 ls []) := by
            intro x0 x1 x2 x3 x4 x5 x6 x7 x8 x9 x10 h hf H locs ls hI hl
            unfold fX6_fill_146 at hf
            refine lv_iinc (v := x10 + (1 : Int32)) (lv' := [(10, .int (x10 + (1 : Int32))), (0, va_rf x0), (1, .int x1), (2, .int x2), (3, .int x3), (4, .int x4), (5, .int x5), (6, .int x6), (7, .int x7), (8, .int x8), (9, .int x9)]) hx hb dX6_fill_146 hl (k := 10) rfl rfl (by decide) rfl (fun ls hl => ?_)
            refine lv_goto (tgt := 64) hx hb dX6_fill_149 (by decide) ?_
            exact ih64 x0 x1 x2 x3 x4 x5 x6 x7 x8 x9 (x10 + (1 : Int32)) h hf _ _ _ hI (lv_sub hl [1, 2, 3, 4, 5, 6, 7, 8, 9, 10, 0] rfl)
          intro x0 x1 x2 x3 x4 x5 x6 x7 x8 x9 x10 h hf H locs ls hI hl
          unfold fX6_fill_64 at hf
          refine lv_iload hx hb dX6_fill_64 (lv_at hl 10 rfl) ?_
          refine lv_iload hx hb dX6_fill_66 (lv_at hl 4 rfl) ?_
          refine lv_icmp_ge (tgt := 152) hx hb dX6_fill_68 (by decide) (fun c => ?_) (fun c => ?_)
          · rw [if_pos c] at hf
            refine lv_iinc (v := x9 + (1 : Int32)) (lv' := [(9, .int (x9 + (1 : Int32))), (0, va_rf x0), (1, .int x1), (2, .int x2), (3, .int x3), (4, .int x4), (5, .int x5), (6, .int x6), (7, .int x7), (8, .int x8), (10, .int x10)]) hx hb dX6_fill_152 hl (k := 9) rfl rfl (by decide) rfl (fun ls hl => ?_)
            refine lv_goto (tgt := 54) hx hb dX6_fill_155 (by decide) ?_
            exact ih54 x0 x1 x2 x3 x4 x5 x6 x7 x8 (x9 + (1 : Int32)) h hf _ _ _ hI (lv_sub hl [1, 2, 3, 4, 5, 6, 7, 8, 9, 0] rfl)
          · rw [if_neg c] at hf
            refine lv_iload_n hx hb dX6_fill_71 rfl (lv_at hl 2 rfl) ?_
            refine lv_i2l (v := (x2).toInt64) hx hb dX6_fill_72 rfl ?_
            refine lv_iload hx hb dX6_fill_73 (lv_at hl 10 rfl) ?_
            refine lv_i2l (v := (x10).toInt64) hx hb dX6_fill_75 rfl ?_
            refine lv_ladd hx hb dX6_fill_76 ?_
            obtain ⟨v11, ev11, hf⟩ := hm_let_s hf
            refine hm_tj ev11 ?_
            refine lv_lstore (lv' := [(11, .long v11), (0, va_rf x0), (1, .int x1), (2, .int x2), (3, .int x3), (4, .int x4), (5, .int x5), (6, .int x6), (7, .int x7), (8, .int x8), (9, .int x9), (10, .int x10)]) hx hb dX6_fill_77 hl (by decide) rfl (fun ls hl => ?_)
            refine lv_iload_n hx hb dX6_fill_79 rfl (lv_at hl 4 rfl) ?_
            refine lv_i2l (v := (x3).toInt64) hx hb dX6_fill_80 rfl ?_
            refine lv_iload hx hb dX6_fill_81 (lv_at hl 10 rfl) ?_
            refine lv_i2l (v := (x9).toInt64) hx hb dX6_fill_83 rfl ?_
            refine lv_ladd hx hb dX6_fill_84 ?_
            obtain ⟨v12, ev12, hf⟩ := hm_let_s hf
            refine hm_tj ev12 ?_
            refine lv_lstore (lv' := [(13, .long v12), (11, .long v11), (0, va_rf x0), (1, .int x1), (2, .int x2), (3, .int x3), (4, .int x4), (5, .int x5), (6, .int x6), (7, .int x7), (8, .int x8), (9, .int x9), (10, .int x10)]) hx hb dX6_fill_85 hl (by decide) rfl (fun ls hl => ?_)
            refine hm_aload_n hx hb dX6_fill_87 rfl (lv_at hl 2 rfl) ?_
            refine lv_iload_n hx hb dX6_fill_88 rfl (lv_at hl 3 rfl) ?_
            refine lv_lload hx hb dX6_fill_89 (lv_at hl 1 rfl) ?_
            refine lv_lload hx hb dX6_fill_91 (lv_at hl 0 rfl) ?_
            obtain ⟨b14, eb14, hf⟩ := hm_b_s hf
            obtain ⟨v15, h13, eh13, hf⟩ := hm_b2_s hf
            refine hm_cV (As := [.int x1, .long v11, .long v12]) (rest := []) ⟨hx, hb, hml, hown, hts⟩ hK hI eb14 rfl rfl (kX6_isInClip l D kA b14 x1 v11 v12 h h13 v15 eh13) (cwV 3 hts gX6_fill_X6_isInClip rfl rfl rfl (by decide +kernel) ⟨Nat.le_of_ble_eq_true rfl, Nat.le_of_ble_eq_true rfl⟩) rfl hl.1 rfl (by first | exact Nat.le_of_ble_eq_true rfl | (simp only [List.map, hm_rf_cat, hm_ci, hm_cl, List.sum_cons, List.sum_nil] <;> decide)) dX6_fill_93 ⟨Nat.le_of_ble_eq_true rfl, Nat.le_of_ble_eq_true rfl⟩ (fun H locs hI => ?_)
            refine lv_if_eq (tgt := 146) hx hb dX6_fill_96 (by decide) (fun c => ?_) (fun c => ?_)
            · rw [if_pos c] at hf
              exact B146 x0 x1 x2 x3 x4 x5 x6 x7 x8 x9 x10 h13 hf _ _ _ hI (lv_sub hl [2, 3, 4, 5, 6, 7, 8, 9, 10, 11, 12] rfl)
            · rw [if_neg c] at hf
              refine lv_sipush (v := (4096 : Int32)) hx hb dX6_fill_99 (by decide) ?_
              refine lv_iload_n hx hb dX6_fill_102 rfl (lv_at hl 3 rfl) ?_
              refine lv_imul hx hb dX6_fill_103 ?_
              refine lv_bipush (v := (64 : Int32)) hx hb dX6_fill_104 (by decide) ?_
              refine lv_lload hx hb dX6_fill_106 (lv_at hl 0 rfl) ?_
              refine lv_l2i (v := (v12).toInt32) hx hb dX6_fill_108 rfl ?_
              refine lv_imul hx hb dX6_fill_109 ?_
              refine lv_iadd hx hb dX6_fill_110 ?_
              refine lv_lload hx hb dX6_fill_111 (lv_at hl 1 rfl) ?_
              refine lv_l2i (v := (v11).toInt32) hx hb dX6_fill_113 rfl ?_
              refine lv_iadd hx hb dX6_fill_114 ?_
              obtain ⟨v16, ev16, hf⟩ := hm_let_s hf
              refine hm_ti ev16 ?_
              refine lv_istore (lv' := [(15, .int v16), (13, .long v12), (11, .long v11), (0, va_rf x0), (1, .int x1), (2, .int x2), (3, .int x3), (4, .int x4), (5, .int x5), (6, .int x6), (7, .int x7), (8, .int x8), (9, .int x9), (10, .int x10)]) hx hb dX6_fill_115 hl (by decide) rfl (fun ls hl => ?_)
              refine hm_aload_n hx hb dX6_fill_117 rfl (lv_at hl 3 rfl) ?_
              obtain ⟨v17, ev17, hf⟩ := hm_b_s hf
              refine hm_get (ci := 6) (k := 5) (C := RX6) (T := TX6) (N := 16) hx hb hts hiX6 hown hK hI rfl (by decide) w1 (hm_gq_s ev17) dX6_fill_118 ?_
              refine lv_iload hx hb dX6_fill_121 (lv_at hl 0 rfl) ?_
              refine hm_aload_n hx hb dX6_fill_123 rfl (lv_at hl 3 rfl) ?_
              refine lv_iload_n hx hb dX6_fill_124 rfl (lv_at hl 4 rfl) ?_
              refine lv_iload hx hb dX6_fill_125 (lv_at hl 9 rfl) ?_
              refine hm_aload_n hx hb dX6_fill_127 rfl (lv_at hl 3 rfl) ?_
              obtain ⟨v18, ev18, hf⟩ := hm_b_s hf
              refine hm_get (ci := 6) (k := 5) (C := RX6) (T := TX6) (N := 16) hx hb hts hiX6 hown hK hI rfl (by decide) w1 (hm_gq_s ev18) dX6_fill_128 ?_
              refine lv_iload hx hb dX6_fill_131 (lv_at hl 0 rfl) ?_
              obtain ⟨v19, ev19, hf⟩ := hm_b_s hf
              refine hm_iald (kd := 0) (t0 := 0) hx hb hK hI rfl ev19 dX6_fill_133 ?_
              refine lv_iload hx hb dX6_fill_134 (lv_at hl 10 rfl) ?_
              obtain ⟨v21, h20, eh20, hf⟩ := hm_b2_s hf
              refine hm_cS (As := [.int x6, .int v19, .int x7]) (rest := [.int x1, va_rf x0, .int v16, va_rf v17]) ⟨hx, hb, hml, hown, hts⟩ hK hI (kX6_combined l D kA x6 v19 x7 h13 h20 v21 eh20) (va_cwS 3 hts gX6_fill_X6_combined rfl rfl rfl (by decide +kernel) ⟨Nat.le_of_ble_eq_true rfl, Nat.le_of_ble_eq_true rfl⟩) rfl hl.1 rfl (by first | exact Nat.le_of_ble_eq_true rfl | (simp only [List.map, hm_rf_cat, hm_ci, hm_cl, List.sum_cons, List.sum_nil] <;> decide)) dX6_fill_136 ⟨Nat.le_of_ble_eq_true rfl, Nat.le_of_ble_eq_true rfl⟩ (fun H locs hI => ?_)
              obtain ⟨b23, eb23, hf⟩ := hm_b_s hf
              obtain ⟨v24, h22, eh22, hf⟩ := hm_b2_s hf
              refine hm_cV (As := [.int x1, .int v21]) (rest := [.int v16, va_rf v17]) ⟨hx, hb, hml, hown, hts⟩ hK hI eb23 rfl rfl (kX6_fitted l D kA b23 x1 v21 h20 h22 v24 eh22) (cwV 2 hts gX6_fill_X6_fitted rfl rfl rfl (by decide +kernel) ⟨Nat.le_of_ble_eq_true rfl, Nat.le_of_ble_eq_true rfl⟩) rfl hl.1 rfl (by first | exact Nat.le_of_ble_eq_true rfl | (simp only [List.map, hm_rf_cat, hm_ci, hm_cl, List.sum_cons, List.sum_nil] <;> decide)) dX6_fill_139 ⟨Nat.le_of_ble_eq_true rfl, Nat.le_of_ble_eq_true rfl⟩ (fun H locs hI => ?_)
              obtain ⟨h25, eh25, hf⟩ := hm_b_s hf
              refine hm_iast (kd := 0) (t0 := 0) hx hb hK hI rfl eh25 dX6_fill_142 (fun H locs hI => ?_)
              refine lv_iinc (v := x8 + (1 : Int32)) (lv' := [(8, .int (x8 + (1 : Int32))), (15, .int v16), (13, .long v12), (11, .long v11), (0, va_rf x0), (1, .int x1), (2, .int x2), (3, .int x3), (4, .int x4), (5, .int x5), (6, .int x6), (7, .int x7), (9, .int x9), (10, .int x10)]) hx hb dX6_fill_143 hl (k := 11) rfl rfl (by decide) rfl (fun ls hl => ?_)
              exact B146 x0 x1 x2 x3 x4 x5 x6 x7 (x8 + (1 : Int32)) x9 x10 h25 hf _ _ _ hI (lv_sub hl [4, 5, 6, 7, 8, 9, 10, 11, 0, 12, 13] rfl)
      intro x0 x1 x2 x3 x4 x5 x6 x7 x8 x9 h hf H locs ls hI hl
      unfold fX6_fill_54 at hf
      refine lv_iload hx hb dX6_fill_54 (lv_at hl 9 rfl) ?_
      refine lv_iload hx hb dX6_fill_56 (lv_at hl 5 rfl) ?_
      refine lv_icmp_ge (tgt := 158) hx hb dX6_fill_58 (by decide) (fun c => ?_) (fun c => ?_)
      · rw [if_pos c] at hf
        refine lv_iload hx hb dX6_fill_158 (lv_at hl 8 rfl) ?_
        exact hm_iret_e hf hx hb hr hlocks hK hI (Nat.le_of_ble_eq_true rfl) (Nat.le_of_ble_eq_true rfl) dX6_fill_160
      · rw [if_neg c] at hf
        refine lv_iconst (v := (0 : Int32)) hx hb dX6_fill_61 (by decide) ?_
        refine lv_istore (lv' := [(10, .int (0 : Int32)), (0, va_rf x0), (1, .int x1), (2, .int x2), (3, .int x3), (4, .int x4), (5, .int x5), (6, .int x6), (7, .int x7), (8, .int x8), (9, .int x9)]) hx hb dX6_fill_62 hl (by decide) rfl (fun ls hl => ?_)
        exact B64 hm_fu x0 x1 x2 x3 x4 x5 x6 x7 x8 x9 (0 : Int32) h hf _ _ _ hI (lv_sub hl [1, 2, 3, 4, 5, 6, 7, 8, 9, 10, 0] rfl)
  rw [show entryFrame m args 16 = entryFrame m ([.ref t, .int a1, .int a2, .int a3, .int a4, .int a5, .int a6, .int a7] : List Value).toArray 16 from by rw [hargs]]
  have hl := lv_entry ([.ref t, .int a1, .int a2, .int a3, .int a4, .int a5, .int a6, .int a7]) (n := 16) (Nat.le_of_ble_eq_true rfl)
  rw [lg_entry_eq]
  generalize (lg_sl ([.ref t, .int a1, .int a2, .int a3, .int a4, .int a5, .int a6, .int a7]) ++ List.replicate (16 - (lg_sl ([.ref t, .int a1, .int a2, .int a3, .int a4, .int a5, .int a6, .int a7])).length) Slot.unset).toArray = ls at hl ⊢
  have hl : lv_has ls 16 [(0, va_rf (some t)), (1, .int a1), (2, .int a2), (3, .int a3), (4, .int a4), (5, .int a5), (6, .int a6), (7, .int a7)] := hl
  unfold fX6_fill at hf
  refine hm_aload_n hx hb dX6_fill_0 rfl (lv_at hl 0 rfl) ?_
  refine lv_iload_n hx hb dX6_fill_1 rfl (lv_at hl 1 rfl) ?_
  obtain ⟨b2, eb2, hf⟩ := hm_b_s hf
  obtain ⟨v3, h1, eh1, hf⟩ := hm_b2_s hf
  refine hm_cV (As := [.int a1]) (rest := []) ⟨hx, hb, hml, hown, hts⟩ hK hI eb2 rfl rfl (kX6_isSurface l D kA b2 a1 h0 h1 v3 eh1) (cwV 1 hts gX6_fill_X6_isSurface rfl rfl rfl (by decide +kernel) ⟨Nat.le_of_ble_eq_true rfl, Nat.le_of_ble_eq_true rfl⟩) rfl hl.1 rfl (by first | exact Nat.le_of_ble_eq_true rfl | (simp only [List.map, hm_rf_cat, hm_ci, hm_cl, List.sum_cons, List.sum_nil] <;> decide)) dX6_fill_2 ⟨Nat.le_of_ble_eq_true rfl, Nat.le_of_ble_eq_true rfl⟩ (fun H locs hI => ?_)
  refine lv_if_eq (tgt := 46) hx hb dX6_fill_5 (by decide) (fun c => ?_) (fun c => ?_)
  · rw [if_pos c] at hf
    refine lv_iconst (v := (-1 : Int32)) hx hb dX6_fill_46 (by decide) ?_
    exact hm_iret_e hf hx hb hr hlocks hK hI (Nat.le_of_ble_eq_true rfl) (Nat.le_of_ble_eq_true rfl) dX6_fill_47
  · rw [if_neg c] at hf
    refine lv_iload hx hb dX6_fill_8 (lv_at hl 7 rfl) ?_
    refine lv_if_lt (tgt := 46) hx hb dX6_fill_10 (by decide) (fun c => ?_) (fun c => ?_)
    · rw [if_pos c] at hf
      refine lv_iconst (v := (-1 : Int32)) hx hb dX6_fill_46 (by decide) ?_
      exact hm_iret_e hf hx hb hr hlocks hK hI (Nat.le_of_ble_eq_true rfl) (Nat.le_of_ble_eq_true rfl) dX6_fill_47
    · rw [if_neg c] at hf
      refine lv_iload hx hb dX6_fill_13 (lv_at hl 7 rfl) ?_
      refine lv_bipush (v := (15 : Int32)) hx hb dX6_fill_15 (by decide) ?_
      refine lv_icmp_gt (tgt := 46) hx hb dX6_fill_17 (by decide) (fun c => ?_) (fun c => ?_)
      · rw [if_pos c] at hf
        refine lv_iconst (v := (-1 : Int32)) hx hb dX6_fill_46 (by decide) ?_
        exact hm_iret_e hf hx hb hr hlocks hK hI (Nat.le_of_ble_eq_true rfl) (Nat.le_of_ble_eq_true rfl) dX6_fill_47
      · rw [if_neg c] at hf
        refine lv_iload hx hb dX6_fill_20 (lv_at hl 4 rfl) ?_
        obtain ⟨v5, h4, eh4, hf⟩ := hm_b2_s hf
        refine hm_cS (As := [.int a4]) (rest := []) ⟨hx, hb, hml, hown, hts⟩ hK hI (kX6_isSpan l D kA a4 h1 h4 v5 eh4) (va_cwS 1 hts gX6_fill_X6_isSpan rfl rfl rfl (by decide +kernel) ⟨Nat.le_of_ble_eq_true rfl, Nat.le_of_ble_eq_true rfl⟩) rfl hl.1 rfl (by first | exact Nat.le_of_ble_eq_true rfl | (simp only [List.map, hm_rf_cat, hm_ci, hm_cl, List.sum_cons, List.sum_nil] <;> decide)) dX6_fill_22 ⟨Nat.le_of_ble_eq_true rfl, Nat.le_of_ble_eq_true rfl⟩ (fun H locs hI => ?_)
        refine lv_if_eq (tgt := 46) hx hb dX6_fill_25 (by decide) (fun c => ?_) (fun c => ?_)
        · rw [if_pos c] at hf
          refine lv_iconst (v := (-1 : Int32)) hx hb dX6_fill_46 (by decide) ?_
          exact hm_iret_e hf hx hb hr hlocks hK hI (Nat.le_of_ble_eq_true rfl) (Nat.le_of_ble_eq_true rfl) dX6_fill_47
        · rw [if_neg c] at hf
          refine lv_iload hx hb dX6_fill_28 (lv_at hl 5 rfl) ?_
          obtain ⟨v7, h6, eh6, hf⟩ := hm_b2_s hf
          refine hm_cS (As := [.int a5]) (rest := []) ⟨hx, hb, hml, hown, hts⟩ hK hI (kX6_isSpan l D kA a5 h4 h6 v7 eh6) (va_cwS 1 hts gX6_fill_X6_isSpan rfl rfl rfl (by decide +kernel) ⟨Nat.le_of_ble_eq_true rfl, Nat.le_of_ble_eq_true rfl⟩) rfl hl.1 rfl (by first | exact Nat.le_of_ble_eq_true rfl | (simp only [List.map, hm_rf_cat, hm_ci, hm_cl, List.sum_cons, List.sum_nil] <;> decide)) dX6_fill_30 ⟨Nat.le_of_ble_eq_true rfl, Nat.le_of_ble_eq_true rfl⟩ (fun H locs hI => ?_)
          refine lv_if_eq (tgt := 46) hx hb dX6_fill_33 (by decide) (fun c => ?_) (fun c => ?_)
          · rw [if_pos c] at hf
            refine lv_iconst (v := (-1 : Int32)) hx hb dX6_fill_46 (by decide) ?_
            exact hm_iret_e hf hx hb hr hlocks hK hI (Nat.le_of_ble_eq_true rfl) (Nat.le_of_ble_eq_true rfl) dX6_fill_47
          · rw [if_neg c] at hf
            refine hm_aload_n hx hb dX6_fill_36 rfl (lv_at hl 0 rfl) ?_
            refine lv_iload_n hx hb dX6_fill_37 rfl (lv_at hl 1 rfl) ?_
            refine lv_iload hx hb dX6_fill_38 (lv_at hl 6 rfl) ?_
            obtain ⟨b9, eb9, hf⟩ := hm_b_s hf
            obtain ⟨v10, h8, eh8, hf⟩ := hm_b2_s hf
            refine hm_cV (As := [.int a1, .int a6]) (rest := []) ⟨hx, hb, hml, hown, hts⟩ hK hI eb9 rfl rfl (kX6_fits l D kA b9 a1 a6 h6 h8 v10 eh8) (cwV 2 hts gX6_fill_X6_fits rfl rfl rfl (by decide +kernel) ⟨Nat.le_of_ble_eq_true rfl, Nat.le_of_ble_eq_true rfl⟩) rfl hl.1 rfl (by first | exact Nat.le_of_ble_eq_true rfl | (simp only [List.map, hm_rf_cat, hm_ci, hm_cl, List.sum_cons, List.sum_nil] <;> decide)) dX6_fill_40 ⟨Nat.le_of_ble_eq_true rfl, Nat.le_of_ble_eq_true rfl⟩ (fun H locs hI => ?_)
            refine lv_if_ne (tgt := 48) hx hb dX6_fill_43 (by decide) (fun c => ?_) (fun c => ?_)
            · rw [if_neg c] at hf
              refine lv_iconst (v := (0 : Int32)) hx hb dX6_fill_48 (by decide) ?_
              refine lv_istore (lv' := [(8, .int (0 : Int32)), (0, va_rf (some t)), (1, .int a1), (2, .int a2), (3, .int a3), (4, .int a4), (5, .int a5), (6, .int a6), (7, .int a7)]) hx hb dX6_fill_49 hl (by decide) rfl (fun ls hl => ?_)
              refine lv_iconst (v := (0 : Int32)) hx hb dX6_fill_51 (by decide) ?_
              refine lv_istore (lv' := [(9, .int (0 : Int32)), (8, .int (0 : Int32)), (0, va_rf (some t)), (1, .int a1), (2, .int a2), (3, .int a3), (4, .int a4), (5, .int a5), (6, .int a6), (7, .int a7)]) hx hb dX6_fill_52 hl (by decide) rfl (fun ls hl => ?_)
              exact B54 hm_fu (some t) a1 a2 a3 a4 a5 a6 a7 (0 : Int32) (0 : Int32) h8 hf _ _ _ hI (lv_sub hl [2, 3, 4, 5, 6, 7, 8, 9, 1, 0] rfl)
            · rw [if_pos c] at hf
              refine lv_iconst (v := (-1 : Int32)) hx hb dX6_fill_46 (by decide) ?_
              exact hm_iret_e hf hx hb hr hlocks hK hI (Nat.le_of_ble_eq_true rfl) (Nat.le_of_ble_eq_true rfl) dX6_fill_47
/-! ==== X6_bring: BlitBoardModel.bring(IIIIIIIIIII)I ==== -/
def fX6_bring_325 (K270 : Option Nat → Int32 → Int32 → Int32 → hm_H → Option (Int32 × hm_H)) (x0 : Option Nat) (x6 : Int32) (x12 : Int32) (x13 : Int32) (s0 : Int32) (s1 : Int32) (s2 : Option Nat) (h : hm_H) : Option (Int32 × hm_H) :=
  hm_b (hm_si 0 h s2 s1 s0) fun h30 =>
  K270 x0 x6 x12 (x13 + (1 : Int32)) h30
def fX6_bring_270 (K270 : Option Nat → Int32 → Int32 → Int32 → hm_H → Option (Int32 × hm_H)) (x0 : Option Nat) (x6 : Int32) (x12 : Int32) (x13 : Int32) (h : hm_H) : Option (Int32 × hm_H) :=
  if (4096 : Int32) ≤ x13 then
    some (x12, h)
  else
    hm_b (hm_gq 6 5 h x0) fun v3 =>
    hm_b (hm_gq 6 7 h x0) fun v4 =>
    hm_b (hm_ai 1 h v4 x13) fun v5 =>
    if v5 = 0 then
      hm_b (hm_gq 6 5 h x0) fun v6 =>
      hm_b (hm_ai 0 h v6 (((4096 : Int32) * x6) + x13)) fun v7 =>
      fX6_bring_325 K270 x0 x6 x12 x13 v7 (((4096 : Int32) * x6) + x13) v3 h
    else
      hm_b (hm_gq 6 6 h x0) fun v8 =>
      hm_b (hm_ai 0 h v8 x13) fun v9 =>
      fX6_bring_325 K270 x0 x6 x12 x13 v9 (((4096 : Int32) * x6) + x13) v3 h
def fX6_bring_255 (K41 : Option Nat → Int32 → Int32 → Int32 → Int32 → Int32 → Int32 → Int32 → Int32 → Int32 → Int32 → Int32 → Int32 → Int32 → Int32 → hm_H → Option (Int32 × hm_H)) (x0 : Option Nat) (x1 : Int32) (x2 : Int32) (x3 : Int32) (x4 : Int32) (x5 : Int32) (x6 : Int32) (x7 : Int32) (x8 : Int32) (x9 : Int32) (x10 : Int32) (x11 : Int32) (x12 : Int32) (x13 : Int32) (x14 : Int32) (h : hm_H) : Option (Int32 × hm_H) :=
  K41 x0 x1 x2 x3 x4 x5 x6 x7 x8 x9 x10 x11 x12 x13 (x14 + (1 : Int32)) h
def fX6_bring_254 (K41 : Option Nat → Int32 → Int32 → Int32 → Int32 → Int32 → Int32 → Int32 → Int32 → Int32 → Int32 → Int32 → Int32 → Int32 → Int32 → hm_H → Option (Int32 × hm_H)) (x0 : Option Nat) (x1 : Int32) (x2 : Int32) (x3 : Int32) (x4 : Int32) (x5 : Int32) (x6 : Int32) (x7 : Int32) (x8 : Int32) (x9 : Int32) (x10 : Int32) (x11 : Int32) (x12 : Int32) (x13 : Int32) (x14 : Int32) (s0 : Int32) (s1 : Int32) (s2 : Option Nat) (h : hm_H) : Option (Int32 × hm_H) :=
  hm_b (hm_si 0 h s2 s1 s0) fun h38 =>
  fX6_bring_255 K41 x0 x1 x2 x3 x4 x5 x6 x7 x8 x9 x10 x11 x12 x13 x14 h38
def fX6_bring_201 (K41 : Option Nat → Int32 → Int32 → Int32 → Int32 → Int32 → Int32 → Int32 → Int32 → Int32 → Int32 → Int32 → Int32 → Int32 → Int32 → hm_H → Option (Int32 × hm_H)) (x0 : Option Nat) (x1 : Int32) (x2 : Int32) (x3 : Int32) (x4 : Int32) (x5 : Int32) (x6 : Int32) (x7 : Int32) (x8 : Int32) (x9 : Int32) (x10 : Int32) (x11 : Int32) (x12 : Int32) (x13 : Int32) (x14 : Int32) (x23 : Int32) (x24 : Int32) (x25 : Int32) (s0 : Int32) (s1 : Int32) (s2 : Option Nat) (h : hm_H) : Option (Int32 × hm_H) :=
  hm_b (hm_si 1 h s2 s1 (vp_nar .boolean s0)) fun h31 =>
  hm_b (hm_gq 6 6 h31 x0) fun v32 =>
  if x9 = 0 then
    hm_b2 (fX6_combined x24 x25 x10 h31) fun v34 h33 =>
    hm_b (hm_rc 6 h33 x0) fun b36 =>
    hm_b2 (fX6_fitted b36 x6 v34 h33) fun v37 h35 =>
    fX6_bring_254 K41 x0 x1 x2 x3 x4 x5 x6 x7 x8 x9 x10 x11 x12 x13 x14 v37 x23 v32 h35
  else
    if x9 = (3 : Int32) then
      if x24 = 0 then
        fX6_bring_254 K41 x0 x1 x2 x3 x4 x5 x6 x7 x8 x9 x10 x11 x12 x13 x14 x10 x23 v32 h31
      else
        fX6_bring_254 K41 x0 x1 x2 x3 x4 x5 x6 x7 x8 x9 x10 x11 x12 x13 x14 x11 x23 v32 h31
    else
      fX6_bring_254 K41 x0 x1 x2 x3 x4 x5 x6 x7 x8 x9 x10 x11 x12 x13 x14 x24 x23 v32 h31
def fX6_bring_196 (K41 : Option Nat → Int32 → Int32 → Int32 → Int32 → Int32 → Int32 → Int32 → Int32 → Int32 → Int32 → Int32 → Int32 → Int32 → Int32 → hm_H → Option (Int32 × hm_H)) (x0 : Option Nat) (x1 : Int32) (x2 : Int32) (x3 : Int32) (x4 : Int32) (x5 : Int32) (x6 : Int32) (x7 : Int32) (x8 : Int32) (x9 : Int32) (x10 : Int32) (x11 : Int32) (x12 : Int32) (x13 : Int32) (x14 : Int32) (x23 : Int32) (x24 : Int32) (x25 : Int32) (s0 : Int32) (s1 : Option Nat) (h : hm_H) : Option (Int32 × hm_H) :=
  fX6_bring_201 K41 x0 x1 x2 x3 x4 x5 x6 x7 x8 x9 x10 x11 x12 x13 x14 x23 x24 x25 (1 : Int32) s0 s1 h
def fX6_bring_41 (K31 : Option Nat → Int32 → Int32 → Int32 → Int32 → Int32 → Int32 → Int32 → Int32 → Int32 → Int32 → Int32 → Int32 → Int32 → hm_H → Option (Int32 × hm_H)) (K41 : Option Nat → Int32 → Int32 → Int32 → Int32 → Int32 → Int32 → Int32 → Int32 → Int32 → Int32 → Int32 → Int32 → Int32 → Int32 → hm_H → Option (Int32 × hm_H)) (x0 : Option Nat) (x1 : Int32) (x2 : Int32) (x3 : Int32) (x4 : Int32) (x5 : Int32) (x6 : Int32) (x7 : Int32) (x8 : Int32) (x9 : Int32) (x10 : Int32) (x11 : Int32) (x12 : Int32) (x13 : Int32) (x14 : Int32) (h : hm_H) : Option (Int32 × hm_H) :=
  if x4 ≤ x14 then
    K31 x0 x1 x2 x3 x4 x5 x6 x7 x8 x9 x10 x11 x12 (x13 + (1 : Int32)) h
  else
    hm_let (((x7).toInt64) + ((x14).toInt64)) fun v10 =>
    hm_let (((x8).toInt64) + ((x13).toInt64)) fun v11 =>
    hm_let (((x2).toInt64) + ((x14).toInt64)) fun v12 =>
    hm_let (((x3).toInt64) + ((x13).toInt64)) fun v13 =>
    hm_b (hm_rc 6 h x0) fun b15 =>
    hm_b2 (fX6_isPlace b15 x1 v12 v13 h) fun v16 h14 =>
    if v16 = 0 then
      fX6_bring_255 K41 x0 x1 x2 x3 x4 x5 x6 x7 x8 x9 x10 x11 x12 x13 x14 h14
    else
      hm_b (hm_rc 6 h14 x0) fun b18 =>
      hm_b2 (fX6_isInClip b18 x6 v10 v11 h14) fun v19 h17 =>
      if v19 = 0 then
        fX6_bring_255 K41 x0 x1 x2 x3 x4 x5 x6 x7 x8 x9 x10 x11 x12 x13 x14 h17
      else
        hm_let (((64 : Int32) * ((v11).toInt32)) + ((v10).toInt32)) fun v20 =>
        hm_b (hm_rc 6 h17 x0) fun b22 =>
        hm_b2 (fX6_dot b22 x1 v12 v13 h17) fun v23 h21 =>
        hm_b (hm_gq 6 5 h21 x0) fun v24 =>
        hm_b (hm_ai 0 h21 v24 (((4096 : Int32) * x6) + v20)) fun v25 =>
        hm_b (hm_gq 6 7 h21 x0) fun v26 =>
        if x9 = (1 : Int32) then
          if v23 = x10 then
            fX6_bring_201 K41 x0 x1 x2 x3 x4 x5 x6 x7 x8 x9 x10 x11 (x12 + (1 : Int32)) x13 x14 v20 v23 v25 (0 : Int32) v20 v26 h21
          else
            fX6_bring_201 K41 x0 x1 x2 x3 x4 x5 x6 x7 x8 x9 x10 x11 (x12 + (1 : Int32)) x13 x14 v20 v23 v25 (1 : Int32) v20 v26 h21
        else
          if x9 = (2 : Int32) then
            hm_b (hm_rc 6 h21 x0) fun b28 =>
            hm_b2 (fX6_dot b28 x10 v12 v13 h21) fun v29 h27 =>
            if v29 = (1 : Int32) then
              fX6_bring_196 K41 x0 x1 x2 x3 x4 x5 x6 x7 x8 x9 x10 x11 (x12 + (1 : Int32)) x13 x14 v20 v23 v25 v20 v26 h27
            else
              fX6_bring_201 K41 x0 x1 x2 x3 x4 x5 x6 x7 x8 x9 x10 x11 (x12 + (1 : Int32)) x13 x14 v20 v23 v25 (0 : Int32) v20 v26 h27
          else
            fX6_bring_196 K41 x0 x1 x2 x3 x4 x5 x6 x7 x8 x9 x10 x11 (x12 + (1 : Int32)) x13 x14 v20 v23 v25 v20 v26 h21
def fX6_bring_31 (K31 : Option Nat → Int32 → Int32 → Int32 → Int32 → Int32 → Int32 → Int32 → Int32 → Int32 → Int32 → Int32 → Int32 → Int32 → hm_H → Option (Int32 × hm_H)) (x0 : Option Nat) (x1 : Int32) (x2 : Int32) (x3 : Int32) (x4 : Int32) (x5 : Int32) (x6 : Int32) (x7 : Int32) (x8 : Int32) (x9 : Int32) (x10 : Int32) (x11 : Int32) (x12 : Int32) (x13 : Int32) (h : hm_H) : Option (Int32 × hm_H) :=
  if x5 ≤ x13 then
    hm_loop (fun _ _ _ _ _ => none) (fX6_bring_270) hm_fu x0 x6 x12 (0 : Int32) h
  else
    hm_loop (fun _ _ _ _ _ _ _ _ _ _ _ _ _ _ _ _ => none) (fX6_bring_41 K31) hm_fu x0 x1 x2 x3 x4 x5 x6 x7 x8 x9 x10 x11 x12 x13 (0 : Int32) h
def fX6_bring_3 (K3 : Option Nat → Int32 → Int32 → Int32 → Int32 → Int32 → Int32 → Int32 → Int32 → Int32 → Int32 → Int32 → Int32 → hm_H → Option (Int32 × hm_H)) (x0 : Option Nat) (x1 : Int32) (x2 : Int32) (x3 : Int32) (x4 : Int32) (x5 : Int32) (x6 : Int32) (x7 : Int32) (x8 : Int32) (x9 : Int32) (x10 : Int32) (x11 : Int32) (x12 : Int32) (h : hm_H) : Option (Int32 × hm_H) :=
  if (4096 : Int32) ≤ x12 then
    hm_loop (fun _ _ _ _ _ _ _ _ _ _ _ _ _ _ _ => none) (fX6_bring_31) hm_fu x0 x1 x2 x3 x4 x5 x6 x7 x8 x9 x10 x11 (0 : Int32) (0 : Int32) h
  else
    hm_b (hm_gq 6 7 h x0) fun v1 =>
    hm_b (hm_si 1 h v1 x12 (vp_nar .boolean (0 : Int32))) fun h2 =>
    K3 x0 x1 x2 x3 x4 x5 x6 x7 x8 x9 x10 x11 (x12 + (1 : Int32)) h2
def fX6_bring (t : Nat) (a1 : Int32) (a2 : Int32) (a3 : Int32) (a4 : Int32) (a5 : Int32) (a6 : Int32) (a7 : Int32) (a8 : Int32) (a9 : Int32) (a10 : Int32) (a11 : Int32) (h0 : hm_H) : Option (Int32 × hm_H) :=
  hm_loop (fun _ _ _ _ _ _ _ _ _ _ _ _ _ _ => none) (fX6_bring_3) hm_fu (some t) a1 a2 a3 a4 a5 a6 a7 a8 a9 a10 a11 (0 : Int32) h0
set_option maxRecDepth 100000 in
set_option maxHeartbeats 8000000 in
theorem kX6_bring (l : Launch) (D : va_G) (kA : Nat → ClassId) (t : Nat) (a1 : Int32) (a2 : Int32) (a3 : Int32) (a4 : Int32) (a5 : Int32) (a6 : Int32) (a7 : Int32) (a8 : Int32) (a9 : Int32) (a10 : Int32) (a11 : Int32) (h0 h' : hm_H) (r : Int32) (hf : fX6_bring t a1 a2 a3 a4 a5 a6 a7 a8 a9 a10 a11 h0 = some (r, h')) : hm_C l yX6_bring wsX6_bring { frames := 2, cells := 0, slots := 0, locals := 50 } D vwCl kA (hm_ty kA) [.ref t, .int a1, .int a2, .int a3, .int a4, .int a5, .int a6, .int a7, .int a8, .int a9, .int a10, .int a11] h0 (some (.int r)) h' 0 0 := by
  refine Met.ofW (cc := cX6_bring) (maxL := 26) (ret := (some .int)) (by decide) rfl ?_
  intro p e s m args below meth c s₁ B hml hv
  obtain ⟨hargs, hB⟩ := hv
  have hx := B.exec
  have hb := B.bytes
  have hr := B.returns
  have hts := atoms_spec (ws := wsX6_bring) B.pre
  have hown : s.vm.findClass RX6 = some m.cls := findClass_of_methodNamed B.named
  have hlocks := B.notSynchronized
  have hK := hB.2
  have hI := hm_start hB
  have w1 := hts (.fieldLink RX6 29 "BlitBoardModel" "comes" "[Z") (by decide +kernel)
  have w2 := hts (.fieldLink RX6 23 "BlitBoardModel" "dots" "[I") (by decide +kernel)
  have w3 := hts (.fieldLink RX6 26 "BlitBoardModel" "fresh" "[I") (by decide +kernel)
  have hiX6 : ∀ w ∈ wsX60, w ∈ wsX6_bring := by decide +kernel
  have B270 : ∀ (fu : Nat) (x0 : Option Nat) (x6 : Int32) (x12 : Int32) (x13 : Int32) (h : hm_H), hm_loop (fun _ _ _ _ _ => none) (fX6_bring_270) fu x0 x6 x12 x13 h = some (r, h') → ∀ (H : Heap) (locs : List Loc) (ls : Array Slot), hm_I D vwCl kA (hm_A h0) s.heap h H locs → lv_has ls 26 [(0, va_rf x0), (6, .int x6), (12, .int x12), (13, .int x13)] → W p l e (headSpec wsX6_bring { frames := 2, cells := 0, slots := 0, locals := 50 }).room s m args below meth c H locs 0 0 (MQ below (hm_Q D vwCl kA (hm_ty kA) h0 (some (.int r)) h') args s 0 0 (hm_A h0)) (F0 m 270 ls []) := by
    intro fu
    induction fu with
    | zero => intro x0 x6 x12 x13 h hf; cases hf
    | succ fu ih270 =>
      rw [hm_loop_s]
      generalize hm_loop (fun _ _ _ _ _ => none) (fX6_bring_270) fu = K270 at ih270 ⊢
      have B325 : ∀ (x0 : Option Nat) (x6 : Int32) (x12 : Int32) (x13 : Int32) (s0 : Int32) (s1 : Int32) (s2 : Option Nat) (h : hm_H), fX6_bring_325 K270 x0 x6 x12 x13 s0 s1 s2 h = some (r, h') → ∀ (H : Heap) (locs : List Loc) (ls : Array Slot), hm_I D vwCl kA (hm_A h0) s.heap h H locs → lv_has ls 26 [(0, va_rf x0), (6, .int x6), (12, .int x12), (13, .int x13)] → W p l e (headSpec wsX6_bring { frames := 2, cells := 0, slots := 0, locals := 50 }).room s m args below meth c H locs 0 0 (MQ below (hm_Q D vwCl kA (hm_ty kA) h0 (some (.int r)) h') args s 0 0 (hm_A h0)) (F0 m 325 ls [.int s0, .int s1, va_rf s2]) := by
        intro x0 x6 x12 x13 s0 s1 s2 h hf H locs ls hI hl
        unfold fX6_bring_325 at hf
        obtain ⟨h30, eh30, hf⟩ := hm_b_s hf
        refine hm_iast (kd := 0) (t0 := 0) hx hb hK hI rfl eh30 dX6_bring_325 (fun H locs hI => ?_)
        refine lv_iinc (v := x13 + (1 : Int32)) (lv' := [(13, .int (x13 + (1 : Int32))), (0, va_rf x0), (6, .int x6), (12, .int x12)]) hx hb dX6_bring_326 hl (k := 3) rfl rfl (by decide) rfl (fun ls hl => ?_)
        refine lv_goto (tgt := 270) hx hb dX6_bring_329 (by decide) ?_
        exact ih270 x0 x6 x12 (x13 + (1 : Int32)) h30 hf _ _ _ hI (lv_sub hl [1, 2, 3, 0] rfl)
      intro x0 x6 x12 x13 h hf H locs ls hI hl
      unfold fX6_bring_270 at hf
      refine lv_iload hx hb dX6_bring_270 (lv_at hl 3 rfl) ?_
      refine lv_sipush (v := (4096 : Int32)) hx hb dX6_bring_272 (by decide) ?_
      refine lv_icmp_ge (tgt := 332) hx hb dX6_bring_275 (by decide) (fun c => ?_) (fun c => ?_)
      · rw [if_pos c] at hf
        refine lv_iload hx hb dX6_bring_332 (lv_at hl 2 rfl) ?_
        exact hm_iret_e hf hx hb hr hlocks hK hI (Nat.le_of_ble_eq_true rfl) (Nat.le_of_ble_eq_true rfl) dX6_bring_334
      · rw [if_neg c] at hf
        refine hm_aload_n hx hb dX6_bring_278 rfl (lv_at hl 0 rfl) ?_
        obtain ⟨v3, ev3, hf⟩ := hm_b_s hf
        refine hm_get (ci := 6) (k := 5) (C := RX6) (T := TX6) (N := 16) hx hb hts hiX6 hown hK hI rfl (by decide) w2 (hm_gq_s ev3) dX6_bring_279 ?_
        refine lv_sipush (v := (4096 : Int32)) hx hb dX6_bring_282 (by decide) ?_
        refine lv_iload hx hb dX6_bring_285 (lv_at hl 1 rfl) ?_
        refine lv_imul hx hb dX6_bring_287 ?_
        refine lv_iload hx hb dX6_bring_288 (lv_at hl 3 rfl) ?_
        refine lv_iadd hx hb dX6_bring_290 ?_
        refine hm_aload_n hx hb dX6_bring_291 rfl (lv_at hl 0 rfl) ?_
        obtain ⟨v4, ev4, hf⟩ := hm_b_s hf
        refine hm_get (ci := 6) (k := 7) (C := RX6) (T := TX6) (N := 16) hx hb hts hiX6 hown hK hI rfl (by decide) w1 (hm_gq_s ev4) dX6_bring_292 ?_
        refine lv_iload hx hb dX6_bring_295 (lv_at hl 3 rfl) ?_
        obtain ⟨v5, ev5, hf⟩ := hm_b_s hf
        refine hm_zald (kd := 1) (t0 := 1) hx hb hK hI rfl ev5 dX6_bring_297 ?_
        refine lv_if_eq (tgt := 311) hx hb dX6_bring_298 (by decide) (fun c => ?_) (fun c => ?_)
        · rw [if_pos c] at hf
          refine hm_aload_n hx hb dX6_bring_311 rfl (lv_at hl 0 rfl) ?_
          obtain ⟨v6, ev6, hf⟩ := hm_b_s hf
          refine hm_get (ci := 6) (k := 5) (C := RX6) (T := TX6) (N := 16) hx hb hts hiX6 hown hK hI rfl (by decide) w2 (hm_gq_s ev6) dX6_bring_312 ?_
          refine lv_sipush (v := (4096 : Int32)) hx hb dX6_bring_315 (by decide) ?_
          refine lv_iload hx hb dX6_bring_318 (lv_at hl 1 rfl) ?_
          refine lv_imul hx hb dX6_bring_320 ?_
          refine lv_iload hx hb dX6_bring_321 (lv_at hl 3 rfl) ?_
          refine lv_iadd hx hb dX6_bring_323 ?_
          obtain ⟨v7, ev7, hf⟩ := hm_b_s hf
          refine hm_iald (kd := 0) (t0 := 0) hx hb hK hI rfl ev7 dX6_bring_324 ?_
          exact B325 x0 x6 x12 x13 v7 (((4096 : Int32) * x6) + x13) v3 h hf _ _ _ hI (lv_sub hl [0, 1, 2, 3] rfl)
        · rw [if_neg c] at hf
          refine hm_aload_n hx hb dX6_bring_301 rfl (lv_at hl 0 rfl) ?_
          obtain ⟨v8, ev8, hf⟩ := hm_b_s hf
          refine hm_get (ci := 6) (k := 6) (C := RX6) (T := TX6) (N := 16) hx hb hts hiX6 hown hK hI rfl (by decide) w3 (hm_gq_s ev8) dX6_bring_302 ?_
          refine lv_iload hx hb dX6_bring_305 (lv_at hl 3 rfl) ?_
          obtain ⟨v9, ev9, hf⟩ := hm_b_s hf
          refine hm_iald (kd := 0) (t0 := 0) hx hb hK hI rfl ev9 dX6_bring_307 ?_
          refine lv_goto (tgt := 325) hx hb dX6_bring_308 (by decide) ?_
          exact B325 x0 x6 x12 x13 v9 (((4096 : Int32) * x6) + x13) v3 h hf _ _ _ hI (lv_sub hl [0, 1, 2, 3] rfl)
  have B31 : ∀ (fu : Nat) (x0 : Option Nat) (x1 : Int32) (x2 : Int32) (x3 : Int32) (x4 : Int32) (x5 : Int32) (x6 : Int32) (x7 : Int32) (x8 : Int32) (x9 : Int32) (x10 : Int32) (x11 : Int32) (x12 : Int32) (x13 : Int32) (h : hm_H), hm_loop (fun _ _ _ _ _ _ _ _ _ _ _ _ _ _ _ => none) (fX6_bring_31) fu x0 x1 x2 x3 x4 x5 x6 x7 x8 x9 x10 x11 x12 x13 h = some (r, h') → ∀ (H : Heap) (locs : List Loc) (ls : Array Slot), hm_I D vwCl kA (hm_A h0) s.heap h H locs → lv_has ls 26 [(0, va_rf x0), (1, .int x1), (2, .int x2), (3, .int x3), (4, .int x4), (5, .int x5), (6, .int x6), (7, .int x7), (8, .int x8), (9, .int x9), (10, .int x10), (11, .int x11), (12, .int x12), (13, .int x13)] → W p l e (headSpec wsX6_bring { frames := 2, cells := 0, slots := 0, locals := 50 }).room s m args below meth c H locs 0 0 (MQ below (hm_Q D vwCl kA (hm_ty kA) h0 (some (.int r)) h') args s 0 0 (hm_A h0)) (F0 m 31 ls []) := by
    intro fu
    induction fu with
    | zero => intro x0 x1 x2 x3 x4 x5 x6 x7 x8 x9 x10 x11 x12 x13 h hf; cases hf
    | succ fu ih31 =>
      rw [hm_loop_s]
      generalize hm_loop (fun _ _ _ _ _ _ _ _ _ _ _ _ _ _ _ => none) (fX6_bring_31) fu = K31 at ih31 ⊢
      have B41 : ∀ (fu : Nat) (x0 : Option Nat) (x1 : Int32) (x2 : Int32) (x3 : Int32) (x4 : Int32) (x5 : Int32) (x6 : Int32) (x7 : Int32) (x8 : Int32) (x9 : Int32) (x10 : Int32) (x11 : Int32) (x12 : Int32) (x13 : Int32) (x14 : Int32) (h : hm_H), hm_loop (fun _ _ _ _ _ _ _ _ _ _ _ _ _ _ _ _ => none) (fX6_bring_41 K31) fu x0 x1 x2 x3 x4 x5 x6 x7 x8 x9 x10 x11 x12 x13 x14 h = some (r, h') → ∀ (H : Heap) (locs : List Loc) (ls : Array Slot), hm_I D vwCl kA (hm_A h0) s.heap h H locs → lv_has ls 26 [(0, va_rf x0), (1, .int x1), (2, .int x2), (3, .int x3), (4, .int x4), (5, .int x5), (6, .int x6), (7, .int x7), (8, .int x8), (9, .int x9), (10, .int x10), (11, .int x11), (12, .int x12), (13, .int x13), (14, .int x14)] → W p l e (headSpec wsX6_bring { frames := 2, cells := 0, slots := 0, locals := 50 }).room s m args below meth c H locs 0 0 (MQ below (hm_Q D vwCl kA (hm_ty kA) h0 (some (.int r)) h') args s 0 0 (hm_A h0)) (F0 m 41 ls []) := by
        intro fu
        induction fu with
        | zero => intro x0 x1 x2 x3 x4 x5 x6 x7 x8 x9 x10 x11 x12 x13 x14 h hf; cases hf
        | succ fu ih41 =>
          rw [hm_loop_s]
          generalize hm_loop (fun _ _ _ _ _ _ _ _ _ _ _ _ _ _ _ _ => none) (fX6_bring_41 K31) fu = K41 at ih41 ⊢
          have B255 : ∀ (x0 : Option Nat) (x1 : Int32) (x2 : Int32) (x3 : Int32) (x4 : Int32) (x5 : Int32) (x6 : Int32) (x7 : Int32) (x8 : Int32) (x9 : Int32) (x10 : Int32) (x11 : Int32) (x12 : Int32) (x13 : Int32) (x14 : Int32) (h : hm_H), fX6_bring_255 K41 x0 x1 x2 x3 x4 x5 x6 x7 x8 x9 x10 x11 x12 x13 x14 h = some (r, h') → ∀ (H : Heap) (locs : List Loc) (ls : Array Slot), hm_I D vwCl kA (hm_A h0) s.heap h H locs → lv_has ls 26 [(0, va_rf x0), (1, .int x1), (2, .int x2), (3, .int x3), (4, .int x4), (5, .int x5), (6, .int x6), (7, .int x7), (8, .int x8), (9, .int x9), (10, .int x10), (11, .int x11), (12, .int x12), (13, .int x13), (14, .int x14)] → W p l e (headSpec wsX6_bring { frames := 2, cells := 0, slots := 0, locals := 50 }).room s m args below meth c H locs 0 0 (MQ below (hm_Q D vwCl kA (hm_ty kA) h0 (some (.int r)) h') args s 0 0 (hm_A h0)) (F0 m 255 ls []) := by
            intro x0 x1 x2 x3 x4 x5 x6 x7 x8 x9 x10 x11 x12 x13 x14 h hf H locs ls hI hl
            unfold fX6_bring_255 at hf
            refine lv_iinc (v := x14 + (1 : Int32)) (lv' := [(14, .int (x14 + (1 : Int32))), (0, va_rf x0), (1, .int x1), (2, .int x2), (3, .int x3), (4, .int x4), (5, .int x5), (6, .int x6), (7, .int x7), (8, .int x8), (9, .int x9), (10, .int x10), (11, .int x11), (12, .int x12), (13, .int x13)]) hx hb dX6_bring_255 hl (k := 14) rfl rfl (by decide) rfl (fun ls hl => ?_)
            refine lv_goto (tgt := 41) hx hb dX6_bring_258 (by decide) ?_
            exact ih41 x0 x1 x2 x3 x4 x5 x6 x7 x8 x9 x10 x11 x12 x13 (x14 + (1 : Int32)) h hf _ _ _ hI (lv_sub hl [1, 2, 3, 4, 5, 6, 7, 8, 9, 10, 11, 12, 13, 14, 0] rfl)
          have B254 : ∀ (x0 : Option Nat) (x1 : Int32) (x2 : Int32) (x3 : Int32) (x4 : Int32) (x5 : Int32) (x6 : Int32) (x7 : Int32) (x8 : Int32) (x9 : Int32) (x10 : Int32) (x11 : Int32) (x12 : Int32) (x13 : Int32) (x14 : Int32) (s0 : Int32) (s1 : Int32) (s2 : Option Nat) (h : hm_H), fX6_bring_254 K41 x0 x1 x2 x3 x4 x5 x6 x7 x8 x9 x10 x11 x12 x13 x14 s0 s1 s2 h = some (r, h') → ∀ (H : Heap) (locs : List Loc) (ls : Array Slot), hm_I D vwCl kA (hm_A h0) s.heap h H locs → lv_has ls 26 [(0, va_rf x0), (1, .int x1), (2, .int x2), (3, .int x3), (4, .int x4), (5, .int x5), (6, .int x6), (7, .int x7), (8, .int x8), (9, .int x9), (10, .int x10), (11, .int x11), (12, .int x12), (13, .int x13), (14, .int x14)] → W p l e (headSpec wsX6_bring { frames := 2, cells := 0, slots := 0, locals := 50 }).room s m args below meth c H locs 0 0 (MQ below (hm_Q D vwCl kA (hm_ty kA) h0 (some (.int r)) h') args s 0 0 (hm_A h0)) (F0 m 254 ls [.int s0, .int s1, va_rf s2]) := by
            intro x0 x1 x2 x3 x4 x5 x6 x7 x8 x9 x10 x11 x12 x13 x14 s0 s1 s2 h hf H locs ls hI hl
            unfold fX6_bring_254 at hf
            obtain ⟨h38, eh38, hf⟩ := hm_b_s hf
            refine hm_iast (kd := 0) (t0 := 0) hx hb hK hI rfl eh38 dX6_bring_254 (fun H locs hI => ?_)
            exact B255 x0 x1 x2 x3 x4 x5 x6 x7 x8 x9 x10 x11 x12 x13 x14 h38 hf _ _ _ hI (lv_sub hl [0, 1, 2, 3, 4, 5, 6, 7, 8, 9, 10, 11, 12, 13, 14] rfl)
          have B201 : ∀ (x0 : Option Nat) (x1 : Int32) (x2 : Int32) (x3 : Int32) (x4 : Int32) (x5 : Int32) (x6 : Int32) (x7 : Int32) (x8 : Int32) (x9 : Int32) (x10 : Int32) (x11 : Int32) (x12 : Int32) (x13 : Int32) (x14 : Int32) (x23 : Int32) (x24 : Int32) (x25 : Int32) (s0 : Int32) (s1 : Int32) (s2 : Option Nat) (h : hm_H), fX6_bring_201 K41 x0 x1 x2 x3 x4 x5 x6 x7 x8 x9 x10 x11 x12 x13 x14 x23 x24 x25 s0 s1 s2 h = some (r, h') → ∀ (H : Heap) (locs : List Loc) (ls : Array Slot), hm_I D vwCl kA (hm_A h0) s.heap h H locs → lv_has ls 26 [(0, va_rf x0), (1, .int x1), (2, .int x2), (3, .int x3), (4, .int x4), (5, .int x5), (6, .int x6), (7, .int x7), (8, .int x8), (9, .int x9), (10, .int x10), (11, .int x11), (12, .int x12), (13, .int x13), (14, .int x14), (23, .int x23), (24, .int x24), (25, .int x25)] → W p l e (headSpec wsX6_bring { frames := 2, cells := 0, slots := 0, locals := 50 }).room s m args below meth c H locs 0 0 (MQ below (hm_Q D vwCl kA (hm_ty kA) h0 (some (.int r)) h') args s 0 0 (hm_A h0)) (F0 m 201 ls [.int s0, .int s1, va_rf s2]) := by
            intro x0 x1 x2 x3 x4 x5 x6 x7 x8 x9 x10 x11 x12 x13 x14 x23 x24 x25 s0 s1 s2 h hf H locs ls hI hl
            unfold fX6_bring_201 at hf
            obtain ⟨h31, eh31, hf⟩ := hm_b_s hf
            refine hm_zast (kd := 1) (t0 := 1) hx hb hK hI rfl eh31 dX6_bring_201 (fun H locs hI => ?_)
            refine hm_aload_n hx hb dX6_bring_202 rfl (lv_at hl 0 rfl) ?_
            obtain ⟨v32, ev32, hf⟩ := hm_b_s hf
            refine hm_get (ci := 6) (k := 6) (C := RX6) (T := TX6) (N := 16) hx hb hts hiX6 hown hK hI rfl (by decide) w3 (hm_gq_s ev32) dX6_bring_203 ?_
            refine lv_iload hx hb dX6_bring_206 (lv_at hl 15 rfl) ?_
            refine lv_iload hx hb dX6_bring_208 (lv_at hl 9 rfl) ?_
            refine lv_if_ne (tgt := 231) hx hb dX6_bring_210 (by decide) (fun c => ?_) (fun c => ?_)
            · rw [if_neg c] at hf
              refine lv_iload hx hb dX6_bring_231 (lv_at hl 9 rfl) ?_
              refine lv_iconst (v := (3 : Int32)) hx hb dX6_bring_233 (by decide) ?_
              refine lv_icmp_ne (tgt := 252) hx hb dX6_bring_234 (by decide) (fun c => ?_) (fun c => ?_)
              · rw [if_neg c] at hf
                refine lv_iload hx hb dX6_bring_252 (lv_at hl 16 rfl) ?_
                exact B254 x0 x1 x2 x3 x4 x5 x6 x7 x8 x9 x10 x11 x12 x13 x14 x24 x23 v32 h31 hf _ _ _ hI (lv_sub hl [0, 1, 2, 3, 4, 5, 6, 7, 8, 9, 10, 11, 12, 13, 14] rfl)
              · rw [if_pos c] at hf
                refine lv_iload hx hb dX6_bring_237 (lv_at hl 16 rfl) ?_
                refine lv_if_ne (tgt := 247) hx hb dX6_bring_239 (by decide) (fun c => ?_) (fun c => ?_)
                · rw [if_neg c] at hf
                  refine lv_iload hx hb dX6_bring_247 (lv_at hl 11 rfl) ?_
                  refine lv_goto (tgt := 254) hx hb dX6_bring_249 (by decide) ?_
                  exact B254 x0 x1 x2 x3 x4 x5 x6 x7 x8 x9 x10 x11 x12 x13 x14 x11 x23 v32 h31 hf _ _ _ hI (lv_sub hl [0, 1, 2, 3, 4, 5, 6, 7, 8, 9, 10, 11, 12, 13, 14] rfl)
                · rw [if_pos c] at hf
                  refine lv_iload hx hb dX6_bring_242 (lv_at hl 10 rfl) ?_
                  refine lv_goto (tgt := 254) hx hb dX6_bring_244 (by decide) ?_
                  exact B254 x0 x1 x2 x3 x4 x5 x6 x7 x8 x9 x10 x11 x12 x13 x14 x10 x23 v32 h31 hf _ _ _ hI (lv_sub hl [0, 1, 2, 3, 4, 5, 6, 7, 8, 9, 10, 11, 12, 13, 14] rfl)
            · rw [if_pos c] at hf
              refine hm_aload_n hx hb dX6_bring_213 rfl (lv_at hl 0 rfl) ?_
              refine lv_iload hx hb dX6_bring_214 (lv_at hl 6 rfl) ?_
              refine lv_iload hx hb dX6_bring_216 (lv_at hl 16 rfl) ?_
              refine lv_iload hx hb dX6_bring_218 (lv_at hl 17 rfl) ?_
              refine lv_iload hx hb dX6_bring_220 (lv_at hl 10 rfl) ?_
              obtain ⟨v34, h33, eh33, hf⟩ := hm_b2_s hf
              refine hm_cS (As := [.int x24, .int x25, .int x10]) (rest := [.int x6, va_rf x0, .int x23, va_rf v32]) ⟨hx, hb, hml, hown, hts⟩ hK hI (kX6_combined l D kA x24 x25 x10 h31 h33 v34 eh33) (va_cwS 3 hts gX6_bring_X6_combined rfl rfl rfl (by decide +kernel) ⟨Nat.le_of_ble_eq_true rfl, Nat.le_of_ble_eq_true rfl⟩) rfl hl.1 rfl (by first | exact Nat.le_of_ble_eq_true rfl | (simp only [List.map, hm_rf_cat, hm_ci, hm_cl, List.sum_cons, List.sum_nil] <;> decide)) dX6_bring_222 ⟨Nat.le_of_ble_eq_true rfl, Nat.le_of_ble_eq_true rfl⟩ (fun H locs hI => ?_)
              obtain ⟨b36, eb36, hf⟩ := hm_b_s hf
              obtain ⟨v37, h35, eh35, hf⟩ := hm_b2_s hf
              refine hm_cV (As := [.int x6, .int v34]) (rest := [.int x23, va_rf v32]) ⟨hx, hb, hml, hown, hts⟩ hK hI eb36 rfl rfl (kX6_fitted l D kA b36 x6 v34 h33 h35 v37 eh35) (cwV 2 hts gX6_bring_X6_fitted rfl rfl rfl (by decide +kernel) ⟨Nat.le_of_ble_eq_true rfl, Nat.le_of_ble_eq_true rfl⟩) rfl hl.1 rfl (by first | exact Nat.le_of_ble_eq_true rfl | (simp only [List.map, hm_rf_cat, hm_ci, hm_cl, List.sum_cons, List.sum_nil] <;> decide)) dX6_bring_225 ⟨Nat.le_of_ble_eq_true rfl, Nat.le_of_ble_eq_true rfl⟩ (fun H locs hI => ?_)
              refine lv_goto (tgt := 254) hx hb dX6_bring_228 (by decide) ?_
              exact B254 x0 x1 x2 x3 x4 x5 x6 x7 x8 x9 x10 x11 x12 x13 x14 v37 x23 v32 h35 hf _ _ _ hI (lv_sub hl [0, 1, 2, 3, 4, 5, 6, 7, 8, 9, 10, 11, 12, 13, 14] rfl)
          have B196 : ∀ (x0 : Option Nat) (x1 : Int32) (x2 : Int32) (x3 : Int32) (x4 : Int32) (x5 : Int32) (x6 : Int32) (x7 : Int32) (x8 : Int32) (x9 : Int32) (x10 : Int32) (x11 : Int32) (x12 : Int32) (x13 : Int32) (x14 : Int32) (x23 : Int32) (x24 : Int32) (x25 : Int32) (s0 : Int32) (s1 : Option Nat) (h : hm_H), fX6_bring_196 K41 x0 x1 x2 x3 x4 x5 x6 x7 x8 x9 x10 x11 x12 x13 x14 x23 x24 x25 s0 s1 h = some (r, h') → ∀ (H : Heap) (locs : List Loc) (ls : Array Slot), hm_I D vwCl kA (hm_A h0) s.heap h H locs → lv_has ls 26 [(0, va_rf x0), (1, .int x1), (2, .int x2), (3, .int x3), (4, .int x4), (5, .int x5), (6, .int x6), (7, .int x7), (8, .int x8), (9, .int x9), (10, .int x10), (11, .int x11), (12, .int x12), (13, .int x13), (14, .int x14), (23, .int x23), (24, .int x24), (25, .int x25)] → W p l e (headSpec wsX6_bring { frames := 2, cells := 0, slots := 0, locals := 50 }).room s m args below meth c H locs 0 0 (MQ below (hm_Q D vwCl kA (hm_ty kA) h0 (some (.int r)) h') args s 0 0 (hm_A h0)) (F0 m 196 ls [.int s0, va_rf s1]) := by
            intro x0 x1 x2 x3 x4 x5 x6 x7 x8 x9 x10 x11 x12 x13 x14 x23 x24 x25 s0 s1 h hf H locs ls hI hl
            unfold fX6_bring_196 at hf
            refine lv_iconst (v := (1 : Int32)) hx hb dX6_bring_196 (by decide) ?_
            refine lv_goto (tgt := 201) hx hb dX6_bring_197 (by decide) ?_
            exact B201 x0 x1 x2 x3 x4 x5 x6 x7 x8 x9 x10 x11 x12 x13 x14 x23 x24 x25 (1 : Int32) s0 s1 h hf _ _ _ hI (lv_sub hl [0, 1, 2, 3, 4, 5, 6, 7, 8, 9, 10, 11, 12, 13, 14, 15, 16, 17] rfl)
          intro x0 x1 x2 x3 x4 x5 x6 x7 x8 x9 x10 x11 x12 x13 x14 h hf H locs ls hI hl
          unfold fX6_bring_41 at hf
          refine lv_iload hx hb dX6_bring_41 (lv_at hl 14 rfl) ?_
          refine lv_iload hx hb dX6_bring_43 (lv_at hl 4 rfl) ?_
          refine lv_icmp_ge (tgt := 261) hx hb dX6_bring_45 (by decide) (fun c => ?_) (fun c => ?_)
          · rw [if_pos c] at hf
            refine lv_iinc (v := x13 + (1 : Int32)) (lv' := [(13, .int (x13 + (1 : Int32))), (0, va_rf x0), (1, .int x1), (2, .int x2), (3, .int x3), (4, .int x4), (5, .int x5), (6, .int x6), (7, .int x7), (8, .int x8), (9, .int x9), (10, .int x10), (11, .int x11), (12, .int x12), (14, .int x14)]) hx hb dX6_bring_261 hl (k := 13) rfl rfl (by decide) rfl (fun ls hl => ?_)
            refine lv_goto (tgt := 31) hx hb dX6_bring_264 (by decide) ?_
            exact ih31 x0 x1 x2 x3 x4 x5 x6 x7 x8 x9 x10 x11 x12 (x13 + (1 : Int32)) h hf _ _ _ hI (lv_sub hl [1, 2, 3, 4, 5, 6, 7, 8, 9, 10, 11, 12, 13, 0] rfl)
          · rw [if_neg c] at hf
            refine lv_iload hx hb dX6_bring_48 (lv_at hl 7 rfl) ?_
            refine lv_i2l (v := (x7).toInt64) hx hb dX6_bring_50 rfl ?_
            refine lv_iload hx hb dX6_bring_51 (lv_at hl 14 rfl) ?_
            refine lv_i2l (v := (x14).toInt64) hx hb dX6_bring_53 rfl ?_
            refine lv_ladd hx hb dX6_bring_54 ?_
            obtain ⟨v10, ev10, hf⟩ := hm_let_s hf
            refine hm_tj ev10 ?_
            refine lv_lstore (lv' := [(15, .long v10), (0, va_rf x0), (1, .int x1), (2, .int x2), (3, .int x3), (4, .int x4), (5, .int x5), (6, .int x6), (7, .int x7), (8, .int x8), (9, .int x9), (10, .int x10), (11, .int x11), (12, .int x12), (13, .int x13), (14, .int x14)]) hx hb dX6_bring_55 hl (by decide) rfl (fun ls hl => ?_)
            refine lv_iload hx hb dX6_bring_57 (lv_at hl 9 rfl) ?_
            refine lv_i2l (v := (x8).toInt64) hx hb dX6_bring_59 rfl ?_
            refine lv_iload hx hb dX6_bring_60 (lv_at hl 14 rfl) ?_
            refine lv_i2l (v := (x13).toInt64) hx hb dX6_bring_62 rfl ?_
            refine lv_ladd hx hb dX6_bring_63 ?_
            obtain ⟨v11, ev11, hf⟩ := hm_let_s hf
            refine hm_tj ev11 ?_
            refine lv_lstore (lv' := [(17, .long v11), (15, .long v10), (0, va_rf x0), (1, .int x1), (2, .int x2), (3, .int x3), (4, .int x4), (5, .int x5), (6, .int x6), (7, .int x7), (8, .int x8), (9, .int x9), (10, .int x10), (11, .int x11), (12, .int x12), (13, .int x13), (14, .int x14)]) hx hb dX6_bring_64 hl (by decide) rfl (fun ls hl => ?_)
            refine lv_iload_n hx hb dX6_bring_66 rfl (lv_at hl 4 rfl) ?_
            refine lv_i2l (v := (x2).toInt64) hx hb dX6_bring_67 rfl ?_
            refine lv_iload hx hb dX6_bring_68 (lv_at hl 16 rfl) ?_
            refine lv_i2l (v := (x14).toInt64) hx hb dX6_bring_70 rfl ?_
            refine lv_ladd hx hb dX6_bring_71 ?_
            obtain ⟨v12, ev12, hf⟩ := hm_let_s hf
            refine hm_tj ev12 ?_
            refine lv_lstore (lv' := [(19, .long v12), (17, .long v11), (15, .long v10), (0, va_rf x0), (1, .int x1), (2, .int x2), (3, .int x3), (4, .int x4), (5, .int x5), (6, .int x6), (7, .int x7), (8, .int x8), (9, .int x9), (10, .int x10), (11, .int x11), (12, .int x12), (13, .int x13), (14, .int x14)]) hx hb dX6_bring_72 hl (by decide) rfl (fun ls hl => ?_)
            refine lv_iload_n hx hb dX6_bring_74 rfl (lv_at hl 6 rfl) ?_
            refine lv_i2l (v := (x3).toInt64) hx hb dX6_bring_75 rfl ?_
            refine lv_iload hx hb dX6_bring_76 (lv_at hl 16 rfl) ?_
            refine lv_i2l (v := (x13).toInt64) hx hb dX6_bring_78 rfl ?_
            refine lv_ladd hx hb dX6_bring_79 ?_
            obtain ⟨v13, ev13, hf⟩ := hm_let_s hf
            refine hm_tj ev13 ?_
            refine lv_lstore (lv' := [(21, .long v13), (19, .long v12), (17, .long v11), (15, .long v10), (0, va_rf x0), (1, .int x1), (2, .int x2), (3, .int x3), (4, .int x4), (5, .int x5), (6, .int x6), (7, .int x7), (8, .int x8), (9, .int x9), (10, .int x10), (11, .int x11), (12, .int x12), (13, .int x13), (14, .int x14)]) hx hb dX6_bring_80 hl (by decide) rfl (fun ls hl => ?_)
            refine hm_aload_n hx hb dX6_bring_82 rfl (lv_at hl 4 rfl) ?_
            refine lv_iload_n hx hb dX6_bring_83 rfl (lv_at hl 5 rfl) ?_
            refine lv_lload hx hb dX6_bring_84 (lv_at hl 1 rfl) ?_
            refine lv_lload hx hb dX6_bring_86 (lv_at hl 0 rfl) ?_
            obtain ⟨b15, eb15, hf⟩ := hm_b_s hf
            obtain ⟨v16, h14, eh14, hf⟩ := hm_b2_s hf
            refine hm_cV (As := [.int x1, .long v12, .long v13]) (rest := []) ⟨hx, hb, hml, hown, hts⟩ hK hI eb15 rfl rfl (kX6_isPlace l D kA b15 x1 v12 v13 h h14 v16 eh14) (cwV 3 hts gX6_bring_X6_isPlace rfl rfl rfl (by decide +kernel) ⟨Nat.le_of_ble_eq_true rfl, Nat.le_of_ble_eq_true rfl⟩) rfl hl.1 rfl (by first | exact Nat.le_of_ble_eq_true rfl | (simp only [List.map, hm_rf_cat, hm_ci, hm_cl, List.sum_cons, List.sum_nil] <;> decide)) dX6_bring_88 ⟨Nat.le_of_ble_eq_true rfl, Nat.le_of_ble_eq_true rfl⟩ (fun H locs hI => ?_)
            refine lv_if_eq (tgt := 255) hx hb dX6_bring_91 (by decide) (fun c => ?_) (fun c => ?_)
            · rw [if_pos c] at hf
              exact B255 x0 x1 x2 x3 x4 x5 x6 x7 x8 x9 x10 x11 x12 x13 x14 h14 hf _ _ _ hI (lv_sub hl [4, 5, 6, 7, 8, 9, 10, 11, 12, 13, 14, 15, 16, 17, 18] rfl)
            · rw [if_neg c] at hf
              refine hm_aload_n hx hb dX6_bring_94 rfl (lv_at hl 4 rfl) ?_
              refine lv_iload hx hb dX6_bring_95 (lv_at hl 10 rfl) ?_
              refine lv_lload hx hb dX6_bring_97 (lv_at hl 3 rfl) ?_
              refine lv_lload hx hb dX6_bring_99 (lv_at hl 2 rfl) ?_
              obtain ⟨b18, eb18, hf⟩ := hm_b_s hf
              obtain ⟨v19, h17, eh17, hf⟩ := hm_b2_s hf
              refine hm_cV (As := [.int x6, .long v10, .long v11]) (rest := []) ⟨hx, hb, hml, hown, hts⟩ hK hI eb18 rfl rfl (kX6_isInClip l D kA b18 x6 v10 v11 h14 h17 v19 eh17) (cwV 3 hts gX6_bring_X6_isInClip rfl rfl rfl (by decide +kernel) ⟨Nat.le_of_ble_eq_true rfl, Nat.le_of_ble_eq_true rfl⟩) rfl hl.1 rfl (by first | exact Nat.le_of_ble_eq_true rfl | (simp only [List.map, hm_rf_cat, hm_ci, hm_cl, List.sum_cons, List.sum_nil] <;> decide)) dX6_bring_101 ⟨Nat.le_of_ble_eq_true rfl, Nat.le_of_ble_eq_true rfl⟩ (fun H locs hI => ?_)
              refine lv_if_eq (tgt := 255) hx hb dX6_bring_104 (by decide) (fun c => ?_) (fun c => ?_)
              · rw [if_pos c] at hf
                exact B255 x0 x1 x2 x3 x4 x5 x6 x7 x8 x9 x10 x11 x12 x13 x14 h17 hf _ _ _ hI (lv_sub hl [4, 5, 6, 7, 8, 9, 10, 11, 12, 13, 14, 15, 16, 17, 18] rfl)
              · rw [if_neg c] at hf
                refine lv_iinc (v := x12 + (1 : Int32)) (lv' := [(12, .int (x12 + (1 : Int32))), (21, .long v13), (19, .long v12), (17, .long v11), (15, .long v10), (0, va_rf x0), (1, .int x1), (2, .int x2), (3, .int x3), (4, .int x4), (5, .int x5), (6, .int x6), (7, .int x7), (8, .int x8), (9, .int x9), (10, .int x10), (11, .int x11), (13, .int x13), (14, .int x14)]) hx hb dX6_bring_107 hl (k := 16) rfl rfl (by decide) rfl (fun ls hl => ?_)
                refine lv_bipush (v := (64 : Int32)) hx hb dX6_bring_110 (by decide) ?_
                refine lv_lload hx hb dX6_bring_112 (lv_at hl 3 rfl) ?_
                refine lv_l2i (v := (v11).toInt32) hx hb dX6_bring_114 rfl ?_
                refine lv_imul hx hb dX6_bring_115 ?_
                refine lv_lload hx hb dX6_bring_116 (lv_at hl 4 rfl) ?_
                refine lv_l2i (v := (v10).toInt32) hx hb dX6_bring_118 rfl ?_
                refine lv_iadd hx hb dX6_bring_119 ?_
                obtain ⟨v20, ev20, hf⟩ := hm_let_s hf
                refine hm_ti ev20 ?_
                refine lv_istore (lv' := [(23, .int v20), (12, .int (x12 + (1 : Int32))), (21, .long v13), (19, .long v12), (17, .long v11), (15, .long v10), (0, va_rf x0), (1, .int x1), (2, .int x2), (3, .int x3), (4, .int x4), (5, .int x5), (6, .int x6), (7, .int x7), (8, .int x8), (9, .int x9), (10, .int x10), (11, .int x11), (13, .int x13), (14, .int x14)]) hx hb dX6_bring_120 hl (by decide) rfl (fun ls hl => ?_)
                refine hm_aload_n hx hb dX6_bring_122 rfl (lv_at hl 6 rfl) ?_
                refine lv_iload_n hx hb dX6_bring_123 rfl (lv_at hl 7 rfl) ?_
                refine lv_lload hx hb dX6_bring_124 (lv_at hl 3 rfl) ?_
                refine lv_lload hx hb dX6_bring_126 (lv_at hl 2 rfl) ?_
                obtain ⟨b22, eb22, hf⟩ := hm_b_s hf
                obtain ⟨v23, h21, eh21, hf⟩ := hm_b2_s hf
                refine hm_cV (As := [.int x1, .long v12, .long v13]) (rest := []) ⟨hx, hb, hml, hown, hts⟩ hK hI eb22 rfl rfl (kX6_dot l D kA b22 x1 v12 v13 h17 h21 v23 eh21) (cwV 3 hts gX6_bring_X6_dot rfl rfl rfl (by decide +kernel) ⟨Nat.le_of_ble_eq_true rfl, Nat.le_of_ble_eq_true rfl⟩) rfl hl.1 rfl (by first | exact Nat.le_of_ble_eq_true rfl | (simp only [List.map, hm_rf_cat, hm_ci, hm_cl, List.sum_cons, List.sum_nil] <;> decide)) dX6_bring_128 ⟨Nat.le_of_ble_eq_true rfl, Nat.le_of_ble_eq_true rfl⟩ (fun H locs hI => ?_)
                refine lv_istore (lv' := [(24, .int v23), (23, .int v20), (12, .int (x12 + (1 : Int32))), (21, .long v13), (19, .long v12), (17, .long v11), (15, .long v10), (0, va_rf x0), (1, .int x1), (2, .int x2), (3, .int x3), (4, .int x4), (5, .int x5), (6, .int x6), (7, .int x7), (8, .int x8), (9, .int x9), (10, .int x10), (11, .int x11), (13, .int x13), (14, .int x14)]) hx hb dX6_bring_131 hl (by decide) rfl (fun ls hl => ?_)
                refine hm_aload_n hx hb dX6_bring_133 rfl (lv_at hl 7 rfl) ?_
                obtain ⟨v24, ev24, hf⟩ := hm_b_s hf
                refine hm_get (ci := 6) (k := 5) (C := RX6) (T := TX6) (N := 16) hx hb hts hiX6 hown hK hI rfl (by decide) w2 (hm_gq_s ev24) dX6_bring_134 ?_
                refine lv_sipush (v := (4096 : Int32)) hx hb dX6_bring_137 (by decide) ?_
                refine lv_iload hx hb dX6_bring_140 (lv_at hl 13 rfl) ?_
                refine lv_imul hx hb dX6_bring_142 ?_
                refine lv_iload hx hb dX6_bring_143 (lv_at hl 1 rfl) ?_
                refine lv_iadd hx hb dX6_bring_145 ?_
                obtain ⟨v25, ev25, hf⟩ := hm_b_s hf
                refine hm_iald (kd := 0) (t0 := 0) hx hb hK hI rfl ev25 dX6_bring_146 ?_
                refine lv_istore (lv' := [(25, .int v25), (24, .int v23), (23, .int v20), (12, .int (x12 + (1 : Int32))), (21, .long v13), (19, .long v12), (17, .long v11), (15, .long v10), (0, va_rf x0), (1, .int x1), (2, .int x2), (3, .int x3), (4, .int x4), (5, .int x5), (6, .int x6), (7, .int x7), (8, .int x8), (9, .int x9), (10, .int x10), (11, .int x11), (13, .int x13), (14, .int x14)]) hx hb dX6_bring_147 hl (by decide) rfl (fun ls hl => ?_)
                refine hm_aload_n hx hb dX6_bring_149 rfl (lv_at hl 8 rfl) ?_
                obtain ⟨v26, ev26, hf⟩ := hm_b_s hf
                refine hm_get (ci := 6) (k := 7) (C := RX6) (T := TX6) (N := 16) hx hb hts hiX6 hown hK hI rfl (by decide) w1 (hm_gq_s ev26) dX6_bring_150 ?_
                refine lv_iload hx hb dX6_bring_153 (lv_at hl 2 rfl) ?_
                refine lv_iload hx hb dX6_bring_155 (lv_at hl 17 rfl) ?_
                refine lv_iconst (v := (1 : Int32)) hx hb dX6_bring_157 (by decide) ?_
                refine lv_icmp_ne (tgt := 176) hx hb dX6_bring_158 (by decide) (fun c => ?_) (fun c => ?_)
                · rw [if_neg c] at hf
                  refine lv_iload hx hb dX6_bring_176 (lv_at hl 17 rfl) ?_
                  refine lv_iconst (v := (2 : Int32)) hx hb dX6_bring_178 (by decide) ?_
                  refine lv_icmp_ne (tgt := 196) hx hb dX6_bring_179 (by decide) (fun c => ?_) (fun c => ?_)
                  · rw [if_neg c] at hf
                    exact B196 x0 x1 x2 x3 x4 x5 x6 x7 x8 x9 x10 x11 (x12 + (1 : Int32)) x13 x14 v20 v23 v25 v20 v26 h21 hf _ _ _ hI (lv_sub hl [8, 9, 10, 11, 12, 13, 14, 15, 16, 17, 18, 19, 3, 20, 21, 2, 1, 0] rfl)
                  · rw [if_pos c] at hf
                    refine hm_aload_n hx hb dX6_bring_182 rfl (lv_at hl 8 rfl) ?_
                    refine lv_iload hx hb dX6_bring_183 (lv_at hl 18 rfl) ?_
                    refine lv_lload hx hb dX6_bring_185 (lv_at hl 5 rfl) ?_
                    refine lv_lload hx hb dX6_bring_187 (lv_at hl 4 rfl) ?_
                    obtain ⟨b28, eb28, hf⟩ := hm_b_s hf
                    obtain ⟨v29, h27, eh27, hf⟩ := hm_b2_s hf
                    refine hm_cV (As := [.int x10, .long v12, .long v13]) (rest := [.int v20, va_rf v26]) ⟨hx, hb, hml, hown, hts⟩ hK hI eb28 rfl rfl (kX6_dot l D kA b28 x10 v12 v13 h21 h27 v29 eh27) (cwV 3 hts gX6_bring_X6_dot rfl rfl rfl (by decide +kernel) ⟨Nat.le_of_ble_eq_true rfl, Nat.le_of_ble_eq_true rfl⟩) rfl hl.1 rfl (by first | exact Nat.le_of_ble_eq_true rfl | (simp only [List.map, hm_rf_cat, hm_ci, hm_cl, List.sum_cons, List.sum_nil] <;> decide)) dX6_bring_189 ⟨Nat.le_of_ble_eq_true rfl, Nat.le_of_ble_eq_true rfl⟩ (fun H locs hI => ?_)
                    refine lv_iconst (v := (1 : Int32)) hx hb dX6_bring_192 (by decide) ?_
                    refine lv_icmp_ne (tgt := 200) hx hb dX6_bring_193 (by decide) (fun c => ?_) (fun c => ?_)
                    · rw [if_neg c] at hf
                      refine lv_iconst (v := (0 : Int32)) hx hb dX6_bring_200 (by decide) ?_
                      exact B201 x0 x1 x2 x3 x4 x5 x6 x7 x8 x9 x10 x11 (x12 + (1 : Int32)) x13 x14 v20 v23 v25 (0 : Int32) v20 v26 h27 hf _ _ _ hI (lv_sub hl [8, 9, 10, 11, 12, 13, 14, 15, 16, 17, 18, 19, 3, 20, 21, 2, 1, 0] rfl)
                    · rw [if_pos c] at hf
                      exact B196 x0 x1 x2 x3 x4 x5 x6 x7 x8 x9 x10 x11 (x12 + (1 : Int32)) x13 x14 v20 v23 v25 v20 v26 h27 hf _ _ _ hI (lv_sub hl [8, 9, 10, 11, 12, 13, 14, 15, 16, 17, 18, 19, 3, 20, 21, 2, 1, 0] rfl)
                · rw [if_pos c] at hf
                  refine lv_iload hx hb dX6_bring_161 (lv_at hl 1 rfl) ?_
                  refine lv_iload hx hb dX6_bring_163 (lv_at hl 18 rfl) ?_
                  refine lv_icmp_eq (tgt := 172) hx hb dX6_bring_165 (by decide) (fun c => ?_) (fun c => ?_)
                  · rw [if_pos c] at hf
                    refine lv_iconst (v := (0 : Int32)) hx hb dX6_bring_172 (by decide) ?_
                    refine lv_goto (tgt := 201) hx hb dX6_bring_173 (by decide) ?_
                    exact B201 x0 x1 x2 x3 x4 x5 x6 x7 x8 x9 x10 x11 (x12 + (1 : Int32)) x13 x14 v20 v23 v25 (0 : Int32) v20 v26 h21 hf _ _ _ hI (lv_sub hl [8, 9, 10, 11, 12, 13, 14, 15, 16, 17, 18, 19, 3, 20, 21, 2, 1, 0] rfl)
                  · rw [if_neg c] at hf
                    refine lv_iconst (v := (1 : Int32)) hx hb dX6_bring_168 (by decide) ?_
                    refine lv_goto (tgt := 201) hx hb dX6_bring_169 (by decide) ?_
                    exact B201 x0 x1 x2 x3 x4 x5 x6 x7 x8 x9 x10 x11 (x12 + (1 : Int32)) x13 x14 v20 v23 v25 (1 : Int32) v20 v26 h21 hf _ _ _ hI (lv_sub hl [8, 9, 10, 11, 12, 13, 14, 15, 16, 17, 18, 19, 3, 20, 21, 2, 1, 0] rfl)
      intro x0 x1 x2 x3 x4 x5 x6 x7 x8 x9 x10 x11 x12 x13 h hf H locs ls hI hl
      unfold fX6_bring_31 at hf
      refine lv_iload hx hb dX6_bring_31 (lv_at hl 13 rfl) ?_
      refine lv_iload hx hb dX6_bring_33 (lv_at hl 5 rfl) ?_
      refine lv_icmp_ge (tgt := 267) hx hb dX6_bring_35 (by decide) (fun c => ?_) (fun c => ?_)
      · rw [if_pos c] at hf
        refine lv_iconst (v := (0 : Int32)) hx hb dX6_bring_267 (by decide) ?_
        refine lv_istore (lv' := [(13, .int (0 : Int32)), (0, va_rf x0), (1, .int x1), (2, .int x2), (3, .int x3), (4, .int x4), (5, .int x5), (6, .int x6), (7, .int x7), (8, .int x8), (9, .int x9), (10, .int x10), (11, .int x11), (12, .int x12)]) hx hb dX6_bring_268 hl (by decide) rfl (fun ls hl => ?_)
        exact B270 hm_fu x0 x6 x12 (0 : Int32) h hf _ _ _ hI (lv_sub hl [1, 7, 13, 0] rfl)
      · rw [if_neg c] at hf
        refine lv_iconst (v := (0 : Int32)) hx hb dX6_bring_38 (by decide) ?_
        refine lv_istore (lv' := [(14, .int (0 : Int32)), (0, va_rf x0), (1, .int x1), (2, .int x2), (3, .int x3), (4, .int x4), (5, .int x5), (6, .int x6), (7, .int x7), (8, .int x8), (9, .int x9), (10, .int x10), (11, .int x11), (12, .int x12), (13, .int x13)]) hx hb dX6_bring_39 hl (by decide) rfl (fun ls hl => ?_)
        exact B41 hm_fu x0 x1 x2 x3 x4 x5 x6 x7 x8 x9 x10 x11 x12 x13 (0 : Int32) h hf _ _ _ hI (lv_sub hl [1, 2, 3, 4, 5, 6, 7, 8, 9, 10, 11, 12, 13, 14, 0] rfl)
  have B3 : ∀ (fu : Nat) (x0 : Option Nat) (x1 : Int32) (x2 : Int32) (x3 : Int32) (x4 : Int32) (x5 : Int32) (x6 : Int32) (x7 : Int32) (x8 : Int32) (x9 : Int32) (x10 : Int32) (x11 : Int32) (x12 : Int32) (h : hm_H), hm_loop (fun _ _ _ _ _ _ _ _ _ _ _ _ _ _ => none) (fX6_bring_3) fu x0 x1 x2 x3 x4 x5 x6 x7 x8 x9 x10 x11 x12 h = some (r, h') → ∀ (H : Heap) (locs : List Loc) (ls : Array Slot), hm_I D vwCl kA (hm_A h0) s.heap h H locs → lv_has ls 26 [(0, va_rf x0), (1, .int x1), (2, .int x2), (3, .int x3), (4, .int x4), (5, .int x5), (6, .int x6), (7, .int x7), (8, .int x8), (9, .int x9), (10, .int x10), (11, .int x11), (12, .int x12)] → W p l e (headSpec wsX6_bring { frames := 2, cells := 0, slots := 0, locals := 50 }).room s m args below meth c H locs 0 0 (MQ below (hm_Q D vwCl kA (hm_ty kA) h0 (some (.int r)) h') args s 0 0 (hm_A h0)) (F0 m 3 ls []) := by
    intro fu
    induction fu with
    | zero => intro x0 x1 x2 x3 x4 x5 x6 x7 x8 x9 x10 x11 x12 h hf; cases hf
    | succ fu ih3 =>
      rw [hm_loop_s]
      generalize hm_loop (fun _ _ _ _ _ _ _ _ _ _ _ _ _ _ => none) (fX6_bring_3) fu = K3 at ih3 ⊢
      intro x0 x1 x2 x3 x4 x5 x6 x7 x8 x9 x10 x11 x12 h hf H locs ls hI hl
      unfold fX6_bring_3 at hf
      refine lv_iload hx hb dX6_bring_3 (lv_at hl 12 rfl) ?_
      refine lv_sipush (v := (4096 : Int32)) hx hb dX6_bring_5 (by decide) ?_
      refine lv_icmp_ge (tgt := 25) hx hb dX6_bring_8 (by decide) (fun c => ?_) (fun c => ?_)
      · rw [if_pos c] at hf
        refine lv_iconst (v := (0 : Int32)) hx hb dX6_bring_25 (by decide) ?_
        refine lv_istore (lv' := [(12, .int (0 : Int32)), (0, va_rf x0), (1, .int x1), (2, .int x2), (3, .int x3), (4, .int x4), (5, .int x5), (6, .int x6), (7, .int x7), (8, .int x8), (9, .int x9), (10, .int x10), (11, .int x11)]) hx hb dX6_bring_26 hl (by decide) rfl (fun ls hl => ?_)
        refine lv_iconst (v := (0 : Int32)) hx hb dX6_bring_28 (by decide) ?_
        refine lv_istore (lv' := [(13, .int (0 : Int32)), (12, .int (0 : Int32)), (0, va_rf x0), (1, .int x1), (2, .int x2), (3, .int x3), (4, .int x4), (5, .int x5), (6, .int x6), (7, .int x7), (8, .int x8), (9, .int x9), (10, .int x10), (11, .int x11)]) hx hb dX6_bring_29 hl (by decide) rfl (fun ls hl => ?_)
        exact B31 hm_fu x0 x1 x2 x3 x4 x5 x6 x7 x8 x9 x10 x11 (0 : Int32) (0 : Int32) h hf _ _ _ hI (lv_sub hl [2, 3, 4, 5, 6, 7, 8, 9, 10, 11, 12, 13, 1, 0] rfl)
      · rw [if_neg c] at hf
        refine hm_aload_n hx hb dX6_bring_11 rfl (lv_at hl 0 rfl) ?_
        obtain ⟨v1, ev1, hf⟩ := hm_b_s hf
        refine hm_get (ci := 6) (k := 7) (C := RX6) (T := TX6) (N := 16) hx hb hts hiX6 hown hK hI rfl (by decide) w1 (hm_gq_s ev1) dX6_bring_12 ?_
        refine lv_iload hx hb dX6_bring_15 (lv_at hl 12 rfl) ?_
        refine lv_iconst (v := (0 : Int32)) hx hb dX6_bring_17 (by decide) ?_
        obtain ⟨h2, eh2, hf⟩ := hm_b_s hf
        refine hm_zast (kd := 1) (t0 := 1) hx hb hK hI rfl eh2 dX6_bring_18 (fun H locs hI => ?_)
        refine lv_iinc (v := x12 + (1 : Int32)) (lv' := [(12, .int (x12 + (1 : Int32))), (0, va_rf x0), (1, .int x1), (2, .int x2), (3, .int x3), (4, .int x4), (5, .int x5), (6, .int x6), (7, .int x7), (8, .int x8), (9, .int x9), (10, .int x10), (11, .int x11)]) hx hb dX6_bring_19 hl (k := 12) rfl rfl (by decide) rfl (fun ls hl => ?_)
        refine lv_goto (tgt := 3) hx hb dX6_bring_22 (by decide) ?_
        exact ih3 x0 x1 x2 x3 x4 x5 x6 x7 x8 x9 x10 x11 (x12 + (1 : Int32)) h2 hf _ _ _ hI (lv_sub hl [1, 2, 3, 4, 5, 6, 7, 8, 9, 10, 11, 12, 0] rfl)
  rw [show entryFrame m args 26 = entryFrame m ([.ref t, .int a1, .int a2, .int a3, .int a4, .int a5, .int a6, .int a7, .int a8, .int a9, .int a10, .int a11] : List Value).toArray 26 from by rw [hargs]]
  have hl := lv_entry ([.ref t, .int a1, .int a2, .int a3, .int a4, .int a5, .int a6, .int a7, .int a8, .int a9, .int a10, .int a11]) (n := 26) (Nat.le_of_ble_eq_true rfl)
  rw [lg_entry_eq]
  generalize (lg_sl ([.ref t, .int a1, .int a2, .int a3, .int a4, .int a5, .int a6, .int a7, .int a8, .int a9, .int a10, .int a11]) ++ List.replicate (26 - (lg_sl ([.ref t, .int a1, .int a2, .int a3, .int a4, .int a5, .int a6, .int a7, .int a8, .int a9, .int a10, .int a11])).length) Slot.unset).toArray = ls at hl ⊢
  have hl : lv_has ls 26 [(0, va_rf (some t)), (1, .int a1), (2, .int a2), (3, .int a3), (4, .int a4), (5, .int a5), (6, .int a6), (7, .int a7), (8, .int a8), (9, .int a9), (10, .int a10), (11, .int a11)] := hl
  unfold fX6_bring at hf
  refine lv_iconst (v := (0 : Int32)) hx hb dX6_bring_0 (by decide) ?_
  refine lv_istore (lv' := [(12, .int (0 : Int32)), (0, va_rf (some t)), (1, .int a1), (2, .int a2), (3, .int a3), (4, .int a4), (5, .int a5), (6, .int a6), (7, .int a7), (8, .int a8), (9, .int a9), (10, .int a10), (11, .int a11)]) hx hb dX6_bring_1 hl (by decide) rfl (fun ls hl => ?_)
  exact B3 hm_fu (some t) a1 a2 a3 a4 a5 a6 a7 a8 a9 a10 a11 (0 : Int32) h0 hf _ _ _ hI (lv_sub hl [1, 2, 3, 4, 5, 6, 7, 8, 9, 10, 11, 12, 0] rfl)
/-! ==== X6_areAlike: BlitBoardModel.areAlike(IIII)Z ==== -/
def fX6_areAlike (t : Nat) (a1 : Int32) (a2 : Int32) (a3 : Int32) (a4 : Int32) (h0 : hm_H) : Option (Int32 × hm_H) :=
  hm_b (hm_rc 6 h0 (some t)) fun b2 =>
  hm_b2 (fX6_isSurface b2 a1 h0) fun v3 h1 =>
  if v3 = 0 then
    some ((0 : Int32), h1)
  else
    hm_b (hm_rc 6 h1 (some t)) fun b5 =>
    hm_b2 (fX6_isSurface b5 a2 h1) fun v6 h4 =>
    if v6 = 0 then
      some ((0 : Int32), h4)
    else
      hm_b2 (fX6_isSpan a3 h4) fun v8 h7 =>
      if v8 = 0 then
        some ((0 : Int32), h7)
      else
        hm_b2 (fX6_isSpan a4 h7) fun v10 h9 =>
        if v10 = 0 then
          some ((0 : Int32), h9)
        else
          hm_b (hm_gq 6 1 h9 (some t)) fun v11 =>
          hm_b (hm_ai 0 h9 v11 a1) fun v12 =>
          hm_b (hm_gq 6 1 h9 (some t)) fun v13 =>
          hm_b (hm_ai 0 h9 v13 a2) fun v14 =>
          if v12 = v14 then
            some ((1 : Int32), h9)
          else
            some ((0 : Int32), h9)
set_option maxRecDepth 100000 in
set_option maxHeartbeats 8000000 in
theorem kX6_areAlike (l : Launch) (D : va_G) (kA : Nat → ClassId) (t : Nat) (a1 : Int32) (a2 : Int32) (a3 : Int32) (a4 : Int32) (h0 h' : hm_H) (r : Int32) (hf : fX6_areAlike t a1 a2 a3 a4 h0 = some (r, h')) : hm_C l yX6_areAlike wsX6_areAlike { frames := 1, cells := 0, slots := 0, locals := 21 } D vwCl kA (hm_ty kA) [.ref t, .int a1, .int a2, .int a3, .int a4] h0 (some (.int r)) h' 0 0 := by
  refine Met.ofW (cc := cX6_areAlike) (maxL := 5) (ret := (some .boolean)) (by decide) rfl ?_
  intro p e s m args below meth c s₁ B hml hv
  obtain ⟨hargs, hB⟩ := hv
  have hx := B.exec
  have hb := B.bytes
  have hr := B.returns
  have hts := atoms_spec (ws := wsX6_areAlike) B.pre
  have hown : s.vm.findClass RX6 = some m.cls := findClass_of_methodNamed B.named
  have hlocks := B.notSynchronized
  have hK := hB.2
  have hI := hm_start hB
  have w1 := hts (.fieldLink RX6 7 "BlitBoardModel" "depths" "[I") (by decide +kernel)
  have hiX6 : ∀ w ∈ wsX60, w ∈ wsX6_areAlike := by decide +kernel
  rw [show entryFrame m args 5 = entryFrame m ([.ref t, .int a1, .int a2, .int a3, .int a4] : List Value).toArray 5 from by rw [hargs]]
  have hl := lv_entry ([.ref t, .int a1, .int a2, .int a3, .int a4]) (n := 5) (Nat.le_of_ble_eq_true rfl)
  rw [lg_entry_eq]
  generalize (lg_sl ([.ref t, .int a1, .int a2, .int a3, .int a4]) ++ List.replicate (5 - (lg_sl ([.ref t, .int a1, .int a2, .int a3, .int a4])).length) Slot.unset).toArray = ls at hl ⊢
  have hl : lv_has ls 5 [(0, va_rf (some t)), (1, .int a1), (2, .int a2), (3, .int a3), (4, .int a4)] := hl
  unfold fX6_areAlike at hf
  refine hm_aload_n hx hb dX6_areAlike_0 rfl (lv_at hl 0 rfl) ?_
  refine lv_iload_n hx hb dX6_areAlike_1 rfl (lv_at hl 1 rfl) ?_
  obtain ⟨b2, eb2, hf⟩ := hm_b_s hf
  obtain ⟨v3, h1, eh1, hf⟩ := hm_b2_s hf
  refine hm_cV (As := [.int a1]) (rest := []) ⟨hx, hb, hml, hown, hts⟩ hK hI eb2 rfl rfl (kX6_isSurface l D kA b2 a1 h0 h1 v3 eh1) (cwV 1 hts gX6_areAlike_X6_isSurface rfl rfl rfl (by decide +kernel) ⟨Nat.le_of_ble_eq_true rfl, Nat.le_of_ble_eq_true rfl⟩) rfl hl.1 rfl (by first | exact Nat.le_of_ble_eq_true rfl | (simp only [List.map, hm_rf_cat, hm_ci, hm_cl, List.sum_cons, List.sum_nil] <;> decide)) dX6_areAlike_2 ⟨Nat.le_of_ble_eq_true rfl, Nat.le_of_ble_eq_true rfl⟩ (fun H locs hI => ?_)
  refine lv_if_eq (tgt := 50) hx hb dX6_areAlike_5 (by decide) (fun c => ?_) (fun c => ?_)
  · rw [if_pos c] at hf
    refine lv_iconst (v := (0 : Int32)) hx hb dX6_areAlike_50 (by decide) ?_
    exact hm_zret_e hf hx hb hr hlocks hK hI (Nat.le_of_ble_eq_true rfl) (Nat.le_of_ble_eq_true rfl) rfl dX6_areAlike_51
  · rw [if_neg c] at hf
    refine hm_aload_n hx hb dX6_areAlike_8 rfl (lv_at hl 0 rfl) ?_
    refine lv_iload_n hx hb dX6_areAlike_9 rfl (lv_at hl 2 rfl) ?_
    obtain ⟨b5, eb5, hf⟩ := hm_b_s hf
    obtain ⟨v6, h4, eh4, hf⟩ := hm_b2_s hf
    refine hm_cV (As := [.int a2]) (rest := []) ⟨hx, hb, hml, hown, hts⟩ hK hI eb5 rfl rfl (kX6_isSurface l D kA b5 a2 h1 h4 v6 eh4) (cwV 1 hts gX6_areAlike_X6_isSurface rfl rfl rfl (by decide +kernel) ⟨Nat.le_of_ble_eq_true rfl, Nat.le_of_ble_eq_true rfl⟩) rfl hl.1 rfl (by first | exact Nat.le_of_ble_eq_true rfl | (simp only [List.map, hm_rf_cat, hm_ci, hm_cl, List.sum_cons, List.sum_nil] <;> decide)) dX6_areAlike_10 ⟨Nat.le_of_ble_eq_true rfl, Nat.le_of_ble_eq_true rfl⟩ (fun H locs hI => ?_)
    refine lv_if_eq (tgt := 50) hx hb dX6_areAlike_13 (by decide) (fun c => ?_) (fun c => ?_)
    · rw [if_pos c] at hf
      refine lv_iconst (v := (0 : Int32)) hx hb dX6_areAlike_50 (by decide) ?_
      exact hm_zret_e hf hx hb hr hlocks hK hI (Nat.le_of_ble_eq_true rfl) (Nat.le_of_ble_eq_true rfl) rfl dX6_areAlike_51
    · rw [if_neg c] at hf
      refine lv_iload_n hx hb dX6_areAlike_16 rfl (lv_at hl 3 rfl) ?_
      obtain ⟨v8, h7, eh7, hf⟩ := hm_b2_s hf
      refine hm_cS (As := [.int a3]) (rest := []) ⟨hx, hb, hml, hown, hts⟩ hK hI (kX6_isSpan l D kA a3 h4 h7 v8 eh7) (va_cwS 1 hts gX6_areAlike_X6_isSpan rfl rfl rfl (by decide +kernel) ⟨Nat.le_of_ble_eq_true rfl, Nat.le_of_ble_eq_true rfl⟩) rfl hl.1 rfl (by first | exact Nat.le_of_ble_eq_true rfl | (simp only [List.map, hm_rf_cat, hm_ci, hm_cl, List.sum_cons, List.sum_nil] <;> decide)) dX6_areAlike_17 ⟨Nat.le_of_ble_eq_true rfl, Nat.le_of_ble_eq_true rfl⟩ (fun H locs hI => ?_)
      refine lv_if_eq (tgt := 50) hx hb dX6_areAlike_20 (by decide) (fun c => ?_) (fun c => ?_)
      · rw [if_pos c] at hf
        refine lv_iconst (v := (0 : Int32)) hx hb dX6_areAlike_50 (by decide) ?_
        exact hm_zret_e hf hx hb hr hlocks hK hI (Nat.le_of_ble_eq_true rfl) (Nat.le_of_ble_eq_true rfl) rfl dX6_areAlike_51
      · rw [if_neg c] at hf
        refine lv_iload hx hb dX6_areAlike_23 (lv_at hl 4 rfl) ?_
        obtain ⟨v10, h9, eh9, hf⟩ := hm_b2_s hf
        refine hm_cS (As := [.int a4]) (rest := []) ⟨hx, hb, hml, hown, hts⟩ hK hI (kX6_isSpan l D kA a4 h7 h9 v10 eh9) (va_cwS 1 hts gX6_areAlike_X6_isSpan rfl rfl rfl (by decide +kernel) ⟨Nat.le_of_ble_eq_true rfl, Nat.le_of_ble_eq_true rfl⟩) rfl hl.1 rfl (by first | exact Nat.le_of_ble_eq_true rfl | (simp only [List.map, hm_rf_cat, hm_ci, hm_cl, List.sum_cons, List.sum_nil] <;> decide)) dX6_areAlike_25 ⟨Nat.le_of_ble_eq_true rfl, Nat.le_of_ble_eq_true rfl⟩ (fun H locs hI => ?_)
        refine lv_if_eq (tgt := 50) hx hb dX6_areAlike_28 (by decide) (fun c => ?_) (fun c => ?_)
        · rw [if_pos c] at hf
          refine lv_iconst (v := (0 : Int32)) hx hb dX6_areAlike_50 (by decide) ?_
          exact hm_zret_e hf hx hb hr hlocks hK hI (Nat.le_of_ble_eq_true rfl) (Nat.le_of_ble_eq_true rfl) rfl dX6_areAlike_51
        · rw [if_neg c] at hf
          refine hm_aload_n hx hb dX6_areAlike_31 rfl (lv_at hl 0 rfl) ?_
          obtain ⟨v11, ev11, hf⟩ := hm_b_s hf
          refine hm_get (ci := 6) (k := 1) (C := RX6) (T := TX6) (N := 16) hx hb hts hiX6 hown hK hI rfl (by decide) w1 (hm_gq_s ev11) dX6_areAlike_32 ?_
          refine lv_iload_n hx hb dX6_areAlike_35 rfl (lv_at hl 1 rfl) ?_
          obtain ⟨v12, ev12, hf⟩ := hm_b_s hf
          refine hm_iald (kd := 0) (t0 := 0) hx hb hK hI rfl ev12 dX6_areAlike_36 ?_
          refine hm_aload_n hx hb dX6_areAlike_37 rfl (lv_at hl 0 rfl) ?_
          obtain ⟨v13, ev13, hf⟩ := hm_b_s hf
          refine hm_get (ci := 6) (k := 1) (C := RX6) (T := TX6) (N := 16) hx hb hts hiX6 hown hK hI rfl (by decide) w1 (hm_gq_s ev13) dX6_areAlike_38 ?_
          refine lv_iload_n hx hb dX6_areAlike_41 rfl (lv_at hl 2 rfl) ?_
          obtain ⟨v14, ev14, hf⟩ := hm_b_s hf
          refine hm_iald (kd := 0) (t0 := 0) hx hb hK hI rfl ev14 dX6_areAlike_42 ?_
          refine lv_icmp_ne (tgt := 50) hx hb dX6_areAlike_43 (by decide) (fun c => ?_) (fun c => ?_)
          · rw [if_neg c] at hf
            refine lv_iconst (v := (0 : Int32)) hx hb dX6_areAlike_50 (by decide) ?_
            exact hm_zret_e hf hx hb hr hlocks hK hI (Nat.le_of_ble_eq_true rfl) (Nat.le_of_ble_eq_true rfl) rfl dX6_areAlike_51
          · rw [if_pos c] at hf
            refine lv_iconst (v := (1 : Int32)) hx hb dX6_areAlike_46 (by decide) ?_
            refine lv_goto (tgt := 51) hx hb dX6_areAlike_47 (by decide) ?_
            exact hm_zret_e hf hx hb hr hlocks hK hI (Nat.le_of_ble_eq_true rfl) (Nat.le_of_ble_eq_true rfl) rfl dX6_areAlike_51
/-! ==== X6_copy: BlitBoardModel.copy(IIIIIIIII)I ==== -/
def fX6_copy_31 (x0 : Option Nat) (x1 : Int32) (x2 : Int32) (x3 : Int32) (x4 : Int32) (x5 : Int32) (x6 : Int32) (x7 : Int32) (x8 : Int32) (x9 : Int32) (s0 : Int32) (h : hm_H) : Option (Int32 × hm_H) :=
  if s0 = 0 then
    some ((-1 : Int32), h)
  else
    hm_b (hm_rc 6 h x0) fun b5 =>
    hm_b2 (fX6_bring b5 x1 x2 x3 x4 x5 x6 x7 x8 (0 : Int32) x9 (0 : Int32) h) fun v6 h4 =>
    some (v6, h4)
def fX6_copy_30 (x0 : Option Nat) (x1 : Int32) (x2 : Int32) (x3 : Int32) (x4 : Int32) (x5 : Int32) (x6 : Int32) (x7 : Int32) (x8 : Int32) (x9 : Int32) (h : hm_H) : Option (Int32 × hm_H) :=
  fX6_copy_31 x0 x1 x2 x3 x4 x5 x6 x7 x8 x9 (0 : Int32) h
def fX6_copy (t : Nat) (a1 : Int32) (a2 : Int32) (a3 : Int32) (a4 : Int32) (a5 : Int32) (a6 : Int32) (a7 : Int32) (a8 : Int32) (a9 : Int32) (h0 : hm_H) : Option (Int32 × hm_H) :=
  hm_b (hm_rc 6 h0 (some t)) fun b2 =>
  hm_b2 (fX6_areAlike b2 a1 a6 a4 a5 h0) fun v3 h1 =>
  if v3 = 0 then
    fX6_copy_30 (some t) a1 a2 a3 a4 a5 a6 a7 a8 a9 h1
  else
    if a9 < 0 then
      fX6_copy_30 (some t) a1 a2 a3 a4 a5 a6 a7 a8 a9 h1
    else
      if (16 : Int32) ≤ a9 then
        fX6_copy_30 (some t) a1 a2 a3 a4 a5 a6 a7 a8 a9 h1
      else
        fX6_copy_31 (some t) a1 a2 a3 a4 a5 a6 a7 a8 a9 (1 : Int32) h1
set_option maxRecDepth 100000 in
set_option maxHeartbeats 8000000 in
theorem kX6_copy (l : Launch) (D : va_G) (kA : Nat → ClassId) (t : Nat) (a1 : Int32) (a2 : Int32) (a3 : Int32) (a4 : Int32) (a5 : Int32) (a6 : Int32) (a7 : Int32) (a8 : Int32) (a9 : Int32) (h0 h' : hm_H) (r : Int32) (hf : fX6_copy t a1 a2 a3 a4 a5 a6 a7 a8 a9 h0 = some (r, h')) : hm_C l yX6_copy wsX6_copy { frames := 3, cells := 0, slots := 0, locals := 95 } D vwCl kA (hm_ty kA) [.ref t, .int a1, .int a2, .int a3, .int a4, .int a5, .int a6, .int a7, .int a8, .int a9] h0 (some (.int r)) h' 0 0 := by
  refine Met.ofW (cc := cX6_copy) (maxL := 11) (ret := (some .int)) (by decide) rfl ?_
  intro p e s m args below meth c s₁ B hml hv
  obtain ⟨hargs, hB⟩ := hv
  have hx := B.exec
  have hb := B.bytes
  have hr := B.returns
  have hts := atoms_spec (ws := wsX6_copy) B.pre
  have hown : s.vm.findClass RX6 = some m.cls := findClass_of_methodNamed B.named
  have hlocks := B.notSynchronized
  have hK := hB.2
  have hI := hm_start hB
  have B31 : ∀ (x0 : Option Nat) (x1 : Int32) (x2 : Int32) (x3 : Int32) (x4 : Int32) (x5 : Int32) (x6 : Int32) (x7 : Int32) (x8 : Int32) (x9 : Int32) (s0 : Int32) (h : hm_H), fX6_copy_31 x0 x1 x2 x3 x4 x5 x6 x7 x8 x9 s0 h = some (r, h') → ∀ (H : Heap) (locs : List Loc) (ls : Array Slot), hm_I D vwCl kA (hm_A h0) s.heap h H locs → lv_has ls 11 [(0, va_rf x0), (1, .int x1), (2, .int x2), (3, .int x3), (4, .int x4), (5, .int x5), (6, .int x6), (7, .int x7), (8, .int x8), (9, .int x9)] → W p l e (headSpec wsX6_copy { frames := 3, cells := 0, slots := 0, locals := 95 }).room s m args below meth c H locs 0 0 (MQ below (hm_Q D vwCl kA (hm_ty kA) h0 (some (.int r)) h') args s 0 0 (hm_A h0)) (F0 m 31 ls [.int s0]) := by
    intro x0 x1 x2 x3 x4 x5 x6 x7 x8 x9 s0 h hf H locs ls hI hl
    unfold fX6_copy_31 at hf
    refine lv_istore (lv' := [(10, .int s0), (0, va_rf x0), (1, .int x1), (2, .int x2), (3, .int x3), (4, .int x4), (5, .int x5), (6, .int x6), (7, .int x7), (8, .int x8), (9, .int x9)]) hx hb dX6_copy_31 hl (by decide) rfl (fun ls hl => ?_)
    refine lv_iload hx hb dX6_copy_33 (lv_at hl 0 rfl) ?_
    refine lv_if_eq (tgt := 62) hx hb dX6_copy_35 (by decide) (fun c => ?_) (fun c => ?_)
    · rw [if_pos c] at hf
      refine lv_iconst (v := (-1 : Int32)) hx hb dX6_copy_62 (by decide) ?_
      exact hm_iret_e hf hx hb hr hlocks hK hI (Nat.le_of_ble_eq_true rfl) (Nat.le_of_ble_eq_true rfl) dX6_copy_63
    · rw [if_neg c] at hf
      refine hm_aload_n hx hb dX6_copy_38 rfl (lv_at hl 1 rfl) ?_
      refine lv_iload_n hx hb dX6_copy_39 rfl (lv_at hl 2 rfl) ?_
      refine lv_iload_n hx hb dX6_copy_40 rfl (lv_at hl 3 rfl) ?_
      refine lv_iload_n hx hb dX6_copy_41 rfl (lv_at hl 4 rfl) ?_
      refine lv_iload hx hb dX6_copy_42 (lv_at hl 5 rfl) ?_
      refine lv_iload hx hb dX6_copy_44 (lv_at hl 6 rfl) ?_
      refine lv_iload hx hb dX6_copy_46 (lv_at hl 7 rfl) ?_
      refine lv_iload hx hb dX6_copy_48 (lv_at hl 8 rfl) ?_
      refine lv_iload hx hb dX6_copy_50 (lv_at hl 9 rfl) ?_
      refine lv_iconst (v := (0 : Int32)) hx hb dX6_copy_52 (by decide) ?_
      refine lv_iload hx hb dX6_copy_53 (lv_at hl 10 rfl) ?_
      refine lv_iconst (v := (0 : Int32)) hx hb dX6_copy_55 (by decide) ?_
      obtain ⟨b5, eb5, hf⟩ := hm_b_s hf
      obtain ⟨v6, h4, eh4, hf⟩ := hm_b2_s hf
      refine hm_cV (As := [.int x1, .int x2, .int x3, .int x4, .int x5, .int x6, .int x7, .int x8, .int (0 : Int32), .int x9, .int (0 : Int32)]) (rest := []) ⟨hx, hb, hml, hown, hts⟩ hK hI eb5 rfl rfl (kX6_bring l D kA b5 x1 x2 x3 x4 x5 x6 x7 x8 (0 : Int32) x9 (0 : Int32) h h4 v6 eh4) (cwV 11 hts gX6_copy_X6_bring rfl rfl rfl (by decide +kernel) ⟨Nat.le_of_ble_eq_true rfl, Nat.le_of_ble_eq_true rfl⟩) rfl hl.1 rfl (by first | exact Nat.le_of_ble_eq_true rfl | (simp only [List.map, hm_rf_cat, hm_ci, hm_cl, List.sum_cons, List.sum_nil] <;> decide)) dX6_copy_56 ⟨Nat.le_of_ble_eq_true rfl, Nat.le_of_ble_eq_true rfl⟩ (fun H locs hI => ?_)
      refine lv_goto (tgt := 63) hx hb dX6_copy_59 (by decide) ?_
      exact hm_iret_e hf hx hb hr hlocks hK hI (Nat.le_of_ble_eq_true rfl) (Nat.le_of_ble_eq_true rfl) dX6_copy_63
  have B30 : ∀ (x0 : Option Nat) (x1 : Int32) (x2 : Int32) (x3 : Int32) (x4 : Int32) (x5 : Int32) (x6 : Int32) (x7 : Int32) (x8 : Int32) (x9 : Int32) (h : hm_H), fX6_copy_30 x0 x1 x2 x3 x4 x5 x6 x7 x8 x9 h = some (r, h') → ∀ (H : Heap) (locs : List Loc) (ls : Array Slot), hm_I D vwCl kA (hm_A h0) s.heap h H locs → lv_has ls 11 [(0, va_rf x0), (1, .int x1), (2, .int x2), (3, .int x3), (4, .int x4), (5, .int x5), (6, .int x6), (7, .int x7), (8, .int x8), (9, .int x9)] → W p l e (headSpec wsX6_copy { frames := 3, cells := 0, slots := 0, locals := 95 }).room s m args below meth c H locs 0 0 (MQ below (hm_Q D vwCl kA (hm_ty kA) h0 (some (.int r)) h') args s 0 0 (hm_A h0)) (F0 m 30 ls []) := by
    intro x0 x1 x2 x3 x4 x5 x6 x7 x8 x9 h hf H locs ls hI hl
    unfold fX6_copy_30 at hf
    refine lv_iconst (v := (0 : Int32)) hx hb dX6_copy_30 (by decide) ?_
    exact B31 x0 x1 x2 x3 x4 x5 x6 x7 x8 x9 (0 : Int32) h hf _ _ _ hI (lv_sub hl [0, 1, 2, 3, 4, 5, 6, 7, 8, 9] rfl)
  rw [show entryFrame m args 11 = entryFrame m ([.ref t, .int a1, .int a2, .int a3, .int a4, .int a5, .int a6, .int a7, .int a8, .int a9] : List Value).toArray 11 from by rw [hargs]]
  have hl := lv_entry ([.ref t, .int a1, .int a2, .int a3, .int a4, .int a5, .int a6, .int a7, .int a8, .int a9]) (n := 11) (Nat.le_of_ble_eq_true rfl)
  rw [lg_entry_eq]
  generalize (lg_sl ([.ref t, .int a1, .int a2, .int a3, .int a4, .int a5, .int a6, .int a7, .int a8, .int a9]) ++ List.replicate (11 - (lg_sl ([.ref t, .int a1, .int a2, .int a3, .int a4, .int a5, .int a6, .int a7, .int a8, .int a9])).length) Slot.unset).toArray = ls at hl ⊢
  have hl : lv_has ls 11 [(0, va_rf (some t)), (1, .int a1), (2, .int a2), (3, .int a3), (4, .int a4), (5, .int a5), (6, .int a6), (7, .int a7), (8, .int a8), (9, .int a9)] := hl
  unfold fX6_copy at hf
  refine hm_aload_n hx hb dX6_copy_0 rfl (lv_at hl 0 rfl) ?_
  refine lv_iload_n hx hb dX6_copy_1 rfl (lv_at hl 1 rfl) ?_
  refine lv_iload hx hb dX6_copy_2 (lv_at hl 6 rfl) ?_
  refine lv_iload hx hb dX6_copy_4 (lv_at hl 4 rfl) ?_
  refine lv_iload hx hb dX6_copy_6 (lv_at hl 5 rfl) ?_
  obtain ⟨b2, eb2, hf⟩ := hm_b_s hf
  obtain ⟨v3, h1, eh1, hf⟩ := hm_b2_s hf
  refine hm_cV (As := [.int a1, .int a6, .int a4, .int a5]) (rest := []) ⟨hx, hb, hml, hown, hts⟩ hK hI eb2 rfl rfl (kX6_areAlike l D kA b2 a1 a6 a4 a5 h0 h1 v3 eh1) (cwV 4 hts gX6_copy_X6_areAlike rfl rfl rfl (by decide +kernel) ⟨Nat.le_of_ble_eq_true rfl, Nat.le_of_ble_eq_true rfl⟩) rfl hl.1 rfl (by first | exact Nat.le_of_ble_eq_true rfl | (simp only [List.map, hm_rf_cat, hm_ci, hm_cl, List.sum_cons, List.sum_nil] <;> decide)) dX6_copy_8 ⟨Nat.le_of_ble_eq_true rfl, Nat.le_of_ble_eq_true rfl⟩ (fun H locs hI => ?_)
  refine lv_if_eq (tgt := 30) hx hb dX6_copy_11 (by decide) (fun c => ?_) (fun c => ?_)
  · rw [if_pos c] at hf
    exact B30 (some t) a1 a2 a3 a4 a5 a6 a7 a8 a9 h1 hf _ _ _ hI (lv_sub hl [0, 1, 2, 3, 4, 5, 6, 7, 8, 9] rfl)
  · rw [if_neg c] at hf
    refine lv_iload hx hb dX6_copy_14 (lv_at hl 9 rfl) ?_
    refine lv_if_lt (tgt := 30) hx hb dX6_copy_16 (by decide) (fun c => ?_) (fun c => ?_)
    · rw [if_pos c] at hf
      exact B30 (some t) a1 a2 a3 a4 a5 a6 a7 a8 a9 h1 hf _ _ _ hI (lv_sub hl [0, 1, 2, 3, 4, 5, 6, 7, 8, 9] rfl)
    · rw [if_neg c] at hf
      refine lv_iload hx hb dX6_copy_19 (lv_at hl 9 rfl) ?_
      refine lv_bipush (v := (16 : Int32)) hx hb dX6_copy_21 (by decide) ?_
      refine lv_icmp_ge (tgt := 30) hx hb dX6_copy_23 (by decide) (fun c => ?_) (fun c => ?_)
      · rw [if_pos c] at hf
        exact B30 (some t) a1 a2 a3 a4 a5 a6 a7 a8 a9 h1 hf _ _ _ hI (lv_sub hl [0, 1, 2, 3, 4, 5, 6, 7, 8, 9] rfl)
      · rw [if_neg c] at hf
        refine lv_iconst (v := (1 : Int32)) hx hb dX6_copy_26 (by decide) ?_
        refine lv_goto (tgt := 31) hx hb dX6_copy_27 (by decide) ?_
        exact B31 (some t) a1 a2 a3 a4 a5 a6 a7 a8 a9 (1 : Int32) h1 hf _ _ _ hI (lv_sub hl [0, 1, 2, 3, 4, 5, 6, 7, 8, 9] rfl)
