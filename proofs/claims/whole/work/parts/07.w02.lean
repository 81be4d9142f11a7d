/-! ==== X3_fits: BlitBoard$Surface.fits(I)Z ==== -/
def fX3_fits (t : Nat) (a1 : Int32) (h0 : hm_H) : Option (Int32 × hm_H) :=
  if a1 < 0 then
    some ((0 : Int32), h0)
  else
    hm_b (hm_gi 3 1 h0 (some t)) fun v1 =>
    if v1 < a1 then
      some ((0 : Int32), h0)
    else
      some ((1 : Int32), h0)
set_option maxRecDepth 100000 in
set_option maxHeartbeats 8000000 in
theorem kX3_fits (l : Launch) (D : va_G) (kA : Nat → ClassId) (t : Nat) (a1 : Int32) (h0 h' : hm_H) (r : Int32) (hf : fX3_fits t a1 h0 = some (r, h')) : hm_C l yX3_fits wsX3_fits { frames := 0, cells := 0, slots := 0, locals := 0 } D vwCl kA (hm_ty kA) [.ref t, .int a1] h0 (some (.int r)) h' 0 0 := by
  refine Met.ofW (cc := cX3_fits) (maxL := 2) (ret := (some .boolean)) (by decide) rfl ?_
  intro p e s m args below meth c s₁ B hml hv
  obtain ⟨hargs, hB⟩ := hv
  have hx := B.exec
  have hb := B.bytes
  have hr := B.returns
  have hts := atoms_spec (ws := wsX3_fits) B.pre
  have hown : s.vm.findClass RX3 = some m.cls := findClass_of_methodNamed B.named
  have hlocks := B.notSynchronized
  have hK := hB.2
  have hI := hm_start hB
  have w1 := hts (.fieldLink RX3 13 "BlitBoard$Surface" "largest" "I") (by decide +kernel)
  have hiX3 : ∀ w ∈ wsX30, w ∈ wsX3_fits := by decide +kernel
  rw [show entryFrame m args 2 = entryFrame m ([.ref t, .int a1] : List Value).toArray 2 from by rw [hargs]]
  have hl := lv_entry ([.ref t, .int a1]) (n := 2) (Nat.le_of_ble_eq_true rfl)
  rw [lg_entry_eq]
  generalize (lg_sl ([.ref t, .int a1]) ++ List.replicate (2 - (lg_sl ([.ref t, .int a1])).length) Slot.unset).toArray = ls at hl ⊢
  have hl : lv_has ls 2 [(0, va_rf (some t)), (1, .int a1)] := hl
  unfold fX3_fits at hf
  refine lv_iload_n hx hb dX3_fits_0 rfl (lv_at hl 1 rfl) ?_
  refine lv_if_lt (tgt := 16) hx hb dX3_fits_1 (by decide) (fun c => ?_) (fun c => ?_)
  · rw [if_pos c] at hf
    refine lv_iconst (v := (0 : Int32)) hx hb dX3_fits_16 (by decide) ?_
    exact hm_zret_e hf hx hb hr hlocks hK hI (Nat.le_of_ble_eq_true rfl) (Nat.le_of_ble_eq_true rfl) rfl dX3_fits_17
  · rw [if_neg c] at hf
    refine lv_iload_n hx hb dX3_fits_4 rfl (lv_at hl 1 rfl) ?_
    refine hm_aload_n hx hb dX3_fits_5 rfl (lv_at hl 0 rfl) ?_
    obtain ⟨v1, ev1, hf⟩ := hm_b_s hf
    refine hm_get (ci := 3) (k := 1) (C := RX3) (T := TX3) (N := 5) hx hb hts hiX3 hown hK hI rfl (by decide) w1 (hm_gi_s ev1) dX3_fits_6 ?_
    refine lv_icmp_gt (tgt := 16) hx hb dX3_fits_9 (by decide) (fun c => ?_) (fun c => ?_)
    · rw [if_pos c] at hf
      refine lv_iconst (v := (0 : Int32)) hx hb dX3_fits_16 (by decide) ?_
      exact hm_zret_e hf hx hb hr hlocks hK hI (Nat.le_of_ble_eq_true rfl) (Nat.le_of_ble_eq_true rfl) rfl dX3_fits_17
    · rw [if_neg c] at hf
      refine lv_iconst (v := (1 : Int32)) hx hb dX3_fits_12 (by decide) ?_
      refine lv_goto (tgt := 17) hx hb dX3_fits_13 (by decide) ?_
      exact hm_zret_e hf hx hb hr hlocks hK hI (Nat.le_of_ble_eq_true rfl) (Nat.le_of_ble_eq_true rfl) rfl dX3_fits_17
/-! ==== X3_isOne: BlitBoard$Surface.isOne(JJ)Z ==== -/
def fX3_isOne (t : Nat) (a1 : Int64) (a2 : Int64) (h0 : hm_H) : Option (Int32 × hm_H) :=
  hm_b (hm_gq 3 2 h0 (some t)) fun v1 =>
  hm_b (hm_rc 0 h0 v1) fun b3 =>
  hm_b2 (fX0_holds b3 a1 a2 h0) fun v4 h2 =>
  if v4 = 0 then
    some ((0 : Int32), h2)
  else
    hm_b (hm_gq 3 3 h2 (some t)) fun v5 =>
    hm_b (hm_rc 3 h2 (some t)) fun b7 =>
    hm_b2 (fX3_indexOf b7 a1 a2 h2) fun v8 h6 =>
    hm_b (hm_ai 0 h6 v5 v8) fun v9 =>
    if v9 = (1 : Int32) then
      some ((1 : Int32), h6)
    else
      some ((0 : Int32), h6)
set_option maxRecDepth 100000 in
set_option maxHeartbeats 8000000 in
theorem kX3_isOne (l : Launch) (D : va_G) (kA : Nat → ClassId) (t : Nat) (a1 : Int64) (a2 : Int64) (h0 h' : hm_H) (r : Int32) (hf : fX3_isOne t a1 a2 h0 = some (r, h')) : hm_C l yX3_isOne wsX3_isOne { frames := 1, cells := 0, slots := 0, locals := 24 } D vwCl kA (hm_ty kA) [.ref t, .long a1, .long a2] h0 (some (.int r)) h' 0 0 := by
  refine Met.ofW (cc := cX3_isOne) (maxL := 5) (ret := (some .boolean)) (by decide) rfl ?_
  intro p e s m args below meth c s₁ B hml hv
  obtain ⟨hargs, hB⟩ := hv
  have hx := B.exec
  have hb := B.bytes
  have hr := B.returns
  have hts := atoms_spec (ws := wsX3_isOne) B.pre
  have hown : s.vm.findClass RX3 = some m.cls := findClass_of_methodNamed B.named
  have hlocks := B.notSynchronized
  have hK := hB.2
  have hI := hm_start hB
  have w1 := hts (.fieldLink RX3 21 "BlitBoard$Surface" "whole" "LBlitBoard$Area;") (by decide +kernel)
  have w2 := hts (.fieldLink RX3 25 "BlitBoard$Surface" "dots" "[I") (by decide +kernel)
  have hiX3 : ∀ w ∈ wsX30, w ∈ wsX3_isOne := by decide +kernel
  rw [show entryFrame m args 5 = entryFrame m ([.ref t, .long a1, .long a2] : List Value).toArray 5 from by rw [hargs]]
  have hl := lv_entry ([.ref t, .long a1, .long a2]) (n := 5) (Nat.le_of_ble_eq_true rfl)
  rw [lg_entry_eq]
  generalize (lg_sl ([.ref t, .long a1, .long a2]) ++ List.replicate (5 - (lg_sl ([.ref t, .long a1, .long a2])).length) Slot.unset).toArray = ls at hl ⊢
  have hl : lv_has ls 5 [(0, va_rf (some t)), (1, .long a1), (3, .long a2)] := hl
  unfold fX3_isOne at hf
  refine hm_aload_n hx hb dX3_isOne_0 rfl (lv_at hl 0 rfl) ?_
  obtain ⟨v1, ev1, hf⟩ := hm_b_s hf
  refine hm_get (ci := 3) (k := 2) (C := RX3) (T := TX3) (N := 5) hx hb hts hiX3 hown hK hI rfl (by decide) w1 (hm_gq_s ev1) dX3_isOne_1 ?_
  refine lv_lload_n hx hb dX3_isOne_4 rfl (lv_at hl 1 rfl) ?_
  refine lv_lload_n hx hb dX3_isOne_5 rfl (lv_at hl 2 rfl) ?_
  obtain ⟨b3, eb3, hf⟩ := hm_b_s hf
  obtain ⟨v4, h2, eh2, hf⟩ := hm_b2_s hf
  refine hm_cV (As := [.long a1, .long a2]) (rest := []) ⟨hx, hb, hml, hown, hts⟩ hK hI eb3 rfl rfl (kX0_holds l D kA b3 a1 a2 h0 h2 v4 eh2) (cwV 2 hts gX3_isOne_X0_holds rfl rfl rfl (by decide +kernel) ⟨Nat.le_of_ble_eq_true rfl, Nat.le_of_ble_eq_true rfl⟩) rfl hl.1 rfl (by first | exact Nat.le_of_ble_eq_true rfl | (simp only [List.map, hm_rf_cat, hm_ci, hm_cl, List.sum_cons, List.sum_nil] <;> decide)) dX3_isOne_6 ⟨Nat.le_of_ble_eq_true rfl, Nat.le_of_ble_eq_true rfl⟩ (fun H locs hI => ?_)
  refine lv_if_eq (tgt := 31) hx hb dX3_isOne_9 (by decide) (fun c => ?_) (fun c => ?_)
  · rw [if_pos c] at hf
    refine lv_iconst (v := (0 : Int32)) hx hb dX3_isOne_31 (by decide) ?_
    exact hm_zret_e hf hx hb hr hlocks hK hI (Nat.le_of_ble_eq_true rfl) (Nat.le_of_ble_eq_true rfl) rfl dX3_isOne_32
  · rw [if_neg c] at hf
    refine hm_aload_n hx hb dX3_isOne_12 rfl (lv_at hl 0 rfl) ?_
    obtain ⟨v5, ev5, hf⟩ := hm_b_s hf
    refine hm_get (ci := 3) (k := 3) (C := RX3) (T := TX3) (N := 5) hx hb hts hiX3 hown hK hI rfl (by decide) w2 (hm_gq_s ev5) dX3_isOne_13 ?_
    refine hm_aload_n hx hb dX3_isOne_16 rfl (lv_at hl 0 rfl) ?_
    refine lv_lload_n hx hb dX3_isOne_17 rfl (lv_at hl 1 rfl) ?_
    refine lv_lload_n hx hb dX3_isOne_18 rfl (lv_at hl 2 rfl) ?_
    obtain ⟨b7, eb7, hf⟩ := hm_b_s hf
    obtain ⟨v8, h6, eh6, hf⟩ := hm_b2_s hf
    refine hm_cV (As := [.long a1, .long a2]) (rest := [va_rf v5]) ⟨hx, hb, hml, hown, hts⟩ hK hI eb7 rfl rfl (kX3_indexOf l D kA b7 a1 a2 h2 h6 v8 eh6) (cwV 2 hts gX3_isOne_X3_indexOf rfl rfl rfl (by decide +kernel) ⟨Nat.le_of_ble_eq_true rfl, Nat.le_of_ble_eq_true rfl⟩) rfl hl.1 rfl (by first | exact Nat.le_of_ble_eq_true rfl | (simp only [List.map, hm_rf_cat, hm_ci, hm_cl, List.sum_cons, List.sum_nil] <;> decide)) dX3_isOne_19 ⟨Nat.le_of_ble_eq_true rfl, Nat.le_of_ble_eq_true rfl⟩ (fun H locs hI => ?_)
    obtain ⟨v9, ev9, hf⟩ := hm_b_s hf
    refine hm_iald (kd := 0) (t0 := 0) hx hb hK hI rfl ev9 dX3_isOne_22 ?_
    refine lv_iconst (v := (1 : Int32)) hx hb dX3_isOne_23 (by decide) ?_
    refine lv_icmp_ne (tgt := 31) hx hb dX3_isOne_24 (by decide) (fun c => ?_) (fun c => ?_)
    · rw [if_neg c] at hf
      refine lv_iconst (v := (0 : Int32)) hx hb dX3_isOne_31 (by decide) ?_
      exact hm_zret_e hf hx hb hr hlocks hK hI (Nat.le_of_ble_eq_true rfl) (Nat.le_of_ble_eq_true rfl) rfl dX3_isOne_32
    · rw [if_pos c] at hf
      refine lv_iconst (v := (1 : Int32)) hx hb dX3_isOne_27 (by decide) ?_
      refine lv_goto (tgt := 32) hx hb dX3_isOne_28 (by decide) ?_
      exact hm_zret_e hf hx hb hr hlocks hK hI (Nat.le_of_ble_eq_true rfl) (Nat.le_of_ble_eq_true rfl) rfl dX3_isOne_32
/-! ==== X3_swapDots: BlitBoard$Surface.swapDots(II)V ==== -/
def fX3_swapDots (t : Nat) (a1 : Int32) (a2 : Int32) (h0 : hm_H) : Option hm_H :=
  hm_b (hm_gq 3 3 h0 (some t)) fun v1 =>
  hm_b (hm_ai 0 h0 v1 a1) fun v2 =>
  hm_b (hm_gq 3 3 h0 (some t)) fun v3 =>
  hm_b (hm_gq 3 3 h0 (some t)) fun v4 =>
  hm_b (hm_ai 0 h0 v4 a2) fun v5 =>
  hm_b (hm_si 0 h0 v3 a1 v5) fun h6 =>
  hm_b (hm_gq 3 3 h6 (some t)) fun v7 =>
  hm_b (hm_si 0 h6 v7 a2 v2) fun h8 =>
  some h8
set_option maxRecDepth 100000 in
set_option maxHeartbeats 8000000 in
theorem kX3_swapDots (l : Launch) (D : va_G) (kA : Nat → ClassId) (t : Nat) (a1 : Int32) (a2 : Int32) (h0 h' : hm_H) (hf : fX3_swapDots t a1 a2 h0 = some h') : hm_C l yX3_swapDots wsX3_swapDots { frames := 0, cells := 0, slots := 0, locals := 0 } D vwCl kA (hm_ty kA) [.ref t, .int a1, .int a2] h0 none h' 0 0 := by
  refine Met.ofW (cc := cX3_swapDots) (maxL := 4) (ret := none) (by decide) rfl ?_
  intro p e s m args below meth c s₁ B hml hv
  obtain ⟨hargs, hB⟩ := hv
  have hx := B.exec
  have hb := B.bytes
  have hr := B.returns
  have hts := atoms_spec (ws := wsX3_swapDots) B.pre
  have hown : s.vm.findClass RX3 = some m.cls := findClass_of_methodNamed B.named
  have hlocks := B.notSynchronized
  have hK := hB.2
  have hI := hm_start hB
  have w1 := hts (.fieldLink RX3 25 "BlitBoard$Surface" "dots" "[I") (by decide +kernel)
  have hiX3 : ∀ w ∈ wsX30, w ∈ wsX3_swapDots := by decide +kernel
  rw [show entryFrame m args 4 = entryFrame m ([.ref t, .int a1, .int a2] : List Value).toArray 4 from by rw [hargs]]
  have hl := lv_entry ([.ref t, .int a1, .int a2]) (n := 4) (Nat.le_of_ble_eq_true rfl)
  rw [lg_entry_eq]
  generalize (lg_sl ([.ref t, .int a1, .int a2]) ++ List.replicate (4 - (lg_sl ([.ref t, .int a1, .int a2])).length) Slot.unset).toArray = ls at hl ⊢
  have hl : lv_has ls 4 [(0, va_rf (some t)), (1, .int a1), (2, .int a2)] := hl
  unfold fX3_swapDots at hf
  refine hm_aload_n hx hb dX3_swapDots_0 rfl (lv_at hl 0 rfl) ?_
  obtain ⟨v1, ev1, hf⟩ := hm_b_s hf
  refine hm_get (ci := 3) (k := 3) (C := RX3) (T := TX3) (N := 5) hx hb hts hiX3 hown hK hI rfl (by decide) w1 (hm_gq_s ev1) dX3_swapDots_1 ?_
  refine lv_iload_n hx hb dX3_swapDots_4 rfl (lv_at hl 1 rfl) ?_
  obtain ⟨v2, ev2, hf⟩ := hm_b_s hf
  refine hm_iald (kd := 0) (t0 := 0) hx hb hK hI rfl ev2 dX3_swapDots_5 ?_
  refine lv_istore_n (lv' := [(3, .int v2), (0, va_rf (some t)), (1, .int a1), (2, .int a2)]) hx hb dX3_swapDots_6 rfl hl (by decide) rfl (fun ls hl => ?_)
  refine hm_aload_n hx hb dX3_swapDots_7 rfl (lv_at hl 1 rfl) ?_
  obtain ⟨v3, ev3, hf⟩ := hm_b_s hf
  refine hm_get (ci := 3) (k := 3) (C := RX3) (T := TX3) (N := 5) hx hb hts hiX3 hown hK hI rfl (by decide) w1 (hm_gq_s ev3) dX3_swapDots_8 ?_
  refine lv_iload_n hx hb dX3_swapDots_11 rfl (lv_at hl 2 rfl) ?_
  refine hm_aload_n hx hb dX3_swapDots_12 rfl (lv_at hl 1 rfl) ?_
  obtain ⟨v4, ev4, hf⟩ := hm_b_s hf
  refine hm_get (ci := 3) (k := 3) (C := RX3) (T := TX3) (N := 5) hx hb hts hiX3 hown hK hI rfl (by decide) w1 (hm_gq_s ev4) dX3_swapDots_13 ?_
  refine lv_iload_n hx hb dX3_swapDots_16 rfl (lv_at hl 3 rfl) ?_
  obtain ⟨v5, ev5, hf⟩ := hm_b_s hf
  refine hm_iald (kd := 0) (t0 := 0) hx hb hK hI rfl ev5 dX3_swapDots_17 ?_
  obtain ⟨h6, eh6, hf⟩ := hm_b_s hf
  refine hm_iast (kd := 0) (t0 := 0) hx hb hK hI rfl eh6 dX3_swapDots_18 (fun H locs hI => ?_)
  refine hm_aload_n hx hb dX3_swapDots_19 rfl (lv_at hl 1 rfl) ?_
  obtain ⟨v7, ev7, hf⟩ := hm_b_s hf
  refine hm_get (ci := 3) (k := 3) (C := RX3) (T := TX3) (N := 5) hx hb hts hiX3 hown hK hI rfl (by decide) w1 (hm_gq_s ev7) dX3_swapDots_20 ?_
  refine lv_iload_n hx hb dX3_swapDots_23 rfl (lv_at hl 3 rfl) ?_
  refine lv_iload_n hx hb dX3_swapDots_24 rfl (lv_at hl 0 rfl) ?_
  obtain ⟨h8, eh8, hf⟩ := hm_b_s hf
  refine hm_iast (kd := 0) (t0 := 0) hx hb hK hI rfl eh8 dX3_swapDots_25 (fun H locs hI => ?_)
  exact hm_vret_e hf hx hb hr hlocks hK hI (Nat.le_of_ble_eq_true rfl) (Nat.le_of_ble_eq_true rfl) dX3_swapDots_26
/-! ==== X3_swapLeftAndRight: BlitBoard$Surface.swapLeftAndRight()V ==== -/
def fX3_swapLeftAndRight_15 (K2 : Option Nat → Int32 → hm_H → Option hm_H) (K15 : Option Nat → Int32 → Int32 → hm_H → Option hm_H) (x0 : Option Nat) (x1 : Int32) (x2 : Int32) (h : hm_H) : Option hm_H :=
  hm_b (hm_gq 3 2 h x0) fun v3 =>
  hm_b (hm_gi 0 2 h v3) fun v4 =>
  if (v4 / (2 : Int32)) ≤ x2 then
    K2 x0 (x1 + (1 : Int32)) h
  else
    hm_b (hm_rc 3 h x0) fun b6 =>
    hm_b2 (fX3_indexOf b6 ((x2).toInt64) ((x1).toInt64) h) fun v7 h5 =>
    hm_b (hm_gq 3 2 h5 x0) fun v8 =>
    hm_b (hm_gi 0 2 h5 v8) fun v9 =>
    hm_b (hm_rc 3 h5 x0) fun b11 =>
    hm_b2 (fX3_indexOf b11 (((v9 - (1 : Int32)) - x2).toInt64) ((x1).toInt64) h5) fun v12 h10 =>
    hm_b (hm_rc 3 h10 x0) fun b14 =>
    hm_b (fX3_swapDots b14 v7 v12 h10) fun h13 =>
    K15 x0 x1 (x2 + (1 : Int32)) h13
def fX3_swapLeftAndRight_2 (K2 : Option Nat → Int32 → hm_H → Option hm_H) (x0 : Option Nat) (x1 : Int32) (h : hm_H) : Option hm_H :=
  hm_b (hm_gq 3 2 h x0) fun v1 =>
  hm_b (hm_gi 0 3 h v1) fun v2 =>
  if v2 ≤ x1 then
    some h
  else
    hm_loop (fun _ _ _ _ => none) (fX3_swapLeftAndRight_15 K2) hm_fu x0 x1 (0 : Int32) h
def fX3_swapLeftAndRight (t : Nat) (h0 : hm_H) : Option hm_H :=
  hm_loop (fun _ _ _ => none) (fX3_swapLeftAndRight_2) hm_fu (some t) (0 : Int32) h0
set_option maxRecDepth 100000 in
set_option maxHeartbeats 8000000 in
theorem kX3_swapLeftAndRight (l : Launch) (D : va_G) (kA : Nat → ClassId) (t : Nat) (h0 h' : hm_H) (hf : fX3_swapLeftAndRight t h0 = some h') : hm_C l yX3_swapLeftAndRight wsX3_swapLeftAndRight { frames := 1, cells := 0, slots := 0, locals := 24 } D vwCl kA (hm_ty kA) [.ref t] h0 none h' 0 0 := by
  refine Met.ofW (cc := cX3_swapLeftAndRight) (maxL := 3) (ret := none) (by decide) rfl ?_
  intro p e s m args below meth c s₁ B hml hv
  obtain ⟨hargs, hB⟩ := hv
  have hx := B.exec
  have hb := B.bytes
  have hr := B.returns
  have hts := atoms_spec (ws := wsX3_swapLeftAndRight) B.pre
  have hown : s.vm.findClass RX3 = some m.cls := findClass_of_methodNamed B.named
  have hlocks := B.notSynchronized
  have hK := hB.2
  have hI := hm_start hB
  have w1 := hts (.fieldLink RX3 21 "BlitBoard$Surface" "whole" "LBlitBoard$Area;") (by decide +kernel)
  have w2 := hts (.fieldLink RX3 43 "BlitBoard$Area" "high" "I") (by decide +kernel)
  have w3 := hts (.fieldLink RX3 32 "BlitBoard$Area" "wide" "I") (by decide +kernel)
  have hiX3 : ∀ w ∈ wsX30, w ∈ wsX3_swapLeftAndRight := by decide +kernel
  have hiX0 : ∀ w ∈ wsX00, w ∈ wsX3_swapLeftAndRight := by decide +kernel
  have B2 : ∀ (fu : Nat) (x0 : Option Nat) (x1 : Int32) (h : hm_H), hm_loop (fun _ _ _ => none) (fX3_swapLeftAndRight_2) fu x0 x1 h = some h' → ∀ (H : Heap) (locs : List Loc) (ls : Array Slot), hm_I D vwCl kA (hm_A h0) s.heap h H locs → lv_has ls 3 [(0, va_rf x0), (1, .int x1)] → W p l e (headSpec wsX3_swapLeftAndRight { frames := 1, cells := 0, slots := 0, locals := 24 }).room s m args below meth c H locs 0 0 (MQ below (hm_Q D vwCl kA (hm_ty kA) h0 none h') args s 0 0 (hm_A h0)) (F0 m 2 ls []) := by
    intro fu
    induction fu with
    | zero => intro x0 x1 h hf; cases hf
    | succ fu ih2 =>
      rw [hm_loop_s]
      generalize hm_loop (fun _ _ _ => none) (fX3_swapLeftAndRight_2) fu = K2 at ih2 ⊢
      have B15 : ∀ (fu : Nat) (x0 : Option Nat) (x1 : Int32) (x2 : Int32) (h : hm_H), hm_loop (fun _ _ _ _ => none) (fX3_swapLeftAndRight_15 K2) fu x0 x1 x2 h = some h' → ∀ (H : Heap) (locs : List Loc) (ls : Array Slot), hm_I D vwCl kA (hm_A h0) s.heap h H locs → lv_has ls 3 [(0, va_rf x0), (1, .int x1), (2, .int x2)] → W p l e (headSpec wsX3_swapLeftAndRight { frames := 1, cells := 0, slots := 0, locals := 24 }).room s m args below meth c H locs 0 0 (MQ below (hm_Q D vwCl kA (hm_ty kA) h0 none h') args s 0 0 (hm_A h0)) (F0 m 15 ls []) := by
        intro fu
        induction fu with
        | zero => intro x0 x1 x2 h hf; cases hf
        | succ fu ih15 =>
          rw [hm_loop_s]
          generalize hm_loop (fun _ _ _ _ => none) (fX3_swapLeftAndRight_15 K2) fu = K15 at ih15 ⊢
          intro x0 x1 x2 h hf H locs ls hI hl
          unfold fX3_swapLeftAndRight_15 at hf
          refine lv_iload_n hx hb dX3_swapLeftAndRight_15 rfl (lv_at hl 2 rfl) ?_
          refine hm_aload_n hx hb dX3_swapLeftAndRight_16 rfl (lv_at hl 0 rfl) ?_
          obtain ⟨v3, ev3, hf⟩ := hm_b_s hf
          refine hm_get (ci := 3) (k := 2) (C := RX3) (T := TX3) (N := 5) hx hb hts hiX3 hown hK hI rfl (by decide) w1 (hm_gq_s ev3) dX3_swapLeftAndRight_17 ?_
          obtain ⟨v4, ev4, hf⟩ := hm_b_s hf
          refine hm_get (ci := 0) (k := 2) (C := RX0) (T := TX0) (N := 4) hx hb hts hiX0 hown hK hI rfl (by decide) w3 (hm_gi_s ev4) dX3_swapLeftAndRight_20 ?_
          refine lv_iconst (v := (2 : Int32)) hx hb dX3_swapLeftAndRight_23 (by decide) ?_
          refine lv_idiv hx hb dX3_swapLeftAndRight_24 (by decide) ?_
          refine lv_icmp_ge (tgt := 64) hx hb dX3_swapLeftAndRight_25 (by decide) (fun c => ?_) (fun c => ?_)
          · rw [if_pos c] at hf
            refine lv_iinc (v := x1 + (1 : Int32)) (lv' := [(1, .int (x1 + (1 : Int32))), (0, va_rf x0), (2, .int x2)]) hx hb dX3_swapLeftAndRight_64 hl (k := 1) rfl rfl (by decide) (by simp only [List.filter, hm_cat2, Bool.and_false, Bool.not_false] <;> rfl) (fun ls hl => ?_)
            refine lv_goto (tgt := 2) hx hb dX3_swapLeftAndRight_67 (by decide) ?_
            exact ih2 x0 (x1 + (1 : Int32)) h hf _ _ _ hI (lv_sub hl [1, 0] rfl)
          · rw [if_neg c] at hf
            refine hm_aload_n hx hb dX3_swapLeftAndRight_28 rfl (lv_at hl 0 rfl) ?_
            refine hm_aload_n hx hb dX3_swapLeftAndRight_29 rfl (lv_at hl 0 rfl) ?_
            refine lv_iload_n hx hb dX3_swapLeftAndRight_30 rfl (lv_at hl 2 rfl) ?_
            refine lv_i2l (v := (x2).toInt64) hx hb dX3_swapLeftAndRight_31 rfl ?_
            refine lv_iload_n hx hb dX3_swapLeftAndRight_32 rfl (lv_at hl 1 rfl) ?_
            refine lv_i2l (v := (x1).toInt64) hx hb dX3_swapLeftAndRight_33 rfl ?_
            obtain ⟨b6, eb6, hf⟩ := hm_b_s hf
            obtain ⟨v7, h5, eh5, hf⟩ := hm_b2_s hf
            refine hm_cV (As := [.long ((x2).toInt64), .long ((x1).toInt64)]) (rest := [va_rf x0]) ⟨hx, hb, hml, hown, hts⟩ hK hI eb6 rfl rfl (kX3_indexOf l D kA b6 ((x2).toInt64) ((x1).toInt64) h h5 v7 eh5) (cwV 2 hts gX3_swapLeftAndRight_X3_indexOf rfl rfl rfl (by decide +kernel) ⟨Nat.le_of_ble_eq_true rfl, Nat.le_of_ble_eq_true rfl⟩) rfl hl.1 rfl (by first | exact Nat.le_of_ble_eq_true rfl | (simp only [List.map, hm_rf_cat, hm_ci, hm_cl, List.sum_cons, List.sum_nil] <;> decide)) dX3_swapLeftAndRight_34 ⟨Nat.le_of_ble_eq_true rfl, Nat.le_of_ble_eq_true rfl⟩ (fun H locs hI => ?_)
            refine hm_aload_n hx hb dX3_swapLeftAndRight_37 rfl (lv_at hl 0 rfl) ?_
            refine hm_aload_n hx hb dX3_swapLeftAndRight_38 rfl (lv_at hl 0 rfl) ?_
            obtain ⟨v8, ev8, hf⟩ := hm_b_s hf
            refine hm_get (ci := 3) (k := 2) (C := RX3) (T := TX3) (N := 5) hx hb hts hiX3 hown hK hI rfl (by decide) w1 (hm_gq_s ev8) dX3_swapLeftAndRight_39 ?_
            obtain ⟨v9, ev9, hf⟩ := hm_b_s hf
            refine hm_get (ci := 0) (k := 2) (C := RX0) (T := TX0) (N := 4) hx hb hts hiX0 hown hK hI rfl (by decide) w3 (hm_gi_s ev9) dX3_swapLeftAndRight_42 ?_
            refine lv_iconst (v := (1 : Int32)) hx hb dX3_swapLeftAndRight_45 (by decide) ?_
            refine lv_isub hx hb dX3_swapLeftAndRight_46 ?_
            refine lv_iload_n hx hb dX3_swapLeftAndRight_47 rfl (lv_at hl 2 rfl) ?_
            refine lv_isub hx hb dX3_swapLeftAndRight_48 ?_
            refine lv_i2l (v := ((v9 - (1 : Int32)) - x2).toInt64) hx hb dX3_swapLeftAndRight_49 rfl ?_
            refine lv_iload_n hx hb dX3_swapLeftAndRight_50 rfl (lv_at hl 1 rfl) ?_
            refine lv_i2l (v := (x1).toInt64) hx hb dX3_swapLeftAndRight_51 rfl ?_
            obtain ⟨b11, eb11, hf⟩ := hm_b_s hf
            obtain ⟨v12, h10, eh10, hf⟩ := hm_b2_s hf
            refine hm_cV (As := [.long (((v9 - (1 : Int32)) - x2).toInt64), .long ((x1).toInt64)]) (rest := [.int v7, va_rf x0]) ⟨hx, hb, hml, hown, hts⟩ hK hI eb11 rfl rfl (kX3_indexOf l D kA b11 (((v9 - (1 : Int32)) - x2).toInt64) ((x1).toInt64) h5 h10 v12 eh10) (cwV 2 hts gX3_swapLeftAndRight_X3_indexOf rfl rfl rfl (by decide +kernel) ⟨Nat.le_of_ble_eq_true rfl, Nat.le_of_ble_eq_true rfl⟩) rfl hl.1 rfl (by first | exact Nat.le_of_ble_eq_true rfl | (simp only [List.map, hm_rf_cat, hm_ci, hm_cl, List.sum_cons, List.sum_nil] <;> decide)) dX3_swapLeftAndRight_52 ⟨Nat.le_of_ble_eq_true rfl, Nat.le_of_ble_eq_true rfl⟩ (fun H locs hI => ?_)
            obtain ⟨b14, eb14, hf⟩ := hm_b_s hf
            obtain ⟨h13, eh13, hf⟩ := hm_b_s hf
            refine hm_cV (As := [.int v7, .int v12]) (rest := []) ⟨hx, hb, hml, hown, hts⟩ hK hI eb14 rfl rfl (kX3_swapDots l D kA b14 v7 v12 h10 h13 eh13) (cwV 2 hts gX3_swapLeftAndRight_X3_swapDots rfl rfl rfl (by decide +kernel) ⟨Nat.le_of_ble_eq_true rfl, Nat.le_of_ble_eq_true rfl⟩) rfl hl.1 rfl (by first | exact Nat.le_of_ble_eq_true rfl | (simp only [List.map, hm_rf_cat, hm_ci, hm_cl, List.sum_cons, List.sum_nil] <;> decide)) dX3_swapLeftAndRight_55 ⟨Nat.le_of_ble_eq_true rfl, Nat.le_of_ble_eq_true rfl⟩ (fun H locs hI => ?_)
            refine W.eq (g2 := F0 m 58 ls []) rfl ?_
            refine lv_iinc (v := x2 + (1 : Int32)) (lv' := [(2, .int (x2 + (1 : Int32))), (0, va_rf x0), (1, .int x1)]) hx hb dX3_swapLeftAndRight_58 hl (k := 2) rfl rfl (by decide) rfl (fun ls hl => ?_)
            refine lv_goto (tgt := 15) hx hb dX3_swapLeftAndRight_61 (by decide) ?_
            exact ih15 x0 x1 (x2 + (1 : Int32)) h13 hf _ _ _ hI (lv_sub hl [1, 2, 0] rfl)
      intro x0 x1 h hf H locs ls hI hl
      unfold fX3_swapLeftAndRight_2 at hf
      refine lv_iload_n hx hb dX3_swapLeftAndRight_2 rfl (lv_at hl 1 rfl) ?_
      refine hm_aload_n hx hb dX3_swapLeftAndRight_3 rfl (lv_at hl 0 rfl) ?_
      obtain ⟨v1, ev1, hf⟩ := hm_b_s hf
      refine hm_get (ci := 3) (k := 2) (C := RX3) (T := TX3) (N := 5) hx hb hts hiX3 hown hK hI rfl (by decide) w1 (hm_gq_s ev1) dX3_swapLeftAndRight_4 ?_
      obtain ⟨v2, ev2, hf⟩ := hm_b_s hf
      refine hm_get (ci := 0) (k := 3) (C := RX0) (T := TX0) (N := 4) hx hb hts hiX0 hown hK hI rfl (by decide) w2 (hm_gi_s ev2) dX3_swapLeftAndRight_7 ?_
      refine lv_icmp_ge (tgt := 70) hx hb dX3_swapLeftAndRight_10 (by decide) (fun c => ?_) (fun c => ?_)
      · rw [if_pos c] at hf
        exact hm_vret_e hf hx hb hr hlocks hK hI (Nat.le_of_ble_eq_true rfl) (Nat.le_of_ble_eq_true rfl) dX3_swapLeftAndRight_70
      · rw [if_neg c] at hf
        refine lv_iconst (v := (0 : Int32)) hx hb dX3_swapLeftAndRight_13 (by decide) ?_
        refine lv_istore_n (lv' := [(2, .int (0 : Int32)), (0, va_rf x0), (1, .int x1)]) hx hb dX3_swapLeftAndRight_14 rfl hl (by decide) rfl (fun ls hl => ?_)
        exact B15 hm_fu x0 x1 (0 : Int32) h hf _ _ _ hI (lv_sub hl [1, 2, 0] rfl)
  rw [show entryFrame m args 3 = entryFrame m ([.ref t] : List Value).toArray 3 from by rw [hargs]]
  have hl := lv_entry ([.ref t]) (n := 3) (Nat.le_of_ble_eq_true rfl)
  rw [lg_entry_eq]
  generalize (lg_sl ([.ref t]) ++ List.replicate (3 - (lg_sl ([.ref t])).length) Slot.unset).toArray = ls at hl ⊢
  have hl : lv_has ls 3 [(0, va_rf (some t))] := hl
  unfold fX3_swapLeftAndRight at hf
  refine lv_iconst (v := (0 : Int32)) hx hb dX3_swapLeftAndRight_0 (by decide) ?_
  refine lv_istore_n (lv' := [(1, .int (0 : Int32)), (0, va_rf (some t))]) hx hb dX3_swapLeftAndRight_1 rfl hl (by decide) (by simp only [List.filter, hm_cat2, Bool.and_false, Bool.not_false] <;> rfl) (fun ls hl => ?_)
  exact B2 hm_fu (some t) (0 : Int32) h0 hf _ _ _ hI (lv_sub hl [1, 0] rfl)
/-! ==== X3_swapTopAndBottom: BlitBoard$Surface.swapTopAndBottom()V ==== -/
def fX3_swapTopAndBottom_17 (K2 : Option Nat → Int32 → hm_H → Option hm_H) (K17 : Option Nat → Int32 → Int32 → hm_H → Option hm_H) (x0 : Option Nat) (x1 : Int32) (x2 : Int32) (h : hm_H) : Option hm_H :=
  hm_b (hm_gq 3 2 h x0) fun v3 =>
  hm_b (hm_gi 0 2 h v3) fun v4 =>
  if v4 ≤ x2 then
    K2 x0 (x1 + (1 : Int32)) h
  else
    hm_b (hm_rc 3 h x0) fun b6 =>
    hm_b2 (fX3_indexOf b6 ((x2).toInt64) ((x1).toInt64) h) fun v7 h5 =>
    hm_b (hm_gq 3 2 h5 x0) fun v8 =>
    hm_b (hm_gi 0 3 h5 v8) fun v9 =>
    hm_b (hm_rc 3 h5 x0) fun b11 =>
    hm_b2 (fX3_indexOf b11 ((x2).toInt64) (((v9 - (1 : Int32)) - x1).toInt64) h5) fun v12 h10 =>
    hm_b (hm_rc 3 h10 x0) fun b14 =>
    hm_b (fX3_swapDots b14 v7 v12 h10) fun h13 =>
    K17 x0 x1 (x2 + (1 : Int32)) h13
def fX3_swapTopAndBottom_2 (K2 : Option Nat → Int32 → hm_H → Option hm_H) (x0 : Option Nat) (x1 : Int32) (h : hm_H) : Option hm_H :=
  hm_b (hm_gq 3 2 h x0) fun v1 =>
  hm_b (hm_gi 0 3 h v1) fun v2 =>
  if (v2 / (2 : Int32)) ≤ x1 then
    some h
  else
    hm_loop (fun _ _ _ _ => none) (fX3_swapTopAndBottom_17 K2) hm_fu x0 x1 (0 : Int32) h
def fX3_swapTopAndBottom (t : Nat) (h0 : hm_H) : Option hm_H :=
  hm_loop (fun _ _ _ => none) (fX3_swapTopAndBottom_2) hm_fu (some t) (0 : Int32) h0
set_option maxRecDepth 100000 in
set_option maxHeartbeats 8000000 in
theorem kX3_swapTopAndBottom (l : Launch) (D : va_G) (kA : Nat → ClassId) (t : Nat) (h0 h' : hm_H) (hf : fX3_swapTopAndBottom t h0 = some h') : hm_C l yX3_swapTopAndBottom wsX3_swapTopAndBottom { frames := 1, cells := 0, slots := 0, locals := 24 } D vwCl kA (hm_ty kA) [.ref t] h0 none h' 0 0 := by
  refine Met.ofW (cc := cX3_swapTopAndBottom) (maxL := 3) (ret := none) (by decide) rfl ?_
  intro p e s m args below meth c s₁ B hml hv
  obtain ⟨hargs, hB⟩ := hv
  have hx := B.exec
  have hb := B.bytes
  have hr := B.returns
  have hts := atoms_spec (ws := wsX3_swapTopAndBottom) B.pre
  have hown : s.vm.findClass RX3 = some m.cls := findClass_of_methodNamed B.named
  have hlocks := B.notSynchronized
  have hK := hB.2
  have hI := hm_start hB
  have w1 := hts (.fieldLink RX3 21 "BlitBoard$Surface" "whole" "LBlitBoard$Area;") (by decide +kernel)
  have w2 := hts (.fieldLink RX3 43 "BlitBoard$Area" "high" "I") (by decide +kernel)
  have w3 := hts (.fieldLink RX3 32 "BlitBoard$Area" "wide" "I") (by decide +kernel)
  have hiX3 : ∀ w ∈ wsX30, w ∈ wsX3_swapTopAndBottom := by decide +kernel
  have hiX0 : ∀ w ∈ wsX00, w ∈ wsX3_swapTopAndBottom := by decide +kernel
  have B2 : ∀ (fu : Nat) (x0 : Option Nat) (x1 : Int32) (h : hm_H), hm_loop (fun _ _ _ => none) (fX3_swapTopAndBottom_2) fu x0 x1 h = some h' → ∀ (H : Heap) (locs : List Loc) (ls : Array Slot), hm_I D vwCl kA (hm_A h0) s.heap h H locs → lv_has ls 3 [(0, va_rf x0), (1, .int x1)] → W p l e (headSpec wsX3_swapTopAndBottom { frames := 1, cells := 0, slots := 0, locals := 24 }).room s m args below meth c H locs 0 0 (MQ below (hm_Q D vwCl kA (hm_ty kA) h0 none h') args s 0 0 (hm_A h0)) (F0 m 2 ls []) := by
    intro fu
    induction fu with
    | zero => intro x0 x1 h hf; cases hf
    | succ fu ih2 =>
      rw [hm_loop_s]
      generalize hm_loop (fun _ _ _ => none) (fX3_swapTopAndBottom_2) fu = K2 at ih2 ⊢
      have B17 : ∀ (fu : Nat) (x0 : Option Nat) (x1 : Int32) (x2 : Int32) (h : hm_H), hm_loop (fun _ _ _ _ => none) (fX3_swapTopAndBottom_17 K2) fu x0 x1 x2 h = some h' → ∀ (H : Heap) (locs : List Loc) (ls : Array Slot), hm_I D vwCl kA (hm_A h0) s.heap h H locs → lv_has ls 3 [(0, va_rf x0), (1, .int x1), (2, .int x2)] → W p l e (headSpec wsX3_swapTopAndBottom { frames := 1, cells := 0, slots := 0, locals := 24 }).room s m args below meth c H locs 0 0 (MQ below (hm_Q D vwCl kA (hm_ty kA) h0 none h') args s 0 0 (hm_A h0)) (F0 m 17 ls []) := by
        intro fu
        induction fu with
        | zero => intro x0 x1 x2 h hf; cases hf
        | succ fu ih17 =>
          rw [hm_loop_s]
          generalize hm_loop (fun _ _ _ _ => none) (fX3_swapTopAndBottom_17 K2) fu = K17 at ih17 ⊢
          intro x0 x1 x2 h hf H locs ls hI hl
          unfold fX3_swapTopAndBottom_17 at hf
          refine lv_iload_n hx hb dX3_swapTopAndBottom_17 rfl (lv_at hl 2 rfl) ?_
          refine hm_aload_n hx hb dX3_swapTopAndBottom_18 rfl (lv_at hl 0 rfl) ?_
          obtain ⟨v3, ev3, hf⟩ := hm_b_s hf
          refine hm_get (ci := 3) (k := 2) (C := RX3) (T := TX3) (N := 5) hx hb hts hiX3 hown hK hI rfl (by decide) w1 (hm_gq_s ev3) dX3_swapTopAndBottom_19 ?_
          obtain ⟨v4, ev4, hf⟩ := hm_b_s hf
          refine hm_get (ci := 0) (k := 2) (C := RX0) (T := TX0) (N := 4) hx hb hts hiX0 hown hK hI rfl (by decide) w3 (hm_gi_s ev4) dX3_swapTopAndBottom_22 ?_
          refine lv_icmp_ge (tgt := 64) hx hb dX3_swapTopAndBottom_25 (by decide) (fun c => ?_) (fun c => ?_)
          · rw [if_pos c] at hf
            refine lv_iinc (v := x1 + (1 : Int32)) (lv' := [(1, .int (x1 + (1 : Int32))), (0, va_rf x0), (2, .int x2)]) hx hb dX3_swapTopAndBottom_64 hl (k := 1) rfl rfl (by decide) (by simp only [List.filter, hm_cat2, Bool.and_false, Bool.not_false] <;> rfl) (fun ls hl => ?_)
            refine lv_goto (tgt := 2) hx hb dX3_swapTopAndBottom_67 (by decide) ?_
            exact ih2 x0 (x1 + (1 : Int32)) h hf _ _ _ hI (lv_sub hl [1, 0] rfl)
          · rw [if_neg c] at hf
            refine hm_aload_n hx hb dX3_swapTopAndBottom_28 rfl (lv_at hl 0 rfl) ?_
            refine hm_aload_n hx hb dX3_swapTopAndBottom_29 rfl (lv_at hl 0 rfl) ?_
            refine lv_iload_n hx hb dX3_swapTopAndBottom_30 rfl (lv_at hl 2 rfl) ?_
            refine lv_i2l (v := (x2).toInt64) hx hb dX3_swapTopAndBottom_31 rfl ?_
            refine lv_iload_n hx hb dX3_swapTopAndBottom_32 rfl (lv_at hl 1 rfl) ?_
            refine lv_i2l (v := (x1).toInt64) hx hb dX3_swapTopAndBottom_33 rfl ?_
            obtain ⟨b6, eb6, hf⟩ := hm_b_s hf
            obtain ⟨v7, h5, eh5, hf⟩ := hm_b2_s hf
            refine hm_cV (As := [.long ((x2).toInt64), .long ((x1).toInt64)]) (rest := [va_rf x0]) ⟨hx, hb, hml, hown, hts⟩ hK hI eb6 rfl rfl (kX3_indexOf l D kA b6 ((x2).toInt64) ((x1).toInt64) h h5 v7 eh5) (cwV 2 hts gX3_swapTopAndBottom_X3_indexOf rfl rfl rfl (by decide +kernel) ⟨Nat.le_of_ble_eq_true rfl, Nat.le_of_ble_eq_true rfl⟩) rfl hl.1 rfl (by first | exact Nat.le_of_ble_eq_true rfl | (simp only [List.map, hm_rf_cat, hm_ci, hm_cl, List.sum_cons, List.sum_nil] <;> decide)) dX3_swapTopAndBottom_34 ⟨Nat.le_of_ble_eq_true rfl, Nat.le_of_ble_eq_true rfl⟩ (fun H locs hI => ?_)
            refine hm_aload_n hx hb dX3_swapTopAndBottom_37 rfl (lv_at hl 0 rfl) ?_
            refine lv_iload_n hx hb dX3_swapTopAndBottom_38 rfl (lv_at hl 2 rfl) ?_
            refine lv_i2l (v := (x2).toInt64) hx hb dX3_swapTopAndBottom_39 rfl ?_
            refine hm_aload_n hx hb dX3_swapTopAndBottom_40 rfl (lv_at hl 0 rfl) ?_
            obtain ⟨v8, ev8, hf⟩ := hm_b_s hf
            refine hm_get (ci := 3) (k := 2) (C := RX3) (T := TX3) (N := 5) hx hb hts hiX3 hown hK hI rfl (by decide) w1 (hm_gq_s ev8) dX3_swapTopAndBottom_41 ?_
            obtain ⟨v9, ev9, hf⟩ := hm_b_s hf
            refine hm_get (ci := 0) (k := 3) (C := RX0) (T := TX0) (N := 4) hx hb hts hiX0 hown hK hI rfl (by decide) w2 (hm_gi_s ev9) dX3_swapTopAndBottom_44 ?_
            refine lv_iconst (v := (1 : Int32)) hx hb dX3_swapTopAndBottom_47 (by decide) ?_
            refine lv_isub hx hb dX3_swapTopAndBottom_48 ?_
            refine lv_iload_n hx hb dX3_swapTopAndBottom_49 rfl (lv_at hl 1 rfl) ?_
            refine lv_isub hx hb dX3_swapTopAndBottom_50 ?_
            refine lv_i2l (v := ((v9 - (1 : Int32)) - x1).toInt64) hx hb dX3_swapTopAndBottom_51 rfl ?_
            obtain ⟨b11, eb11, hf⟩ := hm_b_s hf
            obtain ⟨v12, h10, eh10, hf⟩ := hm_b2_s hf
            refine hm_cV (As := [.long ((x2).toInt64), .long (((v9 - (1 : Int32)) - x1).toInt64)]) (rest := [.int v7, va_rf x0]) ⟨hx, hb, hml, hown, hts⟩ hK hI eb11 rfl rfl (kX3_indexOf l D kA b11 ((x2).toInt64) (((v9 - (1 : Int32)) - x1).toInt64) h5 h10 v12 eh10) (cwV 2 hts gX3_swapTopAndBottom_X3_indexOf rfl rfl rfl (by decide +kernel) ⟨Nat.le_of_ble_eq_true rfl, Nat.le_of_ble_eq_true rfl⟩) rfl hl.1 rfl (by first | exact Nat.le_of_ble_eq_true rfl | (simp only [List.map, hm_rf_cat, hm_ci, hm_cl, List.sum_cons, List.sum_nil] <;> decide)) dX3_swapTopAndBottom_52 ⟨Nat.le_of_ble_eq_true rfl, Nat.le_of_ble_eq_true rfl⟩ (fun H locs hI => ?_)
            obtain ⟨b14, eb14, hf⟩ := hm_b_s hf
            obtain ⟨h13, eh13, hf⟩ := hm_b_s hf
            refine hm_cV (As := [.int v7, .int v12]) (rest := []) ⟨hx, hb, hml, hown, hts⟩ hK hI eb14 rfl rfl (kX3_swapDots l D kA b14 v7 v12 h10 h13 eh13) (cwV 2 hts gX3_swapTopAndBottom_X3_swapDots rfl rfl rfl (by decide +kernel) ⟨Nat.le_of_ble_eq_true rfl, Nat.le_of_ble_eq_true rfl⟩) rfl hl.1 rfl (by first | exact Nat.le_of_ble_eq_true rfl | (simp only [List.map, hm_rf_cat, hm_ci, hm_cl, List.sum_cons, List.sum_nil] <;> decide)) dX3_swapTopAndBottom_55 ⟨Nat.le_of_ble_eq_true rfl, Nat.le_of_ble_eq_true rfl⟩ (fun H locs hI => ?_)
            refine W.eq (g2 := F0 m 58 ls []) rfl ?_
            refine lv_iinc (v := x2 + (1 : Int32)) (lv' := [(2, .int (x2 + (1 : Int32))), (0, va_rf x0), (1, .int x1)]) hx hb dX3_swapTopAndBottom_58 hl (k := 2) rfl rfl (by decide) rfl (fun ls hl => ?_)
            refine lv_goto (tgt := 17) hx hb dX3_swapTopAndBottom_61 (by decide) ?_
            exact ih17 x0 x1 (x2 + (1 : Int32)) h13 hf _ _ _ hI (lv_sub hl [1, 2, 0] rfl)
      intro x0 x1 h hf H locs ls hI hl
      unfold fX3_swapTopAndBottom_2 at hf
      refine lv_iload_n hx hb dX3_swapTopAndBottom_2 rfl (lv_at hl 1 rfl) ?_
      refine hm_aload_n hx hb dX3_swapTopAndBottom_3 rfl (lv_at hl 0 rfl) ?_
      obtain ⟨v1, ev1, hf⟩ := hm_b_s hf
      refine hm_get (ci := 3) (k := 2) (C := RX3) (T := TX3) (N := 5) hx hb hts hiX3 hown hK hI rfl (by decide) w1 (hm_gq_s ev1) dX3_swapTopAndBottom_4 ?_
      obtain ⟨v2, ev2, hf⟩ := hm_b_s hf
      refine hm_get (ci := 0) (k := 3) (C := RX0) (T := TX0) (N := 4) hx hb hts hiX0 hown hK hI rfl (by decide) w2 (hm_gi_s ev2) dX3_swapTopAndBottom_7 ?_
      refine lv_iconst (v := (2 : Int32)) hx hb dX3_swapTopAndBottom_10 (by decide) ?_
      refine lv_idiv hx hb dX3_swapTopAndBottom_11 (by decide) ?_
      refine lv_icmp_ge (tgt := 70) hx hb dX3_swapTopAndBottom_12 (by decide) (fun c => ?_) (fun c => ?_)
      · rw [if_pos c] at hf
        exact hm_vret_e hf hx hb hr hlocks hK hI (Nat.le_of_ble_eq_true rfl) (Nat.le_of_ble_eq_true rfl) dX3_swapTopAndBottom_70
      · rw [if_neg c] at hf
        refine lv_iconst (v := (0 : Int32)) hx hb dX3_swapTopAndBottom_15 (by decide) ?_
        refine lv_istore_n (lv' := [(2, .int (0 : Int32)), (0, va_rf x0), (1, .int x1)]) hx hb dX3_swapTopAndBottom_16 rfl hl (by decide) rfl (fun ls hl => ?_)
        exact B17 hm_fu x0 x1 (0 : Int32) h hf _ _ _ hI (lv_sub hl [1, 2, 0] rfl)
  rw [show entryFrame m args 3 = entryFrame m ([.ref t] : List Value).toArray 3 from by rw [hargs]]
  have hl := lv_entry ([.ref t]) (n := 3) (Nat.le_of_ble_eq_true rfl)
  rw [lg_entry_eq]
  generalize (lg_sl ([.ref t]) ++ List.replicate (3 - (lg_sl ([.ref t])).length) Slot.unset).toArray = ls at hl ⊢
  have hl : lv_has ls 3 [(0, va_rf (some t))] := hl
  unfold fX3_swapTopAndBottom at hf
  refine lv_iconst (v := (0 : Int32)) hx hb dX3_swapTopAndBottom_0 (by decide) ?_
  refine lv_istore_n (lv' := [(1, .int (0 : Int32)), (0, va_rf (some t))]) hx hb dX3_swapTopAndBottom_1 rfl hl (by decide) (by simp only [List.filter, hm_cat2, Bool.and_false, Bool.not_false] <;> rfl) (fun ls hl => ?_)
  exact B2 hm_fu (some t) (0 : Int32) h0 hf _ _ _ hI (lv_sub hl [1, 0] rfl)
/-! ==== X3_isSound: BlitBoard$Surface.isSound()Z ==== -/
def fX3_isSound_66 (x0 : Option Nat) (s0 : Int32) (h : hm_H) : Option (Int32 × hm_H) :=
  if s0 = 0 then
    some ((0 : Int32), h)
  else
    hm_b (hm_gq 3 4 h x0) fun v11 =>
    hm_b (hm_gl 0 0 h v11) fun v12 =>
    hm_b (hm_gq 3 4 h x0) fun v13 =>
    hm_b (hm_gi 0 2 h v13) fun v14 =>
    hm_b (hm_gq 3 2 h x0) fun v15 =>
    hm_b (hm_gi 0 2 h v15) fun v16 =>
    if 0 < (lg_cmp (v12 + ((v14).toInt64)) ((v16).toInt64)) then
      some ((0 : Int32), h)
    else
      hm_b (hm_gq 3 4 h x0) fun v17 =>
      hm_b (hm_gl 0 1 h v17) fun v18 =>
      hm_b (hm_gq 3 4 h x0) fun v19 =>
      hm_b (hm_gi 0 3 h v19) fun v20 =>
      hm_b (hm_gq 3 2 h x0) fun v21 =>
      hm_b (hm_gi 0 3 h v21) fun v22 =>
      if 0 < (lg_cmp (v18 + ((v20).toInt64)) ((v22).toInt64)) then
        some ((0 : Int32), h)
      else
        some ((1 : Int32), h)
def fX3_isSound_65 (x0 : Option Nat) (h : hm_H) : Option (Int32 × hm_H) :=
  fX3_isSound_66 x0 (0 : Int32) h
def fX3_isSound_10 (K10 : Option Nat → Option Nat → Int32 → Int32 → hm_H → Option (Int32 × hm_H)) (x0 : Option Nat) (x1 : Option Nat) (x2 : Int32) (x3 : Int32) (h : hm_H) : Option (Int32 × hm_H) :=
  if x2 ≤ x3 then
    hm_b (hm_gq 3 4 h x0) fun v3 =>
    hm_b (hm_gl 0 0 h v3) fun v4 =>
    if (lg_cmp v4 (0 : Int64)) < 0 then
      fX3_isSound_65 x0 h
    else
      hm_b (hm_gq 3 4 h x0) fun v5 =>
      hm_b (hm_gl 0 1 h v5) fun v6 =>
      if (lg_cmp v6 (0 : Int64)) < 0 then
        fX3_isSound_65 x0 h
      else
        fX3_isSound_66 x0 (1 : Int32) h
  else
    hm_b (hm_ai 0 h x1 x3) fun v7 =>
    hm_b (hm_rc 3 h x0) fun b9 =>
    hm_b2 (fX3_fits b9 v7 h) fun v10 h8 =>
    if v10 = 0 then
      some ((0 : Int32), h8)
    else
      K10 x0 x1 x2 (x3 + (1 : Int32)) h8
def fX3_isSound (t : Nat) (h0 : hm_H) : Option (Int32 × hm_H) :=
  hm_b (hm_gq 3 3 h0 (some t)) fun v1 =>
  hm_b (hm_al 0 h0 v1) fun v2 =>
  hm_loop (fun _ _ _ _ _ => none) (fX3_isSound_10) hm_fu (some t) v1 v2 (0 : Int32) h0
set_option maxRecDepth 100000 in
set_option maxHeartbeats 8000000 in
theorem kX3_isSound (l : Launch) (D : va_G) (kA : Nat → ClassId) (t : Nat) (h0 h' : hm_H) (r : Int32) (hf : fX3_isSound t h0 = some (r, h')) : hm_C l yX3_isSound wsX3_isSound { frames := 1, cells := 0, slots := 0, locals := 21 } D vwCl kA (hm_ty kA) [.ref t] h0 (some (.int r)) h' 0 0 := by
  refine Met.ofW (cc := cX3_isSound) (maxL := 5) (ret := (some .boolean)) (by decide) rfl ?_
  intro p e s m args below meth c s₁ B hml hv
  obtain ⟨hargs, hB⟩ := hv
  have hx := B.exec
  have hb := B.bytes
  have hr := B.returns
  have hts := atoms_spec (ws := wsX3_isSound) B.pre
  have hown : s.vm.findClass RX3 = some m.cls := findClass_of_methodNamed B.named
  have hlocks := B.notSynchronized
  have hK := hB.2
  have hI := hm_start hB
  have w1 := hts (.fieldLink RX3 25 "BlitBoard$Surface" "dots" "[I") (by decide +kernel)
  have w2 := hts (.fieldLink RX3 29 "BlitBoard$Surface" "clip" "LBlitBoard$Area;") (by decide +kernel)
  have w3 := hts (.fieldLink RX3 54 "BlitBoard$Area" "left" "J") (by decide +kernel)
  have w4 := hts (.fieldLink RX3 58 "BlitBoard$Area" "top" "J") (by decide +kernel)
  have w5 := hts (.fieldLink RX3 32 "BlitBoard$Area" "wide" "I") (by decide +kernel)
  have w6 := hts (.fieldLink RX3 21 "BlitBoard$Surface" "whole" "LBlitBoard$Area;") (by decide +kernel)
  have w7 := hts (.fieldLink RX3 43 "BlitBoard$Area" "high" "I") (by decide +kernel)
  have hiX3 : ∀ w ∈ wsX30, w ∈ wsX3_isSound := by decide +kernel
  have hiX0 : ∀ w ∈ wsX00, w ∈ wsX3_isSound := by decide +kernel
  have B66 : ∀ (x0 : Option Nat) (s0 : Int32) (h : hm_H), fX3_isSound_66 x0 s0 h = some (r, h') → ∀ (H : Heap) (locs : List Loc) (ls : Array Slot), hm_I D vwCl kA (hm_A h0) s.heap h H locs → lv_has ls 5 [(0, va_rf x0)] → W p l e (headSpec wsX3_isSound { frames := 1, cells := 0, slots := 0, locals := 21 }).room s m args below meth c H locs 0 0 (MQ below (hm_Q D vwCl kA (hm_ty kA) h0 (some (.int r)) h') args s 0 0 (hm_A h0)) (F0 m 66 ls [.int s0]) := by
    intro x0 s0 h hf H locs ls hI hl
    unfold fX3_isSound_66 at hf
    refine lv_istore_n (lv' := [(1, .int s0), (0, va_rf x0)]) hx hb dX3_isSound_66 rfl hl (by decide) (by simp only [List.filter, hm_cat2, Bool.and_false, Bool.not_false] <;> rfl) (fun ls hl => ?_)
    refine lv_iload_n hx hb dX3_isSound_67 rfl (lv_at hl 0 rfl) ?_
    refine lv_if_eq (tgt := 131) hx hb dX3_isSound_68 (by decide) (fun c => ?_) (fun c => ?_)
    · rw [if_pos c] at hf
      refine lv_iconst (v := (0 : Int32)) hx hb dX3_isSound_131 (by decide) ?_
      exact hm_zret_e hf hx hb hr hlocks hK hI (Nat.le_of_ble_eq_true rfl) (Nat.le_of_ble_eq_true rfl) rfl dX3_isSound_132
    · rw [if_neg c] at hf
      refine hm_aload_n hx hb dX3_isSound_71 rfl (lv_at hl 1 rfl) ?_
      obtain ⟨v11, ev11, hf⟩ := hm_b_s hf
      refine hm_get (ci := 3) (k := 4) (C := RX3) (T := TX3) (N := 5) hx hb hts hiX3 hown hK hI rfl (by decide) w2 (hm_gq_s ev11) dX3_isSound_72 ?_
      obtain ⟨v12, ev12, hf⟩ := hm_b_s hf
      refine hm_get (ci := 0) (k := 0) (C := RX0) (T := TX0) (N := 4) hx hb hts hiX0 hown hK hI rfl (by decide) w3 (hm_gl_s ev12) dX3_isSound_75 ?_
      refine hm_aload_n hx hb dX3_isSound_78 rfl (lv_at hl 1 rfl) ?_
      obtain ⟨v13, ev13, hf⟩ := hm_b_s hf
      refine hm_get (ci := 3) (k := 4) (C := RX3) (T := TX3) (N := 5) hx hb hts hiX3 hown hK hI rfl (by decide) w2 (hm_gq_s ev13) dX3_isSound_79 ?_
      obtain ⟨v14, ev14, hf⟩ := hm_b_s hf
      refine hm_get (ci := 0) (k := 2) (C := RX0) (T := TX0) (N := 4) hx hb hts hiX0 hown hK hI rfl (by decide) w5 (hm_gi_s ev14) dX3_isSound_82 ?_
      refine lv_i2l (v := (v14).toInt64) hx hb dX3_isSound_85 rfl ?_
      refine lv_ladd hx hb dX3_isSound_86 ?_
      refine hm_aload_n hx hb dX3_isSound_87 rfl (lv_at hl 1 rfl) ?_
      obtain ⟨v15, ev15, hf⟩ := hm_b_s hf
      refine hm_get (ci := 3) (k := 2) (C := RX3) (T := TX3) (N := 5) hx hb hts hiX3 hown hK hI rfl (by decide) w6 (hm_gq_s ev15) dX3_isSound_88 ?_
      obtain ⟨v16, ev16, hf⟩ := hm_b_s hf
      refine hm_get (ci := 0) (k := 2) (C := RX0) (T := TX0) (N := 4) hx hb hts hiX0 hown hK hI rfl (by decide) w5 (hm_gi_s ev16) dX3_isSound_91 ?_
      refine lv_i2l (v := (v16).toInt64) hx hb dX3_isSound_94 rfl ?_
      refine W.lcmp hx hb dX3_isSound_95 ?_
      refine lv_if_gt (tgt := 131) hx hb dX3_isSound_96 (by decide) (fun c => ?_) (fun c => ?_)
      · rw [if_pos c] at hf
        refine lv_iconst (v := (0 : Int32)) hx hb dX3_isSound_131 (by decide) ?_
        exact hm_zret_e hf hx hb hr hlocks hK hI (Nat.le_of_ble_eq_true rfl) (Nat.le_of_ble_eq_true rfl) rfl dX3_isSound_132
      · rw [if_neg c] at hf
        refine hm_aload_n hx hb dX3_isSound_99 rfl (lv_at hl 1 rfl) ?_
        obtain ⟨v17, ev17, hf⟩ := hm_b_s hf
        refine hm_get (ci := 3) (k := 4) (C := RX3) (T := TX3) (N := 5) hx hb hts hiX3 hown hK hI rfl (by decide) w2 (hm_gq_s ev17) dX3_isSound_100 ?_
        obtain ⟨v18, ev18, hf⟩ := hm_b_s hf
        refine hm_get (ci := 0) (k := 1) (C := RX0) (T := TX0) (N := 4) hx hb hts hiX0 hown hK hI rfl (by decide) w4 (hm_gl_s ev18) dX3_isSound_103 ?_
        refine hm_aload_n hx hb dX3_isSound_106 rfl (lv_at hl 1 rfl) ?_
        obtain ⟨v19, ev19, hf⟩ := hm_b_s hf
        refine hm_get (ci := 3) (k := 4) (C := RX3) (T := TX3) (N := 5) hx hb hts hiX3 hown hK hI rfl (by decide) w2 (hm_gq_s ev19) dX3_isSound_107 ?_
        obtain ⟨v20, ev20, hf⟩ := hm_b_s hf
        refine hm_get (ci := 0) (k := 3) (C := RX0) (T := TX0) (N := 4) hx hb hts hiX0 hown hK hI rfl (by decide) w7 (hm_gi_s ev20) dX3_isSound_110 ?_
        refine lv_i2l (v := (v20).toInt64) hx hb dX3_isSound_113 rfl ?_
        refine lv_ladd hx hb dX3_isSound_114 ?_
        refine hm_aload_n hx hb dX3_isSound_115 rfl (lv_at hl 1 rfl) ?_
        obtain ⟨v21, ev21, hf⟩ := hm_b_s hf
        refine hm_get (ci := 3) (k := 2) (C := RX3) (T := TX3) (N := 5) hx hb hts hiX3 hown hK hI rfl (by decide) w6 (hm_gq_s ev21) dX3_isSound_116 ?_
        obtain ⟨v22, ev22, hf⟩ := hm_b_s hf
        refine hm_get (ci := 0) (k := 3) (C := RX0) (T := TX0) (N := 4) hx hb hts hiX0 hown hK hI rfl (by decide) w7 (hm_gi_s ev22) dX3_isSound_119 ?_
        refine lv_i2l (v := (v22).toInt64) hx hb dX3_isSound_122 rfl ?_
        refine W.lcmp hx hb dX3_isSound_123 ?_
        refine lv_if_gt (tgt := 131) hx hb dX3_isSound_124 (by decide) (fun c => ?_) (fun c => ?_)
        · rw [if_pos c] at hf
          refine lv_iconst (v := (0 : Int32)) hx hb dX3_isSound_131 (by decide) ?_
          exact hm_zret_e hf hx hb hr hlocks hK hI (Nat.le_of_ble_eq_true rfl) (Nat.le_of_ble_eq_true rfl) rfl dX3_isSound_132
        · rw [if_neg c] at hf
          refine lv_iconst (v := (1 : Int32)) hx hb dX3_isSound_127 (by decide) ?_
          refine lv_goto (tgt := 132) hx hb dX3_isSound_128 (by decide) ?_
          exact hm_zret_e hf hx hb hr hlocks hK hI (Nat.le_of_ble_eq_true rfl) (Nat.le_of_ble_eq_true rfl) rfl dX3_isSound_132
  have B65 : ∀ (x0 : Option Nat) (h : hm_H), fX3_isSound_65 x0 h = some (r, h') → ∀ (H : Heap) (locs : List Loc) (ls : Array Slot), hm_I D vwCl kA (hm_A h0) s.heap h H locs → lv_has ls 5 [(0, va_rf x0)] → W p l e (headSpec wsX3_isSound { frames := 1, cells := 0, slots := 0, locals := 21 }).room s m args below meth c H locs 0 0 (MQ below (hm_Q D vwCl kA (hm_ty kA) h0 (some (.int r)) h') args s 0 0 (hm_A h0)) (F0 m 65 ls []) := by
    intro x0 h hf H locs ls hI hl
    unfold fX3_isSound_65 at hf
    refine lv_iconst (v := (0 : Int32)) hx hb dX3_isSound_65 (by decide) ?_
    exact B66 x0 (0 : Int32) h hf _ _ _ hI (lv_sub hl [0] rfl)
  have B10 : ∀ (fu : Nat) (x0 : Option Nat) (x1 : Option Nat) (x2 : Int32) (x3 : Int32) (h : hm_H), hm_loop (fun _ _ _ _ _ => none) (fX3_isSound_10) fu x0 x1 x2 x3 h = some (r, h') → ∀ (H : Heap) (locs : List Loc) (ls : Array Slot), hm_I D vwCl kA (hm_A h0) s.heap h H locs → lv_has ls 5 [(0, va_rf x0), (1, va_rf x1), (2, .int x2), (3, .int x3)] → W p l e (headSpec wsX3_isSound { frames := 1, cells := 0, slots := 0, locals := 21 }).room s m args below meth c H locs 0 0 (MQ below (hm_Q D vwCl kA (hm_ty kA) h0 (some (.int r)) h') args s 0 0 (hm_A h0)) (F0 m 10 ls []) := by
    intro fu
    induction fu with
    | zero => intro x0 x1 x2 x3 h hf; cases hf
    | succ fu ih10 =>
      rw [hm_loop_s]
      generalize hm_loop (fun _ _ _ _ _ => none) (fX3_isSound_10) fu = K10 at ih10 ⊢
      intro x0 x1 x2 x3 h hf H locs ls hI hl
      unfold fX3_isSound_10 at hf
      refine lv_iload_n hx hb dX3_isSound_10 rfl (lv_at hl 3 rfl) ?_
      refine lv_iload_n hx hb dX3_isSound_11 rfl (lv_at hl 2 rfl) ?_
      refine lv_icmp_ge (tgt := 37) hx hb dX3_isSound_12 (by decide) (fun c => ?_) (fun c => ?_)
      · rw [if_pos c] at hf
        refine hm_aload_n hx hb dX3_isSound_37 rfl (lv_at hl 0 rfl) ?_
        obtain ⟨v3, ev3, hf⟩ := hm_b_s hf
        refine hm_get (ci := 3) (k := 4) (C := RX3) (T := TX3) (N := 5) hx hb hts hiX3 hown hK hI rfl (by decide) w2 (hm_gq_s ev3) dX3_isSound_38 ?_
        obtain ⟨v4, ev4, hf⟩ := hm_b_s hf
        refine hm_get (ci := 0) (k := 0) (C := RX0) (T := TX0) (N := 4) hx hb hts hiX0 hown hK hI rfl (by decide) w3 (hm_gl_s ev4) dX3_isSound_41 ?_
        refine lv_lconst (v := (0 : Int64)) hx hb dX3_isSound_44 (by decide) ?_
        refine W.lcmp hx hb dX3_isSound_45 ?_
        refine lv_if_lt (tgt := 65) hx hb dX3_isSound_46 (by decide) (fun c => ?_) (fun c => ?_)
        · rw [if_pos c] at hf
          exact B65 x0 h hf _ _ _ hI (lv_sub hl [0] rfl)
        · rw [if_neg c] at hf
          refine hm_aload_n hx hb dX3_isSound_49 rfl (lv_at hl 0 rfl) ?_
          obtain ⟨v5, ev5, hf⟩ := hm_b_s hf
          refine hm_get (ci := 3) (k := 4) (C := RX3) (T := TX3) (N := 5) hx hb hts hiX3 hown hK hI rfl (by decide) w2 (hm_gq_s ev5) dX3_isSound_50 ?_
          obtain ⟨v6, ev6, hf⟩ := hm_b_s hf
          refine hm_get (ci := 0) (k := 1) (C := RX0) (T := TX0) (N := 4) hx hb hts hiX0 hown hK hI rfl (by decide) w4 (hm_gl_s ev6) dX3_isSound_53 ?_
          refine lv_lconst (v := (0 : Int64)) hx hb dX3_isSound_56 (by decide) ?_
          refine W.lcmp hx hb dX3_isSound_57 ?_
          refine lv_if_lt (tgt := 65) hx hb dX3_isSound_58 (by decide) (fun c => ?_) (fun c => ?_)
          · rw [if_pos c] at hf
            exact B65 x0 h hf _ _ _ hI (lv_sub hl [0] rfl)
          · rw [if_neg c] at hf
            refine lv_iconst (v := (1 : Int32)) hx hb dX3_isSound_61 (by decide) ?_
            refine lv_goto (tgt := 66) hx hb dX3_isSound_62 (by decide) ?_
            exact B66 x0 (1 : Int32) h hf _ _ _ hI (lv_sub hl [0] rfl)
      · rw [if_neg c] at hf
        refine hm_aload_n hx hb dX3_isSound_15 rfl (lv_at hl 1 rfl) ?_
        refine lv_iload_n hx hb dX3_isSound_16 rfl (lv_at hl 3 rfl) ?_
        obtain ⟨v7, ev7, hf⟩ := hm_b_s hf
        refine hm_iald (kd := 0) (t0 := 0) hx hb hK hI rfl ev7 dX3_isSound_17 ?_
        refine lv_istore (lv' := [(4, .int v7), (0, va_rf x0), (1, va_rf x1), (2, .int x2), (3, .int x3)]) hx hb dX3_isSound_18 hl (by decide) rfl (fun ls hl => ?_)
        refine hm_aload_n hx hb dX3_isSound_20 rfl (lv_at hl 1 rfl) ?_
        refine lv_iload hx hb dX3_isSound_21 (lv_at hl 0 rfl) ?_
        obtain ⟨b9, eb9, hf⟩ := hm_b_s hf
        obtain ⟨v10, h8, eh8, hf⟩ := hm_b2_s hf
        refine hm_cV (As := [.int v7]) (rest := []) ⟨hx, hb, hml, hown, hts⟩ hK hI eb9 rfl rfl (kX3_fits l D kA b9 v7 h h8 v10 eh8) (cwV 1 hts gX3_isSound_X3_fits rfl rfl rfl (by decide +kernel) ⟨Nat.le_of_ble_eq_true rfl, Nat.le_of_ble_eq_true rfl⟩) rfl hl.1 rfl (by first | exact Nat.le_of_ble_eq_true rfl | (simp only [List.map, hm_rf_cat, hm_ci, hm_cl, List.sum_cons, List.sum_nil] <;> decide)) dX3_isSound_23 ⟨Nat.le_of_ble_eq_true rfl, Nat.le_of_ble_eq_true rfl⟩ (fun H locs hI => ?_)
        refine lv_if_ne (tgt := 31) hx hb dX3_isSound_26 (by decide) (fun c => ?_) (fun c => ?_)
        · rw [if_neg c] at hf
          refine lv_iinc (v := x3 + (1 : Int32)) (lv' := [(3, .int (x3 + (1 : Int32))), (4, .int v7), (0, va_rf x0), (1, va_rf x1), (2, .int x2)]) hx hb dX3_isSound_31 hl (k := 4) rfl rfl (by decide) rfl (fun ls hl => ?_)
          refine lv_goto (tgt := 10) hx hb dX3_isSound_34 (by decide) ?_
          exact ih10 x0 x1 x2 (x3 + (1 : Int32)) h8 hf _ _ _ hI (lv_sub hl [2, 3, 4, 0] rfl)
        · rw [if_pos c] at hf
          refine lv_iconst (v := (0 : Int32)) hx hb dX3_isSound_29 (by decide) ?_
          exact hm_zret_e hf hx hb hr hlocks hK hI (Nat.le_of_ble_eq_true rfl) (Nat.le_of_ble_eq_true rfl) rfl dX3_isSound_30
  rw [show entryFrame m args 5 = entryFrame m ([.ref t] : List Value).toArray 5 from by rw [hargs]]
  have hl := lv_entry ([.ref t]) (n := 5) (Nat.le_of_ble_eq_true rfl)
  rw [lg_entry_eq]
  generalize (lg_sl ([.ref t]) ++ List.replicate (5 - (lg_sl ([.ref t])).length) Slot.unset).toArray = ls at hl ⊢
  have hl : lv_has ls 5 [(0, va_rf (some t))] := hl
  unfold fX3_isSound at hf
  refine hm_aload_n hx hb dX3_isSound_0 rfl (lv_at hl 0 rfl) ?_
  obtain ⟨v1, ev1, hf⟩ := hm_b_s hf
  refine hm_get (ci := 3) (k := 3) (C := RX3) (T := TX3) (N := 5) hx hb hts hiX3 hown hK hI rfl (by decide) w1 (hm_gq_s ev1) dX3_isSound_1 ?_
  refine hm_astore_n (lv' := [(1, va_rf v1), (0, va_rf (some t))]) hx hb dX3_isSound_4 rfl hl (by decide) (by simp only [List.filter, hm_cat2, Bool.and_false, Bool.not_false] <;> rfl) (fun ls hl => ?_)
  refine hm_aload_n hx hb dX3_isSound_5 rfl (lv_at hl 0 rfl) ?_
  obtain ⟨v2, ev2, hf⟩ := hm_b_s hf
  refine hm_alen (kd := 0) (t0 := 0) hx hb hK hI rfl ev2 dX3_isSound_6 ?_
  refine lv_istore_n (lv' := [(2, .int v2), (1, va_rf v1), (0, va_rf (some t))]) hx hb dX3_isSound_7 rfl hl (by decide) (by simp only [List.filter, hm_cat2, Bool.and_false, Bool.not_false] <;> rfl) (fun ls hl => ?_)
  refine lv_iconst (v := (0 : Int32)) hx hb dX3_isSound_8 (by decide) ?_
  refine lv_istore_n (lv' := [(3, .int (0 : Int32)), (2, .int v2), (1, va_rf v1), (0, va_rf (some t))]) hx hb dX3_isSound_9 rfl hl (by decide) rfl (fun ls hl => ?_)
  exact B10 hm_fu (some t) v1 v2 (0 : Int32) h0 hf _ _ _ hI (lv_sub hl [3, 2, 1, 0] rfl)
/-! ==== X4_init: BlitBoard$Teller.<init>(LBlitBoard$Surface;ILBlitBoard$Sprite;)V ==== -/
def fX4_init (t : Nat) (a1 : Option Nat) (a2 : Int32) (a3 : Option Nat) (h0 : hm_H) : Option hm_H :=
  hm_b (hm_p 4 0 (va_rf a1) h0 (some t)) fun h1 =>
  hm_b (hm_p 4 1 (.int a2) h1 (some t)) fun h2 =>
  hm_b (hm_p 4 2 (va_rf a3) h2 (some t)) fun h3 =>
  some h3
set_option maxRecDepth 100000 in
set_option maxHeartbeats 8000000 in
theorem kX4_init (l : Launch) (D : va_G) (kA : Nat → ClassId) (t : Nat) (a1 : Option Nat) (a2 : Int32) (a3 : Option Nat) (h0 h' : hm_H) (hf : fX4_init t a1 a2 a3 h0 = some h') : hm_C l yX4_init wsX4_init { frames := 1, cells := 0, slots := 0, locals := 20 } D vwCl kA (hm_ty kA) [.ref t, va_rf a1, .int a2, va_rf a3] h0 none h' 0 0 := by
  refine Met.ofW (cc := cX4_init) (maxL := 4) (ret := none) (by decide) rfl ?_
  intro p e s m args below meth c s₁ B hml hv
  obtain ⟨hargs, hB⟩ := hv
  have hx := B.exec
  have hb := B.bytes
  have hr := B.returns
  have hts := atoms_spec (ws := wsX4_init) B.pre
  have hown : s.vm.findClass RX4 = some m.cls := findClass_of_methodNamed B.named
  have hlocks := B.notSynchronized
  have hin : meth.name = "<init>" := (name_of_methodNamed B.named B.method).1
  have hK := hB.2
  have hI := hm_start hB
  have w1 := hts (.methodLink RX4 3 objectInit) (by decide +kernel)
  have w2 := hts (.instanceMethod objectInit) (by decide +kernel)
  have w3 := hts (.code objectInit ⟨#[0xb1]⟩ 1 none) (by decide +kernel)
  have w4 := hts (.fieldLink RX4 9 "BlitBoard$Teller" "of" "LBlitBoard$Surface;") (by decide +kernel)
  have w5 := hts (.fieldLink RX4 15 "BlitBoard$Teller" "key" "I") (by decide +kernel)
  have w6 := hts (.fieldLink RX4 19 "BlitBoard$Teller" "into" "LBlitBoard$Sprite;") (by decide +kernel)
  have hiX4 : ∀ w ∈ wsX40, w ∈ wsX4_init := by decide +kernel
  rw [show entryFrame m args 4 = entryFrame m ([.ref t, va_rf a1, .int a2, va_rf a3] : List Value).toArray 4 from by rw [hargs]]
  have hl := lv_entry ([.ref t, va_rf a1, .int a2, va_rf a3]) (n := 4) (by simp only [hm_sl_q, hm_sl_i, hm_sl_l, hm_sl_r, hm_sl_n, List.length_cons, List.length_nil] <;> decide)
  rw [lg_entry_eq]
  generalize (lg_sl ([.ref t, va_rf a1, .int a2, va_rf a3]) ++ List.replicate (4 - (lg_sl ([.ref t, va_rf a1, .int a2, va_rf a3])).length) Slot.unset).toArray = ls at hl ⊢
  rw [show lv_args 0 [.ref t, va_rf a1, .int a2, va_rf a3] = [(0, va_rf (some t)), (1, va_rf a1), (2, .int a2), (3, va_rf a3)] from by simp only [hm_ar_q, hm_ar_i, hm_ar_l, hm_ar_r, hm_ar_n]] at hl
  have hl : lv_has ls 4 [(0, va_rf (some t)), (1, va_rf a1), (2, .int a2), (3, va_rf a3)] := hl
  unfold fX4_init at hf
  refine hm_aload_n hx hb dX4_init_0 rfl (lv_at hl 0 rfl) ?_
  refine W.objInit hx hb hown w1 w2 w3 rfl (by rw [hml]; exact hl.1) rfl dX4_init_1 (Nat.le_of_ble_eq_true rfl) (Nat.le_of_ble_eq_true rfl) ?_
  refine W.eq (g2 := F0 m 4 ls []) rfl ?_
  refine hm_aload_n hx hb dX4_init_4 rfl (lv_at hl 0 rfl) ?_
  refine hm_aload_n hx hb dX4_init_5 rfl (lv_at hl 1 rfl) ?_
  obtain ⟨h1, eh1, hf⟩ := hm_b_s hf
  refine hm_putF (ci := 4) (k := 0) (C := RX4) (T := TX4) (N := 3) hx hb hts hiX4 tyX4 tyX4_ok nmX4 hown hK hI rfl (by decide) w4 rfl hin rfl eh1 hm_nqo hm_fqo dX4_init_6 (fun H locs hI => ?_)
  refine hm_aload_n hx hb dX4_init_9 rfl (lv_at hl 0 rfl) ?_
  refine lv_iload_n hx hb dX4_init_10 rfl (lv_at hl 2 rfl) ?_
  obtain ⟨h2, eh2, hf⟩ := hm_b_s hf
  refine hm_putF (ci := 4) (k := 1) (C := RX4) (T := TX4) (N := 3) hx hb hts hiX4 tyX4 tyX4_ok nmX4 hown hK hI rfl (by decide) w5 rfl hin rfl eh2 rfl rfl dX4_init_11 (fun H locs hI => ?_)
  refine hm_aload_n hx hb dX4_init_14 rfl (lv_at hl 0 rfl) ?_
  refine hm_aload_n hx hb dX4_init_15 rfl (lv_at hl 3 rfl) ?_
  obtain ⟨h3, eh3, hf⟩ := hm_b_s hf
  refine hm_putF (ci := 4) (k := 2) (C := RX4) (T := TX4) (N := 3) hx hb hts hiX4 tyX4 tyX4_ok nmX4 hown hK hI rfl (by decide) w6 rfl hin rfl eh3 hm_nqo hm_fqo dX4_init_16 (fun H locs hI => ?_)
  exact hm_vret_e hf hx hb hr hlocks hK hI (Nat.le_of_ble_eq_true rfl) (Nat.le_of_ble_eq_true rfl) dX4_init_19
/-! ==== X4_toldEnd: BlitBoard$Teller.toldEnd(I)I ==== -/
def fX4_toldEnd_40 (K4 : Option Nat → Int32 → Int32 → Int32 → hm_H → Option (Int32 × hm_H)) (x0 : Option Nat) (x1 : Int32) (x2 : Int32) (x3 : Int32) (h : hm_H) : Option (Int32 × hm_H) :=
  K4 x0 x1 x2 (x3 + (1 : Int32)) h
def fX4_toldEnd_4 (K4 : Option Nat → Int32 → Int32 → Int32 → hm_H → Option (Int32 × hm_H)) (x0 : Option Nat) (x1 : Int32) (x2 : Int32) (x3 : Int32) (h : hm_H) : Option (Int32 × hm_H) :=
  hm_b (hm_gq 4 0 h x0) fun v1 =>
  hm_b (hm_gq 3 2 h v1) fun v2 =>
  hm_b (hm_gi 0 2 h v2) fun v3 =>
  if (x1 + v3) ≤ x3 then
    some (x2, h)
  else
    hm_b (hm_gq 4 0 h x0) fun v4 =>
    hm_b (hm_gq 3 3 h v4) fun v5 =>
    hm_b (hm_ai 0 h v5 x3) fun v6 =>
    hm_b (hm_gi 4 1 h x0) fun v7 =>
    if v6 = v7 then
      fX4_toldEnd_40 K4 x0 x1 x2 x3 h
    else
      hm_let (x3 + (1 : Int32)) fun v8 =>
      fX4_toldEnd_40 K4 x0 x1 v8 x3 h
def fX4_toldEnd (t : Nat) (a1 : Int32) (h0 : hm_H) : Option (Int32 × hm_H) :=
  hm_loop (fun _ _ _ _ _ => none) (fX4_toldEnd_4) hm_fu (some t) a1 a1 a1 h0
set_option maxRecDepth 100000 in
set_option maxHeartbeats 8000000 in
theorem kX4_toldEnd (l : Launch) (D : va_G) (kA : Nat → ClassId) (t : Nat) (a1 : Int32) (h0 h' : hm_H) (r : Int32) (hf : fX4_toldEnd t a1 h0 = some (r, h')) : hm_C l yX4_toldEnd wsX4_toldEnd { frames := 0, cells := 0, slots := 0, locals := 0 } D vwCl kA (hm_ty kA) [.ref t, .int a1] h0 (some (.int r)) h' 0 0 := by
  refine Met.ofW (cc := cX4_toldEnd) (maxL := 4) (ret := (some .int)) (by decide) rfl ?_
  intro p e s m args below meth c s₁ B hml hv
  obtain ⟨hargs, hB⟩ := hv
  have hx := B.exec
  have hb := B.bytes
  have hr := B.returns
  have hts := atoms_spec (ws := wsX4_toldEnd) B.pre
  have hown : s.vm.findClass RX4 = some m.cls := findClass_of_methodNamed B.named
  have hlocks := B.notSynchronized
  have hK := hB.2
  have hI := hm_start hB
  have w1 := hts (.fieldLink RX4 9 "BlitBoard$Teller" "of" "LBlitBoard$Surface;") (by decide +kernel)
  have w2 := hts (.fieldLink RX4 23 "BlitBoard$Surface" "whole" "LBlitBoard$Area;") (by decide +kernel)
  have w3 := hts (.fieldLink RX4 63 "BlitBoard$Area" "wide" "I") (by decide +kernel)
  have w4 := hts (.fieldLink RX4 55 "BlitBoard$Surface" "dots" "[I") (by decide +kernel)
  have w5 := hts (.fieldLink RX4 15 "BlitBoard$Teller" "key" "I") (by decide +kernel)
  have hiX4 : ∀ w ∈ wsX40, w ∈ wsX4_toldEnd := by decide +kernel
  have hiX3 : ∀ w ∈ wsX30, w ∈ wsX4_toldEnd := by decide +kernel
  have hiX0 : ∀ w ∈ wsX00, w ∈ wsX4_toldEnd := by decide +kernel
  have B4 : ∀ (fu : Nat) (x0 : Option Nat) (x1 : Int32) (x2 : Int32) (x3 : Int32) (h : hm_H), hm_loop (fun _ _ _ _ _ => none) (fX4_toldEnd_4) fu x0 x1 x2 x3 h = some (r, h') → ∀ (H : Heap) (locs : List Loc) (ls : Array Slot), hm_I D vwCl kA (hm_A h0) s.heap h H locs → lv_has ls 4 [(0, va_rf x0), (1, .int x1), (2, .int x2), (3, .int x3)] → W p l e (headSpec wsX4_toldEnd { frames := 0, cells := 0, slots := 0, locals := 0 }).room s m args below meth c H locs 0 0 (MQ below (hm_Q D vwCl kA (hm_ty kA) h0 (some (.int r)) h') args s 0 0 (hm_A h0)) (F0 m 4 ls []) := by
    intro fu
    induction fu with
    | zero => intro x0 x1 x2 x3 h hf; cases hf
    | succ fu ih4 =>
      rw [hm_loop_s]
      generalize hm_loop (fun _ _ _ _ _ => none) (fX4_toldEnd_4) fu = K4 at ih4 ⊢
      have B40 : ∀ (x0 : Option Nat) (x1 : Int32) (x2 : Int32) (x3 : Int32) (h : hm_H), fX4_toldEnd_40 K4 x0 x1 x2 x3 h = some (r, h') → ∀ (H : Heap) (locs : List Loc) (ls : Array Slot), hm_I D vwCl kA (hm_A h0) s.heap h H locs → lv_has ls 4 [(0, va_rf x0), (1, .int x1), (2, .int x2), (3, .int x3)] → W p l e (headSpec wsX4_toldEnd { frames := 0, cells := 0, slots := 0, locals := 0 }).room s m args below meth c H locs 0 0 (MQ below (hm_Q D vwCl kA (hm_ty kA) h0 (some (.int r)) h') args s 0 0 (hm_A h0)) (F0 m 40 ls []) := by
        intro x0 x1 x2 x3 h hf H locs ls hI hl
        unfold fX4_toldEnd_40 at hf
        refine lv_iinc (v := x3 + (1 : Int32)) (lv' := [(3, .int (x3 + (1 : Int32))), (0, va_rf x0), (1, .int x1), (2, .int x2)]) hx hb dX4_toldEnd_40 hl (k := 3) rfl rfl (by decide) rfl (fun ls hl => ?_)
        refine lv_goto (tgt := 4) hx hb dX4_toldEnd_43 (by decide) ?_
        exact ih4 x0 x1 x2 (x3 + (1 : Int32)) h hf _ _ _ hI (lv_sub hl [1, 2, 3, 0] rfl)
      intro x0 x1 x2 x3 h hf H locs ls hI hl
      unfold fX4_toldEnd_4 at hf
      refine lv_iload_n hx hb dX4_toldEnd_4 rfl (lv_at hl 3 rfl) ?_
      refine lv_iload_n hx hb dX4_toldEnd_5 rfl (lv_at hl 1 rfl) ?_
      refine hm_aload_n hx hb dX4_toldEnd_6 rfl (lv_at hl 0 rfl) ?_
      obtain ⟨v1, ev1, hf⟩ := hm_b_s hf
      refine hm_get (ci := 4) (k := 0) (C := RX4) (T := TX4) (N := 3) hx hb hts hiX4 hown hK hI rfl (by decide) w1 (hm_gq_s ev1) dX4_toldEnd_7 ?_
      obtain ⟨v2, ev2, hf⟩ := hm_b_s hf
      refine hm_get (ci := 3) (k := 2) (C := RX3) (T := TX3) (N := 5) hx hb hts hiX3 hown hK hI rfl (by decide) w2 (hm_gq_s ev2) dX4_toldEnd_10 ?_
      obtain ⟨v3, ev3, hf⟩ := hm_b_s hf
      refine hm_get (ci := 0) (k := 2) (C := RX0) (T := TX0) (N := 4) hx hb hts hiX0 hown hK hI rfl (by decide) w3 (hm_gi_s ev3) dX4_toldEnd_13 ?_
      refine lv_iadd hx hb dX4_toldEnd_16 ?_
      refine lv_icmp_ge (tgt := 46) hx hb dX4_toldEnd_17 (by decide) (fun c => ?_) (fun c => ?_)
      · rw [if_pos c] at hf
        refine lv_iload_n hx hb dX4_toldEnd_46 rfl (lv_at hl 2 rfl) ?_
        exact hm_iret_e hf hx hb hr hlocks hK hI (Nat.le_of_ble_eq_true rfl) (Nat.le_of_ble_eq_true rfl) dX4_toldEnd_47
      · rw [if_neg c] at hf
        refine hm_aload_n hx hb dX4_toldEnd_20 rfl (lv_at hl 0 rfl) ?_
        obtain ⟨v4, ev4, hf⟩ := hm_b_s hf
        refine hm_get (ci := 4) (k := 0) (C := RX4) (T := TX4) (N := 3) hx hb hts hiX4 hown hK hI rfl (by decide) w1 (hm_gq_s ev4) dX4_toldEnd_21 ?_
        obtain ⟨v5, ev5, hf⟩ := hm_b_s hf
        refine hm_get (ci := 3) (k := 3) (C := RX3) (T := TX3) (N := 5) hx hb hts hiX3 hown hK hI rfl (by decide) w4 (hm_gq_s ev5) dX4_toldEnd_24 ?_
        refine lv_iload_n hx hb dX4_toldEnd_27 rfl (lv_at hl 3 rfl) ?_
        obtain ⟨v6, ev6, hf⟩ := hm_b_s hf
        refine hm_iald (kd := 0) (t0 := 0) hx hb hK hI rfl ev6 dX4_toldEnd_28 ?_
        refine hm_aload_n hx hb dX4_toldEnd_29 rfl (lv_at hl 0 rfl) ?_
        obtain ⟨v7, ev7, hf⟩ := hm_b_s hf
        refine hm_get (ci := 4) (k := 1) (C := RX4) (T := TX4) (N := 3) hx hb hts hiX4 hown hK hI rfl (by decide) w5 (hm_gi_s ev7) dX4_toldEnd_30 ?_
        refine lv_icmp_eq (tgt := 40) hx hb dX4_toldEnd_33 (by decide) (fun c => ?_) (fun c => ?_)
        · rw [if_pos c] at hf
          exact B40 x0 x1 x2 x3 h hf _ _ _ hI (lv_sub hl [0, 1, 2, 3] rfl)
        · rw [if_neg c] at hf
          refine lv_iload_n hx hb dX4_toldEnd_36 rfl (lv_at hl 3 rfl) ?_
          refine lv_iconst (v := (1 : Int32)) hx hb dX4_toldEnd_37 (by decide) ?_
          refine lv_iadd hx hb dX4_toldEnd_38 ?_
          obtain ⟨v8, ev8, hf⟩ := hm_let_s hf
          refine hm_ti ev8 ?_
          refine lv_istore_n (lv' := [(2, .int v8), (0, va_rf x0), (1, .int x1), (3, .int x3)]) hx hb dX4_toldEnd_39 rfl hl (by decide) rfl (fun ls hl => ?_)
          exact B40 x0 x1 v8 x3 h hf _ _ _ hI (lv_sub hl [1, 2, 0, 3] rfl)
  rw [show entryFrame m args 4 = entryFrame m ([.ref t, .int a1] : List Value).toArray 4 from by rw [hargs]]
  have hl := lv_entry ([.ref t, .int a1]) (n := 4) (Nat.le_of_ble_eq_true rfl)
  rw [lg_entry_eq]
  generalize (lg_sl ([.ref t, .int a1]) ++ List.replicate (4 - (lg_sl ([.ref t, .int a1])).length) Slot.unset).toArray = ls at hl ⊢
  have hl : lv_has ls 4 [(0, va_rf (some t)), (1, .int a1)] := hl
  unfold fX4_toldEnd at hf
  refine lv_iload_n hx hb dX4_toldEnd_0 rfl (lv_at hl 1 rfl) ?_
  refine lv_istore_n (lv' := [(2, .int a1), (0, va_rf (some t)), (1, .int a1)]) hx hb dX4_toldEnd_1 rfl hl (by decide) rfl (fun ls hl => ?_)
  refine lv_iload_n hx hb dX4_toldEnd_2 rfl (lv_at hl 2 rfl) ?_
  refine lv_istore_n (lv' := [(3, .int a1), (2, .int a1), (0, va_rf (some t)), (1, .int a1)]) hx hb dX4_toldEnd_3 rfl hl (by decide) rfl (fun ls hl => ?_)
  exact B4 hm_fu (some t) a1 a1 a1 h0 hf _ _ _ hI (lv_sub hl [2, 3, 1, 0] rfl)
/-! ==== X4_isThree: BlitBoard$Teller.isThree(II)Z ==== -/
def fX4_isThree (t : Nat) (a1 : Int32) (a2 : Int32) (h0 : hm_H) : Option (Int32 × hm_H) :=
  if a2 < a1 then
    some ((0 : Int32), h0)
  else
    hm_b (hm_gq 4 0 h0 (some t)) fun v1 =>
    hm_b (hm_gq 3 2 h0 v1) fun v2 =>
    hm_b (hm_gi 0 2 h0 v2) fun v3 =>
    if (a2 + (2 : Int32)) < (a1 + v3) then
      hm_b (hm_gq 4 0 h0 (some t)) fun v4 =>
      hm_b (hm_gq 3 3 h0 v4) fun v5 =>
      hm_b (hm_ai 0 h0 v5 a2) fun v6 =>
      hm_b (hm_gq 4 0 h0 (some t)) fun v7 =>
      hm_b (hm_gq 3 3 h0 v7) fun v8 =>
      hm_b (hm_ai 0 h0 v8 (a2 + (1 : Int32))) fun v9 =>
      if v6 = v9 then
        hm_b (hm_gq 4 0 h0 (some t)) fun v10 =>
        hm_b (hm_gq 3 3 h0 v10) fun v11 =>
        hm_b (hm_ai 0 h0 v11 a2) fun v12 =>
        hm_b (hm_gq 4 0 h0 (some t)) fun v13 =>
        hm_b (hm_gq 3 3 h0 v13) fun v14 =>
        hm_b (hm_ai 0 h0 v14 (a2 + (2 : Int32))) fun v15 =>
        if v12 = v15 then
          some ((1 : Int32), h0)
        else
          some ((0 : Int32), h0)
      else
        some ((0 : Int32), h0)
    else
      some ((0 : Int32), h0)
set_option maxRecDepth 100000 in
set_option maxHeartbeats 8000000 in
theorem kX4_isThree (l : Launch) (D : va_G) (kA : Nat → ClassId) (t : Nat) (a1 : Int32) (a2 : Int32) (h0 h' : hm_H) (r : Int32) (hf : fX4_isThree t a1 a2 h0 = some (r, h')) : hm_C l yX4_isThree wsX4_isThree { frames := 0, cells := 0, slots := 0, locals := 0 } D vwCl kA (hm_ty kA) [.ref t, .int a1, .int a2] h0 (some (.int r)) h' 0 0 := by
  refine Met.ofW (cc := cX4_isThree) (maxL := 3) (ret := (some .boolean)) (by decide) rfl ?_
  intro p e s m args below meth c s₁ B hml hv
  obtain ⟨hargs, hB⟩ := hv
  have hx := B.exec
  have hb := B.bytes
  have hr := B.returns
  have hts := atoms_spec (ws := wsX4_isThree) B.pre
  have hown : s.vm.findClass RX4 = some m.cls := findClass_of_methodNamed B.named
  have hlocks := B.notSynchronized
  have hK := hB.2
  have hI := hm_start hB
  have w1 := hts (.fieldLink RX4 9 "BlitBoard$Teller" "of" "LBlitBoard$Surface;") (by decide +kernel)
  have w2 := hts (.fieldLink RX4 23 "BlitBoard$Surface" "whole" "LBlitBoard$Area;") (by decide +kernel)
  have w3 := hts (.fieldLink RX4 63 "BlitBoard$Area" "wide" "I") (by decide +kernel)
  have w4 := hts (.fieldLink RX4 55 "BlitBoard$Surface" "dots" "[I") (by decide +kernel)
  have hiX4 : ∀ w ∈ wsX40, w ∈ wsX4_isThree := by decide +kernel
  have hiX3 : ∀ w ∈ wsX30, w ∈ wsX4_isThree := by decide +kernel
  have hiX0 : ∀ w ∈ wsX00, w ∈ wsX4_isThree := by decide +kernel
  rw [show entryFrame m args 3 = entryFrame m ([.ref t, .int a1, .int a2] : List Value).toArray 3 from by rw [hargs]]
  have hl := lv_entry ([.ref t, .int a1, .int a2]) (n := 3) (Nat.le_of_ble_eq_true rfl)
  rw [lg_entry_eq]
  generalize (lg_sl ([.ref t, .int a1, .int a2]) ++ List.replicate (3 - (lg_sl ([.ref t, .int a1, .int a2])).length) Slot.unset).toArray = ls at hl ⊢
  have hl : lv_has ls 3 [(0, va_rf (some t)), (1, .int a1), (2, .int a2)] := hl
  unfold fX4_isThree at hf
  refine lv_iload_n hx hb dX4_isThree_0 rfl (lv_at hl 2 rfl) ?_
  refine lv_iload_n hx hb dX4_isThree_1 rfl (lv_at hl 1 rfl) ?_
  refine lv_icmp_lt (tgt := 23) hx hb dX4_isThree_2 (by decide) (fun c => ?_) (fun c => ?_)
  · rw [if_pos c] at hf
    refine lv_iconst (v := (0 : Int32)) hx hb dX4_isThree_23 (by decide) ?_
    exact hm_zret_e hf hx hb hr hlocks hK hI (Nat.le_of_ble_eq_true rfl) (Nat.le_of_ble_eq_true rfl) rfl dX4_isThree_24
  · rw [if_neg c] at hf
    refine lv_iload_n hx hb dX4_isThree_5 rfl (lv_at hl 2 rfl) ?_
    refine lv_iconst (v := (2 : Int32)) hx hb dX4_isThree_6 (by decide) ?_
    refine lv_iadd hx hb dX4_isThree_7 ?_
    refine lv_iload_n hx hb dX4_isThree_8 rfl (lv_at hl 1 rfl) ?_
    refine hm_aload_n hx hb dX4_isThree_9 rfl (lv_at hl 0 rfl) ?_
    obtain ⟨v1, ev1, hf⟩ := hm_b_s hf
    refine hm_get (ci := 4) (k := 0) (C := RX4) (T := TX4) (N := 3) hx hb hts hiX4 hown hK hI rfl (by decide) w1 (hm_gq_s ev1) dX4_isThree_10 ?_
    obtain ⟨v2, ev2, hf⟩ := hm_b_s hf
    refine hm_get (ci := 3) (k := 2) (C := RX3) (T := TX3) (N := 5) hx hb hts hiX3 hown hK hI rfl (by decide) w2 (hm_gq_s ev2) dX4_isThree_13 ?_
    obtain ⟨v3, ev3, hf⟩ := hm_b_s hf
    refine hm_get (ci := 0) (k := 2) (C := RX0) (T := TX0) (N := 4) hx hb hts hiX0 hown hK hI rfl (by decide) w3 (hm_gi_s ev3) dX4_isThree_16 ?_
    refine lv_iadd hx hb dX4_isThree_19 ?_
    refine lv_icmp_lt (tgt := 25) hx hb dX4_isThree_20 (by decide) (fun c => ?_) (fun c => ?_)
    · rw [if_pos c] at hf
      refine hm_aload_n hx hb dX4_isThree_25 rfl (lv_at hl 0 rfl) ?_
      obtain ⟨v4, ev4, hf⟩ := hm_b_s hf
      refine hm_get (ci := 4) (k := 0) (C := RX4) (T := TX4) (N := 3) hx hb hts hiX4 hown hK hI rfl (by decide) w1 (hm_gq_s ev4) dX4_isThree_26 ?_
      obtain ⟨v5, ev5, hf⟩ := hm_b_s hf
      refine hm_get (ci := 3) (k := 3) (C := RX3) (T := TX3) (N := 5) hx hb hts hiX3 hown hK hI rfl (by decide) w4 (hm_gq_s ev5) dX4_isThree_29 ?_
      refine lv_iload_n hx hb dX4_isThree_32 rfl (lv_at hl 2 rfl) ?_
      obtain ⟨v6, ev6, hf⟩ := hm_b_s hf
      refine hm_iald (kd := 0) (t0 := 0) hx hb hK hI rfl ev6 dX4_isThree_33 ?_
      refine hm_aload_n hx hb dX4_isThree_34 rfl (lv_at hl 0 rfl) ?_
      obtain ⟨v7, ev7, hf⟩ := hm_b_s hf
      refine hm_get (ci := 4) (k := 0) (C := RX4) (T := TX4) (N := 3) hx hb hts hiX4 hown hK hI rfl (by decide) w1 (hm_gq_s ev7) dX4_isThree_35 ?_
      obtain ⟨v8, ev8, hf⟩ := hm_b_s hf
      refine hm_get (ci := 3) (k := 3) (C := RX3) (T := TX3) (N := 5) hx hb hts hiX3 hown hK hI rfl (by decide) w4 (hm_gq_s ev8) dX4_isThree_38 ?_
      refine lv_iload_n hx hb dX4_isThree_41 rfl (lv_at hl 2 rfl) ?_
      refine lv_iconst (v := (1 : Int32)) hx hb dX4_isThree_42 (by decide) ?_
      refine lv_iadd hx hb dX4_isThree_43 ?_
      obtain ⟨v9, ev9, hf⟩ := hm_b_s hf
      refine hm_iald (kd := 0) (t0 := 0) hx hb hK hI rfl ev9 dX4_isThree_44 ?_
      refine lv_icmp_ne (tgt := 75) hx hb dX4_isThree_45 (by decide) (fun c => ?_) (fun c => ?_)
      · rw [if_neg c] at hf
        refine lv_iconst (v := (0 : Int32)) hx hb dX4_isThree_75 (by decide) ?_
        exact hm_zret_e hf hx hb hr hlocks hK hI (Nat.le_of_ble_eq_true rfl) (Nat.le_of_ble_eq_true rfl) rfl dX4_isThree_76
      · rw [if_pos c] at hf
        refine hm_aload_n hx hb dX4_isThree_48 rfl (lv_at hl 0 rfl) ?_
        obtain ⟨v10, ev10, hf⟩ := hm_b_s hf
        refine hm_get (ci := 4) (k := 0) (C := RX4) (T := TX4) (N := 3) hx hb hts hiX4 hown hK hI rfl (by decide) w1 (hm_gq_s ev10) dX4_isThree_49 ?_
        obtain ⟨v11, ev11, hf⟩ := hm_b_s hf
        refine hm_get (ci := 3) (k := 3) (C := RX3) (T := TX3) (N := 5) hx hb hts hiX3 hown hK hI rfl (by decide) w4 (hm_gq_s ev11) dX4_isThree_52 ?_
        refine lv_iload_n hx hb dX4_isThree_55 rfl (lv_at hl 2 rfl) ?_
        obtain ⟨v12, ev12, hf⟩ := hm_b_s hf
        refine hm_iald (kd := 0) (t0 := 0) hx hb hK hI rfl ev12 dX4_isThree_56 ?_
        refine hm_aload_n hx hb dX4_isThree_57 rfl (lv_at hl 0 rfl) ?_
        obtain ⟨v13, ev13, hf⟩ := hm_b_s hf
        refine hm_get (ci := 4) (k := 0) (C := RX4) (T := TX4) (N := 3) hx hb hts hiX4 hown hK hI rfl (by decide) w1 (hm_gq_s ev13) dX4_isThree_58 ?_
        obtain ⟨v14, ev14, hf⟩ := hm_b_s hf
        refine hm_get (ci := 3) (k := 3) (C := RX3) (T := TX3) (N := 5) hx hb hts hiX3 hown hK hI rfl (by decide) w4 (hm_gq_s ev14) dX4_isThree_61 ?_
        refine lv_iload_n hx hb dX4_isThree_64 rfl (lv_at hl 2 rfl) ?_
        refine lv_iconst (v := (2 : Int32)) hx hb dX4_isThree_65 (by decide) ?_
        refine lv_iadd hx hb dX4_isThree_66 ?_
        obtain ⟨v15, ev15, hf⟩ := hm_b_s hf
        refine hm_iald (kd := 0) (t0 := 0) hx hb hK hI rfl ev15 dX4_isThree_67 ?_
        refine lv_icmp_ne (tgt := 75) hx hb dX4_isThree_68 (by decide) (fun c => ?_) (fun c => ?_)
        · rw [if_neg c] at hf
          refine lv_iconst (v := (0 : Int32)) hx hb dX4_isThree_75 (by decide) ?_
          exact hm_zret_e hf hx hb hr hlocks hK hI (Nat.le_of_ble_eq_true rfl) (Nat.le_of_ble_eq_true rfl) rfl dX4_isThree_76
        · rw [if_pos c] at hf
          refine lv_iconst (v := (1 : Int32)) hx hb dX4_isThree_71 (by decide) ?_
          refine lv_goto (tgt := 76) hx hb dX4_isThree_72 (by decide) ?_
          exact hm_zret_e hf hx hb hr hlocks hK hI (Nat.le_of_ble_eq_true rfl) (Nat.le_of_ble_eq_true rfl) rfl dX4_isThree_76
    · rw [if_neg c] at hf
      refine lv_iconst (v := (0 : Int32)) hx hb dX4_isThree_23 (by decide) ?_
      exact hm_zret_e hf hx hb hr hlocks hK hI (Nat.le_of_ble_eq_true rfl) (Nat.le_of_ble_eq_true rfl) rfl dX4_isThree_24
/-! ==== X4_kindAt: BlitBoard$Teller.kindAt(II)I ==== -/
def fX4_kindAt_54 (s0 : Int32) (h : hm_H) : Option (Int32 × hm_H) :=
  if s0 = 0 then
    some ((64 : Int32), h)
  else
    some ((128 : Int32), h)
def fX4_kindAt_49 (h : hm_H) : Option (Int32 × hm_H) :=
  fX4_kindAt_54 (1 : Int32) h
def fX4_kindAt (t : Nat) (a1 : Int32) (a2 : Int32) (h0 : hm_H) : Option (Int32 × hm_H) :=
  hm_b (hm_gq 4 0 h0 (some t)) fun v1 =>
  hm_b (hm_gq 3 3 h0 v1) fun v2 =>
  hm_b (hm_ai 0 h0 v2 a2) fun v3 =>
  hm_b (hm_gi 4 1 h0 (some t)) fun v4 =>
  if v3 = v4 then
    some ((0 : Int32), h0)
  else
    hm_b (hm_rc 4 h0 (some t)) fun b6 =>
    hm_b2 (fX4_isThree b6 a1 (a2 - (2 : Int32)) h0) fun v7 h5 =>
    if v7 = 0 then
      hm_b (hm_rc 4 h5 (some t)) fun b9 =>
      hm_b2 (fX4_isThree b9 a1 (a2 - (1 : Int32)) h5) fun v10 h8 =>
      if v10 = 0 then
        hm_b (hm_rc 4 h8 (some t)) fun b12 =>
        hm_b2 (fX4_isThree b12 a1 a2 h8) fun v13 h11 =>
        if v13 = 0 then
          fX4_kindAt_54 (0 : Int32) h11
        else
          fX4_kindAt_49  h11
      else
        fX4_kindAt_49  h8
    else
      fX4_kindAt_49  h5
set_option maxRecDepth 100000 in
set_option maxHeartbeats 8000000 in
theorem kX4_kindAt (l : Launch) (D : va_G) (kA : Nat → ClassId) (t : Nat) (a1 : Int32) (a2 : Int32) (h0 h' : hm_H) (r : Int32) (hf : fX4_kindAt t a1 a2 h0 = some (r, h')) : hm_C l yX4_kindAt wsX4_kindAt { frames := 1, cells := 0, slots := 0, locals := 22 } D vwCl kA (hm_ty kA) [.ref t, .int a1, .int a2] h0 (some (.int r)) h' 0 0 := by
  refine Met.ofW (cc := cX4_kindAt) (maxL := 4) (ret := (some .int)) (by decide) rfl ?_
  intro p e s m args below meth c s₁ B hml hv
  obtain ⟨hargs, hB⟩ := hv
  have hx := B.exec
  have hb := B.bytes
  have hr := B.returns
  have hts := atoms_spec (ws := wsX4_kindAt) B.pre
  have hown : s.vm.findClass RX4 = some m.cls := findClass_of_methodNamed B.named
  have hlocks := B.notSynchronized
  have hK := hB.2
  have hI := hm_start hB
  have w1 := hts (.fieldLink RX4 9 "BlitBoard$Teller" "of" "LBlitBoard$Surface;") (by decide +kernel)
  have w2 := hts (.fieldLink RX4 55 "BlitBoard$Surface" "dots" "[I") (by decide +kernel)
  have w3 := hts (.fieldLink RX4 15 "BlitBoard$Teller" "key" "I") (by decide +kernel)
  have hiX4 : ∀ w ∈ wsX40, w ∈ wsX4_kindAt := by decide +kernel
  have hiX3 : ∀ w ∈ wsX30, w ∈ wsX4_kindAt := by decide +kernel
  have B54 : ∀ (s0 : Int32) (h : hm_H), fX4_kindAt_54 s0 h = some (r, h') → ∀ (H : Heap) (locs : List Loc) (ls : Array Slot), hm_I D vwCl kA (hm_A h0) s.heap h H locs → lv_has ls 4 [] → W p l e (headSpec wsX4_kindAt { frames := 1, cells := 0, slots := 0, locals := 22 }).room s m args below meth c H locs 0 0 (MQ below (hm_Q D vwCl kA (hm_ty kA) h0 (some (.int r)) h') args s 0 0 (hm_A h0)) (F0 m 54 ls [.int s0]) := by
    intro s0 h hf H locs ls hI hl
    unfold fX4_kindAt_54 at hf
    refine lv_istore_n (lv' := [(3, .int s0)]) hx hb dX4_kindAt_54 rfl hl (by decide) rfl (fun ls hl => ?_)
    refine lv_iload_n hx hb dX4_kindAt_55 rfl (lv_at hl 0 rfl) ?_
    refine lv_if_eq (tgt := 65) hx hb dX4_kindAt_56 (by decide) (fun c => ?_) (fun c => ?_)
    · rw [if_pos c] at hf
      refine lv_bipush (v := (64 : Int32)) hx hb dX4_kindAt_65 (by decide) ?_
      exact hm_iret_e hf hx hb hr hlocks hK hI (Nat.le_of_ble_eq_true rfl) (Nat.le_of_ble_eq_true rfl) dX4_kindAt_67
    · rw [if_neg c] at hf
      refine lv_sipush (v := (128 : Int32)) hx hb dX4_kindAt_59 (by decide) ?_
      refine lv_goto (tgt := 67) hx hb dX4_kindAt_62 (by decide) ?_
      exact hm_iret_e hf hx hb hr hlocks hK hI (Nat.le_of_ble_eq_true rfl) (Nat.le_of_ble_eq_true rfl) dX4_kindAt_67
  have B49 : ∀ (h : hm_H), fX4_kindAt_49 h = some (r, h') → ∀ (H : Heap) (locs : List Loc) (ls : Array Slot), hm_I D vwCl kA (hm_A h0) s.heap h H locs → lv_has ls 4 [] → W p l e (headSpec wsX4_kindAt { frames := 1, cells := 0, slots := 0, locals := 22 }).room s m args below meth c H locs 0 0 (MQ below (hm_Q D vwCl kA (hm_ty kA) h0 (some (.int r)) h') args s 0 0 (hm_A h0)) (F0 m 49 ls []) := by
    intro h hf H locs ls hI hl
    unfold fX4_kindAt_49 at hf
    refine lv_iconst (v := (1 : Int32)) hx hb dX4_kindAt_49 (by decide) ?_
    refine lv_goto (tgt := 54) hx hb dX4_kindAt_50 (by decide) ?_
    exact B54 (1 : Int32) h hf _ _ _ hI (lv_sub hl [] rfl)
  rw [show entryFrame m args 4 = entryFrame m ([.ref t, .int a1, .int a2] : List Value).toArray 4 from by rw [hargs]]
  have hl := lv_entry ([.ref t, .int a1, .int a2]) (n := 4) (Nat.le_of_ble_eq_true rfl)
  rw [lg_entry_eq]
  generalize (lg_sl ([.ref t, .int a1, .int a2]) ++ List.replicate (4 - (lg_sl ([.ref t, .int a1, .int a2])).length) Slot.unset).toArray = ls at hl ⊢
  have hl : lv_has ls 4 [(0, va_rf (some t)), (1, .int a1), (2, .int a2)] := hl
  unfold fX4_kindAt at hf
  refine hm_aload_n hx hb dX4_kindAt_0 rfl (lv_at hl 0 rfl) ?_
  obtain ⟨v1, ev1, hf⟩ := hm_b_s hf
  refine hm_get (ci := 4) (k := 0) (C := RX4) (T := TX4) (N := 3) hx hb hts hiX4 hown hK hI rfl (by decide) w1 (hm_gq_s ev1) dX4_kindAt_1 ?_
  obtain ⟨v2, ev2, hf⟩ := hm_b_s hf
  refine hm_get (ci := 3) (k := 3) (C := RX3) (T := TX3) (N := 5) hx hb hts hiX3 hown hK hI rfl (by decide) w2 (hm_gq_s ev2) dX4_kindAt_4 ?_
  refine lv_iload_n hx hb dX4_kindAt_7 rfl (lv_at hl 2 rfl) ?_
  obtain ⟨v3, ev3, hf⟩ := hm_b_s hf
  refine hm_iald (kd := 0) (t0 := 0) hx hb hK hI rfl ev3 dX4_kindAt_8 ?_
  refine hm_aload_n hx hb dX4_kindAt_9 rfl (lv_at hl 0 rfl) ?_
  obtain ⟨v4, ev4, hf⟩ := hm_b_s hf
  refine hm_get (ci := 4) (k := 1) (C := RX4) (T := TX4) (N := 3) hx hb hts hiX4 hown hK hI rfl (by decide) w3 (hm_gi_s ev4) dX4_kindAt_10 ?_
  refine lv_icmp_ne (tgt := 18) hx hb dX4_kindAt_13 (by decide) (fun c => ?_) (fun c => ?_)
  · rw [if_neg c] at hf
    refine hm_aload_n hx hb dX4_kindAt_18 rfl (lv_at hl 0 rfl) ?_
    refine lv_iload_n hx hb dX4_kindAt_19 rfl (lv_at hl 1 rfl) ?_
    refine lv_iload_n hx hb dX4_kindAt_20 rfl (lv_at hl 2 rfl) ?_
    refine lv_iconst (v := (2 : Int32)) hx hb dX4_kindAt_21 (by decide) ?_
    refine lv_isub hx hb dX4_kindAt_22 ?_
    obtain ⟨b6, eb6, hf⟩ := hm_b_s hf
    obtain ⟨v7, h5, eh5, hf⟩ := hm_b2_s hf
    refine hm_cV (As := [.int a1, .int (a2 - (2 : Int32))]) (rest := []) ⟨hx, hb, hml, hown, hts⟩ hK hI eb6 rfl rfl (kX4_isThree l D kA b6 a1 (a2 - (2 : Int32)) h0 h5 v7 eh5) (cwV 2 hts gX4_kindAt_X4_isThree rfl rfl rfl (by decide +kernel) ⟨Nat.le_of_ble_eq_true rfl, Nat.le_of_ble_eq_true rfl⟩) rfl hl.1 rfl (by first | exact Nat.le_of_ble_eq_true rfl | (simp only [List.map, hm_rf_cat, hm_ci, hm_cl, List.sum_cons, List.sum_nil] <;> decide)) dX4_kindAt_23 ⟨Nat.le_of_ble_eq_true rfl, Nat.le_of_ble_eq_true rfl⟩ (fun H locs hI => ?_)
    refine lv_if_ne (tgt := 49) hx hb dX4_kindAt_26 (by decide) (fun c => ?_) (fun c => ?_)
    · rw [if_neg c] at hf
      exact B49  h5 hf _ _ _ hI (lv_sub hl [] rfl)
    · rw [if_pos c] at hf
      refine hm_aload_n hx hb dX4_kindAt_29 rfl (lv_at hl 0 rfl) ?_
      refine lv_iload_n hx hb dX4_kindAt_30 rfl (lv_at hl 1 rfl) ?_
      refine lv_iload_n hx hb dX4_kindAt_31 rfl (lv_at hl 2 rfl) ?_
      refine lv_iconst (v := (1 : Int32)) hx hb dX4_kindAt_32 (by decide) ?_
      refine lv_isub hx hb dX4_kindAt_33 ?_
      obtain ⟨b9, eb9, hf⟩ := hm_b_s hf
      obtain ⟨v10, h8, eh8, hf⟩ := hm_b2_s hf
      refine hm_cV (As := [.int a1, .int (a2 - (1 : Int32))]) (rest := []) ⟨hx, hb, hml, hown, hts⟩ hK hI eb9 rfl rfl (kX4_isThree l D kA b9 a1 (a2 - (1 : Int32)) h5 h8 v10 eh8) (cwV 2 hts gX4_kindAt_X4_isThree rfl rfl rfl (by decide +kernel) ⟨Nat.le_of_ble_eq_true rfl, Nat.le_of_ble_eq_true rfl⟩) rfl hl.1 rfl (by first | exact Nat.le_of_ble_eq_true rfl | (simp only [List.map, hm_rf_cat, hm_ci, hm_cl, List.sum_cons, List.sum_nil] <;> decide)) dX4_kindAt_34 ⟨Nat.le_of_ble_eq_true rfl, Nat.le_of_ble_eq_true rfl⟩ (fun H locs hI => ?_)
      refine lv_if_ne (tgt := 49) hx hb dX4_kindAt_37 (by decide) (fun c => ?_) (fun c => ?_)
      · rw [if_neg c] at hf
        exact B49  h8 hf _ _ _ hI (lv_sub hl [] rfl)
      · rw [if_pos c] at hf
        refine hm_aload_n hx hb dX4_kindAt_40 rfl (lv_at hl 0 rfl) ?_
        refine lv_iload_n hx hb dX4_kindAt_41 rfl (lv_at hl 1 rfl) ?_
        refine lv_iload_n hx hb dX4_kindAt_42 rfl (lv_at hl 2 rfl) ?_
        obtain ⟨b12, eb12, hf⟩ := hm_b_s hf
        obtain ⟨v13, h11, eh11, hf⟩ := hm_b2_s hf
        refine hm_cV (As := [.int a1, .int a2]) (rest := []) ⟨hx, hb, hml, hown, hts⟩ hK hI eb12 rfl rfl (kX4_isThree l D kA b12 a1 a2 h8 h11 v13 eh11) (cwV 2 hts gX4_kindAt_X4_isThree rfl rfl rfl (by decide +kernel) ⟨Nat.le_of_ble_eq_true rfl, Nat.le_of_ble_eq_true rfl⟩) rfl hl.1 rfl (by first | exact Nat.le_of_ble_eq_true rfl | (simp only [List.map, hm_rf_cat, hm_ci, hm_cl, List.sum_cons, List.sum_nil] <;> decide)) dX4_kindAt_43 ⟨Nat.le_of_ble_eq_true rfl, Nat.le_of_ble_eq_true rfl⟩ (fun H locs hI => ?_)
        refine lv_if_eq (tgt := 53) hx hb dX4_kindAt_46 (by decide) (fun c => ?_) (fun c => ?_)
        · rw [if_pos c] at hf
          refine lv_iconst (v := (0 : Int32)) hx hb dX4_kindAt_53 (by decide) ?_
          exact B54 (0 : Int32) h11 hf _ _ _ hI (lv_sub hl [] rfl)
        · rw [if_neg c] at hf
          exact B49  h11 hf _ _ _ hI (lv_sub hl [] rfl)
  · rw [if_pos c] at hf
    refine lv_iconst (v := (0 : Int32)) hx hb dX4_kindAt_16 (by decide) ?_
    exact hm_iret_e hf hx hb hr hlocks hK hI (Nat.le_of_ble_eq_true rfl) (Nat.le_of_ble_eq_true rfl) dX4_kindAt_17
/-! ==== X4_addStretch: BlitBoard$Teller.addStretch(III)V ==== -/
def fX4_addStretch_52 (K3 : Option Nat → Int32 → Int32 → Int32 → hm_H → Option hm_H) (K52 : Option Nat → Int32 → Int32 → Int32 → Int32 → Int32 → hm_H → Option hm_H) (x0 : Option Nat) (x1 : Int32) (x3 : Int32) (x4 : Int32) (x6 : Int32) (x7 : Int32) (h : hm_H) : Option hm_H :=
  if x6 ≤ x7 then
    K3 x0 x1 x3 (x4 + (63 : Int32)) h
  else
    hm_b (hm_gq 4 2 h x0) fun v5 =>
    hm_b (hm_gq 4 0 h x0) fun v6 =>
    hm_b (hm_gq 3 3 h v6) fun v7 =>
    hm_b (hm_ai 0 h v7 (x4 + x7)) fun v8 =>
    hm_b (hm_rc 2 h v5) fun b10 =>
    hm_b (fX2_append b10 v8 h) fun h9 =>
    K52 x0 x1 x3 x4 x6 (x7 + (1 : Int32)) h9
def fX4_addStretch_47 (K3 : Option Nat → Int32 → Int32 → Int32 → hm_H → Option hm_H) (x0 : Option Nat) (x1 : Int32) (x3 : Int32) (x4 : Int32) (s0 : Int32) (h : hm_H) : Option hm_H :=
  hm_loop (fun _ _ _ _ _ _ _ => none) (fX4_addStretch_52 K3) hm_fu x0 x1 x3 x4 s0 (0 : Int32) h
def fX4_addStretch_3 (K3 : Option Nat → Int32 → Int32 → Int32 → hm_H → Option hm_H) (x0 : Option Nat) (x1 : Int32) (x3 : Int32) (x4 : Int32) (h : hm_H) : Option hm_H :=
  if x3 ≤ x4 then
    some h
  else
    hm_let (if (x3 - x4) < (63 : Int32) then (x3 - x4) else (63 : Int32)) fun v1 =>
    hm_b (hm_gq 4 2 h x0) fun v2 =>
    hm_b (hm_rc 2 h v2) fun b4 =>
    hm_b (fX2_append b4 (x1 + v1) h) fun h3 =>
    if x1 = (64 : Int32) then
      fX4_addStretch_47 K3 x0 x1 x3 x4 v1 h3
    else
      fX4_addStretch_47 K3 x0 x1 x3 x4 (if (1 : Int32) < x1 then (1 : Int32) else x1) h3
def fX4_addStretch (t : Nat) (a1 : Int32) (a2 : Int32) (a3 : Int32) (h0 : hm_H) : Option hm_H :=
  hm_loop (fun _ _ _ _ _ => none) (fX4_addStretch_3) hm_fu (some t) a1 a3 a2 h0
set_option maxRecDepth 100000 in
set_option maxHeartbeats 8000000 in
theorem kX4_addStretch (l : Launch) (D : va_G) (kA : Nat → ClassId) (t : Nat) (a1 : Int32) (a2 : Int32) (a3 : Int32) (h0 h' : hm_H) (hf : fX4_addStretch t a1 a2 a3 h0 = some h') : hm_C l yX4_addStretch wsX4_addStretch { frames := 1, cells := 0, slots := 0, locals := 30 } D vwCl kA (hm_ty kA) [.ref t, .int a1, .int a2, .int a3] h0 none h' 0 0 := by
  refine Met.ofW (cc := cX4_addStretch) (maxL := 8) (ret := none) (by decide) rfl ?_
  intro p e s m args below meth c s₁ B hml hv
  obtain ⟨hargs, hB⟩ := hv
  have hx := B.exec
  have hb := B.bytes
  have hr := B.returns
  have hts := atoms_spec (ws := wsX4_addStretch) B.pre
  have hown : s.vm.findClass RX4 = some m.cls := findClass_of_methodNamed B.named
  have hlocks := B.notSynchronized
  have hK := hB.2
  have hI := hm_start hB
  have w1 := hts (.methodLink RX4 70 Lib.Math.min.name) (by decide +kernel)
  have w2 := hts (.static Lib.Math.min.name) (by decide +kernel)
  have w3 := hts (.initialized "java/lang/Math") (by decide +kernel)
  have w4 := hts (.code Lib.Math.min.name Lib.Math.min.code 2 (some .int)) (by decide +kernel)
  have w5 := hts (.fieldLink RX4 19 "BlitBoard$Teller" "into" "LBlitBoard$Sprite;") (by decide +kernel)
  have w6 := hts (.fieldLink RX4 9 "BlitBoard$Teller" "of" "LBlitBoard$Surface;") (by decide +kernel)
  have w7 := hts (.fieldLink RX4 55 "BlitBoard$Surface" "dots" "[I") (by decide +kernel)
  have hiX4 : ∀ w ∈ wsX40, w ∈ wsX4_addStretch := by decide +kernel
  have hiX3 : ∀ w ∈ wsX30, w ∈ wsX4_addStretch := by decide +kernel
  have B3 : ∀ (fu : Nat) (x0 : Option Nat) (x1 : Int32) (x3 : Int32) (x4 : Int32) (h : hm_H), hm_loop (fun _ _ _ _ _ => none) (fX4_addStretch_3) fu x0 x1 x3 x4 h = some h' → ∀ (H : Heap) (locs : List Loc) (ls : Array Slot), hm_I D vwCl kA (hm_A h0) s.heap h H locs → lv_has ls 8 [(0, va_rf x0), (1, .int x1), (3, .int x3), (4, .int x4)] → W p l e (headSpec wsX4_addStretch { frames := 1, cells := 0, slots := 0, locals := 30 }).room s m args below meth c H locs 0 0 (MQ below (hm_Q D vwCl kA (hm_ty kA) h0 none h') args s 0 0 (hm_A h0)) (F0 m 3 ls []) := by
    intro fu
    induction fu with
    | zero => intro x0 x1 x3 x4 h hf; cases hf
    | succ fu ih3 =>
      rw [hm_loop_s]
      generalize hm_loop (fun _ _ _ _ _ => none) (fX4_addStretch_3) fu = K3 at ih3 ⊢
      have B52 : ∀ (fu : Nat) (x0 : Option Nat) (x1 : Int32) (x3 : Int32) (x4 : Int32) (x6 : Int32) (x7 : Int32) (h : hm_H), hm_loop (fun _ _ _ _ _ _ _ => none) (fX4_addStretch_52 K3) fu x0 x1 x3 x4 x6 x7 h = some h' → ∀ (H : Heap) (locs : List Loc) (ls : Array Slot), hm_I D vwCl kA (hm_A h0) s.heap h H locs → lv_has ls 8 [(0, va_rf x0), (1, .int x1), (3, .int x3), (4, .int x4), (6, .int x6), (7, .int x7)] → W p l e (headSpec wsX4_addStretch { frames := 1, cells := 0, slots := 0, locals := 30 }).room s m args below meth c H locs 0 0 (MQ below (hm_Q D vwCl kA (hm_ty kA) h0 none h') args s 0 0 (hm_A h0)) (F0 m 52 ls []) := by
        intro fu
        induction fu with
        | zero => intro x0 x1 x3 x4 x6 x7 h hf; cases hf
        | succ fu ih52 =>
          rw [hm_loop_s]
          generalize hm_loop (fun _ _ _ _ _ _ _ => none) (fX4_addStretch_52 K3) fu = K52 at ih52 ⊢
          intro x0 x1 x3 x4 x6 x7 h hf H locs ls hI hl
          unfold fX4_addStretch_52 at hf
          refine lv_iload hx hb dX4_addStretch_52 (lv_at hl 5 rfl) ?_
          refine lv_iload hx hb dX4_addStretch_54 (lv_at hl 4 rfl) ?_
          refine lv_icmp_ge (tgt := 85) hx hb dX4_addStretch_56 (by decide) (fun c => ?_) (fun c => ?_)
          · rw [if_pos c] at hf
            refine lv_iinc (v := x4 + (63 : Int32)) (lv' := [(4, .int (x4 + (63 : Int32))), (0, va_rf x0), (1, .int x1), (3, .int x3), (6, .int x6), (7, .int x7)]) hx hb dX4_addStretch_85 hl (k := 3) rfl rfl (by decide) rfl (fun ls hl => ?_)
            refine lv_goto (tgt := 3) hx hb dX4_addStretch_88 (by decide) ?_
            exact ih3 x0 x1 x3 (x4 + (63 : Int32)) h hf _ _ _ hI (lv_sub hl [1, 2, 3, 0] rfl)
          · rw [if_neg c] at hf
            refine hm_aload_n hx hb dX4_addStretch_59 rfl (lv_at hl 0 rfl) ?_
            obtain ⟨v5, ev5, hf⟩ := hm_b_s hf
            refine hm_get (ci := 4) (k := 2) (C := RX4) (T := TX4) (N := 3) hx hb hts hiX4 hown hK hI rfl (by decide) w5 (hm_gq_s ev5) dX4_addStretch_60 ?_
            refine hm_aload_n hx hb dX4_addStretch_63 rfl (lv_at hl 0 rfl) ?_
            obtain ⟨v6, ev6, hf⟩ := hm_b_s hf
            refine hm_get (ci := 4) (k := 0) (C := RX4) (T := TX4) (N := 3) hx hb hts hiX4 hown hK hI rfl (by decide) w6 (hm_gq_s ev6) dX4_addStretch_64 ?_
            obtain ⟨v7, ev7, hf⟩ := hm_b_s hf
            refine hm_get (ci := 3) (k := 3) (C := RX3) (T := TX3) (N := 5) hx hb hts hiX3 hown hK hI rfl (by decide) w7 (hm_gq_s ev7) dX4_addStretch_67 ?_
            refine lv_iload hx hb dX4_addStretch_70 (lv_at hl 3 rfl) ?_
            refine lv_iload hx hb dX4_addStretch_72 (lv_at hl 5 rfl) ?_
            refine lv_iadd hx hb dX4_addStretch_74 ?_
            obtain ⟨v8, ev8, hf⟩ := hm_b_s hf
            refine hm_iald (kd := 0) (t0 := 0) hx hb hK hI rfl ev8 dX4_addStretch_75 ?_
            obtain ⟨b10, eb10, hf⟩ := hm_b_s hf
            obtain ⟨h9, eh9, hf⟩ := hm_b_s hf
            refine hm_cV (As := [.int v8]) (rest := []) ⟨hx, hb, hml, hown, hts⟩ hK hI eb10 rfl rfl (kX2_append l D kA b10 v8 h h9 eh9) (cwV 1 hts gX4_addStretch_X2_append rfl rfl rfl (by decide +kernel) ⟨Nat.le_of_ble_eq_true rfl, Nat.le_of_ble_eq_true rfl⟩) rfl hl.1 rfl (by first | exact Nat.le_of_ble_eq_true rfl | (simp only [List.map, hm_rf_cat, hm_ci, hm_cl, List.sum_cons, List.sum_nil] <;> decide)) dX4_addStretch_76 ⟨Nat.le_of_ble_eq_true rfl, Nat.le_of_ble_eq_true rfl⟩ (fun H locs hI => ?_)
            refine W.eq (g2 := F0 m 79 ls []) rfl ?_
            refine lv_iinc (v := x7 + (1 : Int32)) (lv' := [(7, .int (x7 + (1 : Int32))), (0, va_rf x0), (1, .int x1), (3, .int x3), (4, .int x4), (6, .int x6)]) hx hb dX4_addStretch_79 hl (k := 5) rfl rfl (by decide) rfl (fun ls hl => ?_)
            refine lv_goto (tgt := 52) hx hb dX4_addStretch_82 (by decide) ?_
            exact ih52 x0 x1 x3 x4 x6 (x7 + (1 : Int32)) h9 hf _ _ _ hI (lv_sub hl [1, 2, 3, 4, 5, 0] rfl)
      have B47 : ∀ (x0 : Option Nat) (x1 : Int32) (x3 : Int32) (x4 : Int32) (s0 : Int32) (h : hm_H), fX4_addStretch_47 K3 x0 x1 x3 x4 s0 h = some h' → ∀ (H : Heap) (locs : List Loc) (ls : Array Slot), hm_I D vwCl kA (hm_A h0) s.heap h H locs → lv_has ls 8 [(0, va_rf x0), (1, .int x1), (3, .int x3), (4, .int x4)] → W p l e (headSpec wsX4_addStretch { frames := 1, cells := 0, slots := 0, locals := 30 }).room s m args below meth c H locs 0 0 (MQ below (hm_Q D vwCl kA (hm_ty kA) h0 none h') args s 0 0 (hm_A h0)) (F0 m 47 ls [.int s0]) := by
        intro x0 x1 x3 x4 s0 h hf H locs ls hI hl
        unfold fX4_addStretch_47 at hf
        refine lv_istore (lv' := [(6, .int s0), (0, va_rf x0), (1, .int x1), (3, .int x3), (4, .int x4)]) hx hb dX4_addStretch_47 hl (by decide) rfl (fun ls hl => ?_)
        refine lv_iconst (v := (0 : Int32)) hx hb dX4_addStretch_49 (by decide) ?_
        refine lv_istore (lv' := [(7, .int (0 : Int32)), (6, .int s0), (0, va_rf x0), (1, .int x1), (3, .int x3), (4, .int x4)]) hx hb dX4_addStretch_50 hl (by decide) rfl (fun ls hl => ?_)
        exact B52 hm_fu x0 x1 x3 x4 s0 (0 : Int32) h hf _ _ _ hI (lv_sub hl [2, 3, 4, 5, 1, 0] rfl)
      intro x0 x1 x3 x4 h hf H locs ls hI hl
      unfold fX4_addStretch_3 at hf
      refine lv_iload hx hb dX4_addStretch_3 (lv_at hl 3 rfl) ?_
      refine lv_iload_n hx hb dX4_addStretch_5 rfl (lv_at hl 2 rfl) ?_
      refine lv_icmp_ge (tgt := 91) hx hb dX4_addStretch_6 (by decide) (fun c => ?_) (fun c => ?_)
      · rw [if_pos c] at hf
        exact hm_vret_e hf hx hb hr hlocks hK hI (Nat.le_of_ble_eq_true rfl) (Nat.le_of_ble_eq_true rfl) dX4_addStretch_91
      · rw [if_neg c] at hf
        refine lv_bipush (v := (63 : Int32)) hx hb dX4_addStretch_9 (by decide) ?_
        refine lv_iload_n hx hb dX4_addStretch_11 rfl (lv_at hl 2 rfl) ?_
        refine lv_iload hx hb dX4_addStretch_12 (lv_at hl 3 rfl) ?_
        refine lv_isub hx hb dX4_addStretch_14 ?_
        refine va_mmin hx hb (hml.trans hl.1.symm) hown w1 w2 w3 w4 (Nat.le_of_ble_eq_true rfl) (by first | exact Nat.le_of_ble_eq_true rfl | (simp only [List.map, hm_rf_cat, hm_ci, hm_cl, List.sum_cons, List.sum_nil] <;> exact Nat.le_of_ble_eq_true rfl)) (Nat.le_of_ble_eq_true rfl) (Nat.le_of_ble_eq_true rfl) dX4_addStretch_15 ?_
        obtain ⟨v1, ev1, hf⟩ := hm_let_s hf
        refine hm_ti ev1 ?_
        refine lv_istore (lv' := [(5, .int v1), (0, va_rf x0), (1, .int x1), (3, .int x3), (4, .int x4)]) hx hb dX4_addStretch_18 hl (by decide) rfl (fun ls hl => ?_)
        refine hm_aload_n hx hb dX4_addStretch_20 rfl (lv_at hl 1 rfl) ?_
        obtain ⟨v2, ev2, hf⟩ := hm_b_s hf
        refine hm_get (ci := 4) (k := 2) (C := RX4) (T := TX4) (N := 3) hx hb hts hiX4 hown hK hI rfl (by decide) w5 (hm_gq_s ev2) dX4_addStretch_21 ?_
        refine lv_iload_n hx hb dX4_addStretch_24 rfl (lv_at hl 2 rfl) ?_
        refine lv_iload hx hb dX4_addStretch_25 (lv_at hl 0 rfl) ?_
        refine lv_iadd hx hb dX4_addStretch_27 ?_
        obtain ⟨b4, eb4, hf⟩ := hm_b_s hf
        obtain ⟨h3, eh3, hf⟩ := hm_b_s hf
        refine hm_cV (As := [.int (x1 + v1)]) (rest := []) ⟨hx, hb, hml, hown, hts⟩ hK hI eb4 rfl rfl (kX2_append l D kA b4 (x1 + v1) h h3 eh3) (cwV 1 hts gX4_addStretch_X2_append rfl rfl rfl (by decide +kernel) ⟨Nat.le_of_ble_eq_true rfl, Nat.le_of_ble_eq_true rfl⟩) rfl hl.1 rfl (by first | exact Nat.le_of_ble_eq_true rfl | (simp only [List.map, hm_rf_cat, hm_ci, hm_cl, List.sum_cons, List.sum_nil] <;> decide)) dX4_addStretch_28 ⟨Nat.le_of_ble_eq_true rfl, Nat.le_of_ble_eq_true rfl⟩ (fun H locs hI => ?_)
        refine W.eq (g2 := F0 m 31 ls []) rfl ?_
        refine lv_iload_n hx hb dX4_addStretch_31 rfl (lv_at hl 2 rfl) ?_
        refine lv_bipush (v := (64 : Int32)) hx hb dX4_addStretch_32 (by decide) ?_
        refine lv_icmp_ne (tgt := 42) hx hb dX4_addStretch_34 (by decide) (fun c => ?_) (fun c => ?_)
        · rw [if_neg c] at hf
          refine lv_iload_n hx hb dX4_addStretch_42 rfl (lv_at hl 2 rfl) ?_
          refine lv_iconst (v := (1 : Int32)) hx hb dX4_addStretch_43 (by decide) ?_
          refine va_mmin hx hb (hml.trans hl.1.symm) hown w1 w2 w3 w4 (Nat.le_of_ble_eq_true rfl) (by first | exact Nat.le_of_ble_eq_true rfl | (simp only [List.map, hm_rf_cat, hm_ci, hm_cl, List.sum_cons, List.sum_nil] <;> exact Nat.le_of_ble_eq_true rfl)) (Nat.le_of_ble_eq_true rfl) (Nat.le_of_ble_eq_true rfl) dX4_addStretch_44 ?_
          exact B47 x0 x1 x3 x4 (if (1 : Int32) < x1 then (1 : Int32) else x1) h3 hf _ _ _ hI (lv_sub hl [1, 2, 3, 4] rfl)
        · rw [if_pos c] at hf
          refine lv_iload hx hb dX4_addStretch_37 (lv_at hl 0 rfl) ?_
          refine lv_goto (tgt := 47) hx hb dX4_addStretch_39 (by decide) ?_
          exact B47 x0 x1 x3 x4 v1 h3 hf _ _ _ hI (lv_sub hl [1, 2, 3, 4] rfl)
  rw [show entryFrame m args 8 = entryFrame m ([.ref t, .int a1, .int a2, .int a3] : List Value).toArray 8 from by rw [hargs]]
  have hl := lv_entry ([.ref t, .int a1, .int a2, .int a3]) (n := 8) (Nat.le_of_ble_eq_true rfl)
  rw [lg_entry_eq]
  generalize (lg_sl ([.ref t, .int a1, .int a2, .int a3]) ++ List.replicate (8 - (lg_sl ([.ref t, .int a1, .int a2, .int a3])).length) Slot.unset).toArray = ls at hl ⊢
  have hl : lv_has ls 8 [(0, va_rf (some t)), (1, .int a1), (2, .int a2), (3, .int a3)] := hl
  unfold fX4_addStretch at hf
  refine lv_iload_n hx hb dX4_addStretch_0 rfl (lv_at hl 2 rfl) ?_
  refine lv_istore (lv' := [(4, .int a2), (0, va_rf (some t)), (1, .int a1), (2, .int a2), (3, .int a3)]) hx hb dX4_addStretch_1 hl (by decide) rfl (fun ls hl => ?_)
  exact B3 hm_fu (some t) a1 a3 a2 h0 hf _ _ _ hI (lv_sub hl [1, 2, 4, 0] rfl)
/-! ==== X4_addRow: BlitBoard$Teller.addRow(I)V ==== -/
def fX4_addRow_102 (K21 : Option Nat → Int32 → Int32 → Int32 → Int32 → Int32 → hm_H → Option hm_H) (x0 : Option Nat) (x1 : Int32) (x2 : Int32) (x3 : Int32) (x4 : Int32) (x5 : Int32) (h : hm_H) : Option hm_H :=
  K21 x0 x1 x2 x3 x4 (x5 + (1 : Int32)) h
def fX4_addRow_86 (K21 : Option Nat → Int32 → Int32 → Int32 → Int32 → Int32 → hm_H → Option hm_H) (x0 : Option Nat) (x1 : Int32) (x2 : Int32) (x3 : Int32) (x4 : Int32) (x5 : Int32) (x6 : Int32) (h : hm_H) : Option hm_H :=
  hm_b (hm_rc 4 h x0) fun b18 =>
  hm_b (fX4_addStretch b18 x4 x3 x5 h) fun h17 =>
  fX4_addRow_102 K21 x0 x1 x2 x5 x6 x5 h17
def fX4_addRow_44 (K21 : Option Nat → Int32 → Int32 → Int32 → Int32 → Int32 → hm_H → Option hm_H) (x0 : Option Nat) (x1 : Int32) (x2 : Int32) (x3 : Int32) (x4 : Int32) (x5 : Int32) (s0 : Int32) (h : hm_H) : Option hm_H :=
  if s0 = x4 then
    if s0 = (128 : Int32) then
      hm_b (hm_gq 4 0 h x0) fun v11 =>
      hm_b (hm_gq 3 3 h v11) fun v12 =>
      hm_b (hm_ai 0 h v12 x5) fun v13 =>
      hm_b (hm_gq 4 0 h x0) fun v14 =>
      hm_b (hm_gq 3 3 h v14) fun v15 =>
      hm_b (hm_ai 0 h v15 (x5 - (1 : Int32))) fun v16 =>
      if v13 = v16 then
        fX4_addRow_102 K21 x0 x1 x2 x3 x4 x5 h
      else
        fX4_addRow_86 K21 x0 x1 x2 x3 x4 x5 s0 h
    else
      fX4_addRow_102 K21 x0 x1 x2 x3 x4 x5 h
  else
    fX4_addRow_86 K21 x0 x1 x2 x3 x4 x5 s0 h
def fX4_addRow_21 (K21 : Option Nat → Int32 → Int32 → Int32 → Int32 → Int32 → hm_H → Option hm_H) (x0 : Option Nat) (x1 : Int32) (x2 : Int32) (x3 : Int32) (x4 : Int32) (x5 : Int32) (h : hm_H) : Option hm_H :=
  if x2 < x5 then
    some h
  else
    if x2 ≤ x5 then
      fX4_addRow_44 K21 x0 x1 x2 x3 x4 x5 (-1 : Int32) h
    else
      hm_b (hm_rc 4 h x0) fun b9 =>
      hm_b2 (fX4_kindAt b9 x1 x5 h) fun v10 h8 =>
      fX4_addRow_44 K21 x0 x1 x2 x3 x4 x5 v10 h8
def fX4_addRow (t : Nat) (a1 : Int32) (h0 : hm_H) : Option hm_H :=
  hm_b (hm_rc 4 h0 (some t)) fun b2 =>
  hm_b2 (fX4_toldEnd b2 a1 h0) fun v3 h1 =>
  hm_b (hm_rc 4 h1 (some t)) fun b5 =>
  hm_b2 (fX4_kindAt b5 a1 a1 h1) fun v6 h4 =>
  hm_let (a1 + (1 : Int32)) fun v7 =>
  hm_loop (fun _ _ _ _ _ _ _ => none) (fX4_addRow_21) hm_fu (some t) a1 v3 a1 v6 v7 h4
set_option maxRecDepth 100000 in
set_option maxHeartbeats 8000000 in
theorem kX4_addRow (l : Launch) (D : va_G) (kA : Nat → ClassId) (t : Nat) (a1 : Int32) (h0 h' : hm_H) (hf : fX4_addRow t a1 h0 = some h') : hm_C l yX4_addRow wsX4_addRow { frames := 2, cells := 0, slots := 0, locals := 57 } D vwCl kA (hm_ty kA) [.ref t, .int a1] h0 none h' 0 0 := by
  refine Met.ofW (cc := cX4_addRow) (maxL := 7) (ret := none) (by decide) rfl ?_
  intro p e s m args below meth c s₁ B hml hv
  obtain ⟨hargs, hB⟩ := hv
  have hx := B.exec
  have hb := B.bytes
  have hr := B.returns
  have hts := atoms_spec (ws := wsX4_addRow) B.pre
  have hown : s.vm.findClass RX4 = some m.cls := findClass_of_methodNamed B.named
  have hlocks := B.notSynchronized
  have hK := hB.2
  have hI := hm_start hB
  have w1 := hts (.fieldLink RX4 9 "BlitBoard$Teller" "of" "LBlitBoard$Surface;") (by decide +kernel)
  have w2 := hts (.fieldLink RX4 55 "BlitBoard$Surface" "dots" "[I") (by decide +kernel)
  have hiX4 : ∀ w ∈ wsX40, w ∈ wsX4_addRow := by decide +kernel
  have hiX3 : ∀ w ∈ wsX30, w ∈ wsX4_addRow := by decide +kernel
  have B21 : ∀ (fu : Nat) (x0 : Option Nat) (x1 : Int32) (x2 : Int32) (x3 : Int32) (x4 : Int32) (x5 : Int32) (h : hm_H), hm_loop (fun _ _ _ _ _ _ _ => none) (fX4_addRow_21) fu x0 x1 x2 x3 x4 x5 h = some h' → ∀ (H : Heap) (locs : List Loc) (ls : Array Slot), hm_I D vwCl kA (hm_A h0) s.heap h H locs → lv_has ls 7 [(0, va_rf x0), (1, .int x1), (2, .int x2), (3, .int x3), (4, .int x4), (5, .int x5)] → W p l e (headSpec wsX4_addRow { frames := 2, cells := 0, slots := 0, locals := 57 }).room s m args below meth c H locs 0 0 (MQ below (hm_Q D vwCl kA (hm_ty kA) h0 none h') args s 0 0 (hm_A h0)) (F0 m 21 ls []) := by
    intro fu
    induction fu with
    | zero => intro x0 x1 x2 x3 x4 x5 h hf; cases hf
    | succ fu ih21 =>
      rw [hm_loop_s]
      generalize hm_loop (fun _ _ _ _ _ _ _ => none) (fX4_addRow_21) fu = K21 at ih21 ⊢
      have B102 : ∀ (x0 : Option Nat) (x1 : Int32) (x2 : Int32) (x3 : Int32) (x4 : Int32) (x5 : Int32) (h : hm_H), fX4_addRow_102 K21 x0 x1 x2 x3 x4 x5 h = some h' → ∀ (H : Heap) (locs : List Loc) (ls : Array Slot), hm_I D vwCl kA (hm_A h0) s.heap h H locs → lv_has ls 7 [(0, va_rf x0), (1, .int x1), (2, .int x2), (3, .int x3), (4, .int x4), (5, .int x5)] → W p l e (headSpec wsX4_addRow { frames := 2, cells := 0, slots := 0, locals := 57 }).room s m args below meth c H locs 0 0 (MQ below (hm_Q D vwCl kA (hm_ty kA) h0 none h') args s 0 0 (hm_A h0)) (F0 m 102 ls []) := by
        intro x0 x1 x2 x3 x4 x5 h hf H locs ls hI hl
        unfold fX4_addRow_102 at hf
        refine lv_iinc (v := x5 + (1 : Int32)) (lv' := [(5, .int (x5 + (1 : Int32))), (0, va_rf x0), (1, .int x1), (2, .int x2), (3, .int x3), (4, .int x4)]) hx hb dX4_addRow_102 hl (k := 5) rfl rfl (by decide) rfl (fun ls hl => ?_)
        refine lv_goto (tgt := 21) hx hb dX4_addRow_105 (by decide) ?_
        exact ih21 x0 x1 x2 x3 x4 (x5 + (1 : Int32)) h hf _ _ _ hI (lv_sub hl [1, 2, 3, 4, 5, 0] rfl)
      have B86 : ∀ (x0 : Option Nat) (x1 : Int32) (x2 : Int32) (x3 : Int32) (x4 : Int32) (x5 : Int32) (x6 : Int32) (h : hm_H), fX4_addRow_86 K21 x0 x1 x2 x3 x4 x5 x6 h = some h' → ∀ (H : Heap) (locs : List Loc) (ls : Array Slot), hm_I D vwCl kA (hm_A h0) s.heap h H locs → lv_has ls 7 [(0, va_rf x0), (1, .int x1), (2, .int x2), (3, .int x3), (4, .int x4), (5, .int x5), (6, .int x6)] → W p l e (headSpec wsX4_addRow { frames := 2, cells := 0, slots := 0, locals := 57 }).room s m args below meth c H locs 0 0 (MQ below (hm_Q D vwCl kA (hm_ty kA) h0 none h') args s 0 0 (hm_A h0)) (F0 m 86 ls []) := by
        intro x0 x1 x2 x3 x4 x5 x6 h hf H locs ls hI hl
        unfold fX4_addRow_86 at hf
        refine hm_aload_n hx hb dX4_addRow_86 rfl (lv_at hl 0 rfl) ?_
        refine lv_iload hx hb dX4_addRow_87 (lv_at hl 4 rfl) ?_
        refine lv_iload_n hx hb dX4_addRow_89 rfl (lv_at hl 3 rfl) ?_
        refine lv_iload hx hb dX4_addRow_90 (lv_at hl 5 rfl) ?_
        obtain ⟨b18, eb18, hf⟩ := hm_b_s hf
        obtain ⟨h17, eh17, hf⟩ := hm_b_s hf
        refine hm_cV (As := [.int x4, .int x3, .int x5]) (rest := []) ⟨hx, hb, hml, hown, hts⟩ hK hI eb18 rfl rfl (kX4_addStretch l D kA b18 x4 x3 x5 h h17 eh17) (cwV 3 hts gX4_addRow_X4_addStretch rfl rfl rfl (by decide +kernel) ⟨Nat.le_of_ble_eq_true rfl, Nat.le_of_ble_eq_true rfl⟩) rfl hl.1 rfl (by first | exact Nat.le_of_ble_eq_true rfl | (simp only [List.map, hm_rf_cat, hm_ci, hm_cl, List.sum_cons, List.sum_nil] <;> decide)) dX4_addRow_92 ⟨Nat.le_of_ble_eq_true rfl, Nat.le_of_ble_eq_true rfl⟩ (fun H locs hI => ?_)
        refine W.eq (g2 := F0 m 95 ls []) rfl ?_
        refine lv_iload hx hb dX4_addRow_95 (lv_at hl 5 rfl) ?_
        refine lv_istore_n (lv' := [(3, .int x5), (0, va_rf x0), (1, .int x1), (2, .int x2), (4, .int x4), (5, .int x5), (6, .int x6)]) hx hb dX4_addRow_97 rfl hl (by decide) rfl (fun ls hl => ?_)
        refine lv_iload hx hb dX4_addRow_98 (lv_at hl 6 rfl) ?_
        refine lv_istore (lv' := [(4, .int x6), (3, .int x5), (0, va_rf x0), (1, .int x1), (2, .int x2), (5, .int x5), (6, .int x6)]) hx hb dX4_addRow_100 hl (by decide) rfl (fun ls hl => ?_)
        exact B102 x0 x1 x2 x5 x6 x5 h17 hf _ _ _ hI (lv_sub hl [2, 3, 4, 1, 0, 5] rfl)
      have B44 : ∀ (x0 : Option Nat) (x1 : Int32) (x2 : Int32) (x3 : Int32) (x4 : Int32) (x5 : Int32) (s0 : Int32) (h : hm_H), fX4_addRow_44 K21 x0 x1 x2 x3 x4 x5 s0 h = some h' → ∀ (H : Heap) (locs : List Loc) (ls : Array Slot), hm_I D vwCl kA (hm_A h0) s.heap h H locs → lv_has ls 7 [(0, va_rf x0), (1, .int x1), (2, .int x2), (3, .int x3), (4, .int x4), (5, .int x5)] → W p l e (headSpec wsX4_addRow { frames := 2, cells := 0, slots := 0, locals := 57 }).room s m args below meth c H locs 0 0 (MQ below (hm_Q D vwCl kA (hm_ty kA) h0 none h') args s 0 0 (hm_A h0)) (F0 m 44 ls [.int s0]) := by
        intro x0 x1 x2 x3 x4 x5 s0 h hf H locs ls hI hl
        unfold fX4_addRow_44 at hf
        refine lv_istore (lv' := [(6, .int s0), (0, va_rf x0), (1, .int x1), (2, .int x2), (3, .int x3), (4, .int x4), (5, .int x5)]) hx hb dX4_addRow_44 hl (by decide) rfl (fun ls hl => ?_)
        refine lv_iload hx hb dX4_addRow_46 (lv_at hl 0 rfl) ?_
        refine lv_iload hx hb dX4_addRow_48 (lv_at hl 5 rfl) ?_
        refine lv_icmp_ne (tgt := 86) hx hb dX4_addRow_50 (by decide) (fun c => ?_) (fun c => ?_)
        · rw [if_neg c] at hf
          exact B86 x0 x1 x2 x3 x4 x5 s0 h hf _ _ _ hI (lv_sub hl [1, 2, 3, 4, 5, 6, 0] rfl)
        · rw [if_pos c] at hf
          refine lv_iload hx hb dX4_addRow_53 (lv_at hl 0 rfl) ?_
          refine lv_sipush (v := (128 : Int32)) hx hb dX4_addRow_55 (by decide) ?_
          refine lv_icmp_ne (tgt := 102) hx hb dX4_addRow_58 (by decide) (fun c => ?_) (fun c => ?_)
          · rw [if_neg c] at hf
            exact B102 x0 x1 x2 x3 x4 x5 h hf _ _ _ hI (lv_sub hl [1, 2, 3, 4, 5, 6] rfl)
          · rw [if_pos c] at hf
            refine hm_aload_n hx hb dX4_addRow_61 rfl (lv_at hl 1 rfl) ?_
            obtain ⟨v11, ev11, hf⟩ := hm_b_s hf
            refine hm_get (ci := 4) (k := 0) (C := RX4) (T := TX4) (N := 3) hx hb hts hiX4 hown hK hI rfl (by decide) w1 (hm_gq_s ev11) dX4_addRow_62 ?_
            obtain ⟨v12, ev12, hf⟩ := hm_b_s hf
            refine hm_get (ci := 3) (k := 3) (C := RX3) (T := TX3) (N := 5) hx hb hts hiX3 hown hK hI rfl (by decide) w2 (hm_gq_s ev12) dX4_addRow_65 ?_
            refine lv_iload hx hb dX4_addRow_68 (lv_at hl 6 rfl) ?_
            obtain ⟨v13, ev13, hf⟩ := hm_b_s hf
            refine hm_iald (kd := 0) (t0 := 0) hx hb hK hI rfl ev13 dX4_addRow_70 ?_
            refine hm_aload_n hx hb dX4_addRow_71 rfl (lv_at hl 1 rfl) ?_
            obtain ⟨v14, ev14, hf⟩ := hm_b_s hf
            refine hm_get (ci := 4) (k := 0) (C := RX4) (T := TX4) (N := 3) hx hb hts hiX4 hown hK hI rfl (by decide) w1 (hm_gq_s ev14) dX4_addRow_72 ?_
            obtain ⟨v15, ev15, hf⟩ := hm_b_s hf
            refine hm_get (ci := 3) (k := 3) (C := RX3) (T := TX3) (N := 5) hx hb hts hiX3 hown hK hI rfl (by decide) w2 (hm_gq_s ev15) dX4_addRow_75 ?_
            refine lv_iload hx hb dX4_addRow_78 (lv_at hl 6 rfl) ?_
            refine lv_iconst (v := (1 : Int32)) hx hb dX4_addRow_80 (by decide) ?_
            refine lv_isub hx hb dX4_addRow_81 ?_
            obtain ⟨v16, ev16, hf⟩ := hm_b_s hf
            refine hm_iald (kd := 0) (t0 := 0) hx hb hK hI rfl ev16 dX4_addRow_82 ?_
            refine lv_icmp_eq (tgt := 102) hx hb dX4_addRow_83 (by decide) (fun c => ?_) (fun c => ?_)
            · rw [if_pos c] at hf
              exact B102 x0 x1 x2 x3 x4 x5 h hf _ _ _ hI (lv_sub hl [1, 2, 3, 4, 5, 6] rfl)
            · rw [if_neg c] at hf
              exact B86 x0 x1 x2 x3 x4 x5 s0 h hf _ _ _ hI (lv_sub hl [1, 2, 3, 4, 5, 6, 0] rfl)
      intro x0 x1 x2 x3 x4 x5 h hf H locs ls hI hl
      unfold fX4_addRow_21 at hf
      refine lv_iload hx hb dX4_addRow_21 (lv_at hl 5 rfl) ?_
      refine lv_iload_n hx hb dX4_addRow_23 rfl (lv_at hl 2 rfl) ?_
      refine lv_icmp_gt (tgt := 108) hx hb dX4_addRow_24 (by decide) (fun c => ?_) (fun c => ?_)
      · rw [if_pos c] at hf
        exact hm_vret_e hf hx hb hr hlocks hK hI (Nat.le_of_ble_eq_true rfl) (Nat.le_of_ble_eq_true rfl) dX4_addRow_108
      · rw [if_neg c] at hf
        refine lv_iload hx hb dX4_addRow_27 (lv_at hl 5 rfl) ?_
        refine lv_iload_n hx hb dX4_addRow_29 rfl (lv_at hl 2 rfl) ?_
        refine lv_icmp_ge (tgt := 43) hx hb dX4_addRow_30 (by decide) (fun c => ?_) (fun c => ?_)
        · rw [if_pos c] at hf
          refine lv_iconst (v := (-1 : Int32)) hx hb dX4_addRow_43 (by decide) ?_
          exact B44 x0 x1 x2 x3 x4 x5 (-1 : Int32) h hf _ _ _ hI (lv_sub hl [0, 1, 2, 3, 4, 5] rfl)
        · rw [if_neg c] at hf
          refine hm_aload_n hx hb dX4_addRow_33 rfl (lv_at hl 0 rfl) ?_
          refine lv_iload_n hx hb dX4_addRow_34 rfl (lv_at hl 1 rfl) ?_
          refine lv_iload hx hb dX4_addRow_35 (lv_at hl 5 rfl) ?_
          obtain ⟨b9, eb9, hf⟩ := hm_b_s hf
          obtain ⟨v10, h8, eh8, hf⟩ := hm_b2_s hf
          refine hm_cV (As := [.int x1, .int x5]) (rest := []) ⟨hx, hb, hml, hown, hts⟩ hK hI eb9 rfl rfl (kX4_kindAt l D kA b9 x1 x5 h h8 v10 eh8) (cwV 2 hts gX4_addRow_X4_kindAt rfl rfl rfl (by decide +kernel) ⟨Nat.le_of_ble_eq_true rfl, Nat.le_of_ble_eq_true rfl⟩) rfl hl.1 rfl (by first | exact Nat.le_of_ble_eq_true rfl | (simp only [List.map, hm_rf_cat, hm_ci, hm_cl, List.sum_cons, List.sum_nil] <;> decide)) dX4_addRow_37 ⟨Nat.le_of_ble_eq_true rfl, Nat.le_of_ble_eq_true rfl⟩ (fun H locs hI => ?_)
          refine lv_goto (tgt := 44) hx hb dX4_addRow_40 (by decide) ?_
          exact B44 x0 x1 x2 x3 x4 x5 v10 h8 hf _ _ _ hI (lv_sub hl [0, 1, 2, 3, 4, 5] rfl)
  rw [show entryFrame m args 7 = entryFrame m ([.ref t, .int a1] : List Value).toArray 7 from by rw [hargs]]
  have hl := lv_entry ([.ref t, .int a1]) (n := 7) (Nat.le_of_ble_eq_true rfl)
  rw [lg_entry_eq]
  generalize (lg_sl ([.ref t, .int a1]) ++ List.replicate (7 - (lg_sl ([.ref t, .int a1])).length) Slot.unset).toArray = ls at hl ⊢
  have hl : lv_has ls 7 [(0, va_rf (some t)), (1, .int a1)] := hl
  unfold fX4_addRow at hf
  refine hm_aload_n hx hb dX4_addRow_0 rfl (lv_at hl 0 rfl) ?_
  refine lv_iload_n hx hb dX4_addRow_1 rfl (lv_at hl 1 rfl) ?_
  obtain ⟨b2, eb2, hf⟩ := hm_b_s hf
  obtain ⟨v3, h1, eh1, hf⟩ := hm_b2_s hf
  refine hm_cV (As := [.int a1]) (rest := []) ⟨hx, hb, hml, hown, hts⟩ hK hI eb2 rfl rfl (kX4_toldEnd l D kA b2 a1 h0 h1 v3 eh1) (cwV 1 hts gX4_addRow_X4_toldEnd rfl rfl rfl (by decide +kernel) ⟨Nat.le_of_ble_eq_true rfl, Nat.le_of_ble_eq_true rfl⟩) rfl hl.1 rfl (by first | exact Nat.le_of_ble_eq_true rfl | (simp only [List.map, hm_rf_cat, hm_ci, hm_cl, List.sum_cons, List.sum_nil] <;> decide)) dX4_addRow_2 ⟨Nat.le_of_ble_eq_true rfl, Nat.le_of_ble_eq_true rfl⟩ (fun H locs hI => ?_)
  refine lv_istore_n (lv' := [(2, .int v3), (0, va_rf (some t)), (1, .int a1)]) hx hb dX4_addRow_5 rfl hl (by decide) rfl (fun ls hl => ?_)
  refine lv_iload_n hx hb dX4_addRow_6 rfl (lv_at hl 2 rfl) ?_
  refine lv_istore_n (lv' := [(3, .int a1), (2, .int v3), (0, va_rf (some t)), (1, .int a1)]) hx hb dX4_addRow_7 rfl hl (by decide) rfl (fun ls hl => ?_)
  refine hm_aload_n hx hb dX4_addRow_8 rfl (lv_at hl 2 rfl) ?_
  refine lv_iload_n hx hb dX4_addRow_9 rfl (lv_at hl 3 rfl) ?_
  refine lv_iload_n hx hb dX4_addRow_10 rfl (lv_at hl 3 rfl) ?_
  obtain ⟨b5, eb5, hf⟩ := hm_b_s hf
  obtain ⟨v6, h4, eh4, hf⟩ := hm_b2_s hf
  refine hm_cV (As := [.int a1, .int a1]) (rest := []) ⟨hx, hb, hml, hown, hts⟩ hK hI eb5 rfl rfl (kX4_kindAt l D kA b5 a1 a1 h1 h4 v6 eh4) (cwV 2 hts gX4_addRow_X4_kindAt rfl rfl rfl (by decide +kernel) ⟨Nat.le_of_ble_eq_true rfl, Nat.le_of_ble_eq_true rfl⟩) rfl hl.1 rfl (by first | exact Nat.le_of_ble_eq_true rfl | (simp only [List.map, hm_rf_cat, hm_ci, hm_cl, List.sum_cons, List.sum_nil] <;> decide)) dX4_addRow_11 ⟨Nat.le_of_ble_eq_true rfl, Nat.le_of_ble_eq_true rfl⟩ (fun H locs hI => ?_)
  refine lv_istore (lv' := [(4, .int v6), (3, .int a1), (2, .int v3), (0, va_rf (some t)), (1, .int a1)]) hx hb dX4_addRow_14 hl (by decide) rfl (fun ls hl => ?_)
  refine lv_iload_n hx hb dX4_addRow_16 rfl (lv_at hl 4 rfl) ?_
  refine lv_iconst (v := (1 : Int32)) hx hb dX4_addRow_17 (by decide) ?_
  refine lv_iadd hx hb dX4_addRow_18 ?_
  obtain ⟨v7, ev7, hf⟩ := hm_let_s hf
  refine hm_ti ev7 ?_
  refine lv_istore (lv' := [(5, .int v7), (4, .int v6), (3, .int a1), (2, .int v3), (0, va_rf (some t)), (1, .int a1)]) hx hb dX4_addRow_19 hl (by decide) rfl (fun ls hl => ?_)
  exact B21 hm_fu (some t) a1 v3 a1 v6 v7 h4 hf _ _ _ hI (lv_sub hl [4, 5, 3, 2, 1, 0] rfl)
/-! ==== X4_addRows: BlitBoard$Teller.addRows()V ==== -/
def fX4_addRows_2 (K2 : Option Nat → Int32 → hm_H → Option hm_H) (x0 : Option Nat) (x1 : Int32) (h : hm_H) : Option hm_H :=
  hm_b (hm_gq 4 0 h x0) fun v1 =>
  hm_b (hm_gq 3 2 h v1) fun v2 =>
  hm_b (hm_gi 0 3 h v2) fun v3 =>
  if v3 ≤ x1 then
    some h
  else
    hm_b (hm_gq 4 0 h x0) fun v4 =>
    hm_b (hm_rc 3 h v4) fun b6 =>
    hm_b2 (fX3_indexOf b6 (0 : Int64) ((x1).toInt64) h) fun v7 h5 =>
    hm_b (hm_rc 4 h5 x0) fun b9 =>
    hm_b (fX4_addRow b9 v7 h5) fun h8 =>
    hm_b (hm_gq 4 2 h8 x0) fun v10 =>
    hm_b (hm_rc 2 h8 v10) fun b12 =>
    hm_b (fX2_append b12 (0 : Int32) h8) fun h11 =>
    K2 x0 (x1 + (1 : Int32)) h11
def fX4_addRows (t : Nat) (h0 : hm_H) : Option hm_H :=
  hm_loop (fun _ _ _ => none) (fX4_addRows_2) hm_fu (some t) (0 : Int32) h0
set_option maxRecDepth 100000 in
set_option maxHeartbeats 8000000 in
theorem kX4_addRows (l : Launch) (D : va_G) (kA : Nat → ClassId) (t : Nat) (h0 h' : hm_H) (hf : fX4_addRows t h0 = some h') : hm_C l yX4_addRows wsX4_addRows { frames := 3, cells := 0, slots := 0, locals := 83 } D vwCl kA (hm_ty kA) [.ref t] h0 none h' 0 0 := by
  refine Met.ofW (cc := cX4_addRows) (maxL := 2) (ret := none) (by decide) rfl ?_
  intro p e s m args below meth c s₁ B hml hv
  obtain ⟨hargs, hB⟩ := hv
  have hx := B.exec
  have hb := B.bytes
  have hr := B.returns
  have hts := atoms_spec (ws := wsX4_addRows) B.pre
  have hown : s.vm.findClass RX4 = some m.cls := findClass_of_methodNamed B.named
  have hlocks := B.notSynchronized
  have hK := hB.2
  have hI := hm_start hB
  have w1 := hts (.fieldLink RX4 9 "BlitBoard$Teller" "of" "LBlitBoard$Surface;") (by decide +kernel)
  have w2 := hts (.fieldLink RX4 23 "BlitBoard$Surface" "whole" "LBlitBoard$Area;") (by decide +kernel)
  have w3 := hts (.fieldLink RX4 29 "BlitBoard$Area" "high" "I") (by decide +kernel)
  have w4 := hts (.fieldLink RX4 19 "BlitBoard$Teller" "into" "LBlitBoard$Sprite;") (by decide +kernel)
  have hiX4 : ∀ w ∈ wsX40, w ∈ wsX4_addRows := by decide +kernel
  have hiX3 : ∀ w ∈ wsX30, w ∈ wsX4_addRows := by decide +kernel
  have hiX0 : ∀ w ∈ wsX00, w ∈ wsX4_addRows := by decide +kernel
  have B2 : ∀ (fu : Nat) (x0 : Option Nat) (x1 : Int32) (h : hm_H), hm_loop (fun _ _ _ => none) (fX4_addRows_2) fu x0 x1 h = some h' → ∀ (H : Heap) (locs : List Loc) (ls : Array Slot), hm_I D vwCl kA (hm_A h0) s.heap h H locs → lv_has ls 2 [(0, va_rf x0), (1, .int x1)] → W p l e (headSpec wsX4_addRows { frames := 3, cells := 0, slots := 0, locals := 83 }).room s m args below meth c H locs 0 0 (MQ below (hm_Q D vwCl kA (hm_ty kA) h0 none h') args s 0 0 (hm_A h0)) (F0 m 2 ls []) := by
    intro fu
    induction fu with
    | zero => intro x0 x1 h hf; cases hf
    | succ fu ih2 =>
      rw [hm_loop_s]
      generalize hm_loop (fun _ _ _ => none) (fX4_addRows_2) fu = K2 at ih2 ⊢
      intro x0 x1 h hf H locs ls hI hl
      unfold fX4_addRows_2 at hf
      refine lv_iload_n hx hb dX4_addRows_2 rfl (lv_at hl 1 rfl) ?_
      refine hm_aload_n hx hb dX4_addRows_3 rfl (lv_at hl 0 rfl) ?_
      obtain ⟨v1, ev1, hf⟩ := hm_b_s hf
      refine hm_get (ci := 4) (k := 0) (C := RX4) (T := TX4) (N := 3) hx hb hts hiX4 hown hK hI rfl (by decide) w1 (hm_gq_s ev1) dX4_addRows_4 ?_
      obtain ⟨v2, ev2, hf⟩ := hm_b_s hf
      refine hm_get (ci := 3) (k := 2) (C := RX3) (T := TX3) (N := 5) hx hb hts hiX3 hown hK hI rfl (by decide) w2 (hm_gq_s ev2) dX4_addRows_7 ?_
      obtain ⟨v3, ev3, hf⟩ := hm_b_s hf
      refine hm_get (ci := 0) (k := 3) (C := RX0) (T := TX0) (N := 4) hx hb hts hiX0 hown hK hI rfl (by decide) w3 (hm_gi_s ev3) dX4_addRows_10 ?_
      refine lv_icmp_ge (tgt := 44) hx hb dX4_addRows_13 (by decide) (fun c => ?_) (fun c => ?_)
      · rw [if_pos c] at hf
        exact hm_vret_e hf hx hb hr hlocks hK hI (Nat.le_of_ble_eq_true rfl) (Nat.le_of_ble_eq_true rfl) dX4_addRows_44
      · rw [if_neg c] at hf
        refine hm_aload_n hx hb dX4_addRows_16 rfl (lv_at hl 0 rfl) ?_
        refine hm_aload_n hx hb dX4_addRows_17 rfl (lv_at hl 0 rfl) ?_
        obtain ⟨v4, ev4, hf⟩ := hm_b_s hf
        refine hm_get (ci := 4) (k := 0) (C := RX4) (T := TX4) (N := 3) hx hb hts hiX4 hown hK hI rfl (by decide) w1 (hm_gq_s ev4) dX4_addRows_18 ?_
        refine lv_lconst (v := (0 : Int64)) hx hb dX4_addRows_21 (by decide) ?_
        refine lv_iload_n hx hb dX4_addRows_22 rfl (lv_at hl 1 rfl) ?_
        refine lv_i2l (v := (x1).toInt64) hx hb dX4_addRows_23 rfl ?_
        obtain ⟨b6, eb6, hf⟩ := hm_b_s hf
        obtain ⟨v7, h5, eh5, hf⟩ := hm_b2_s hf
        refine hm_cV (As := [.long (0 : Int64), .long ((x1).toInt64)]) (rest := [va_rf x0]) ⟨hx, hb, hml, hown, hts⟩ hK hI eb6 rfl rfl (kX3_indexOf l D kA b6 (0 : Int64) ((x1).toInt64) h h5 v7 eh5) (cwV 2 hts gX4_addRows_X3_indexOf rfl rfl rfl (by decide +kernel) ⟨Nat.le_of_ble_eq_true rfl, Nat.le_of_ble_eq_true rfl⟩) rfl hl.1 rfl (by first | exact Nat.le_of_ble_eq_true rfl | (simp only [List.map, hm_rf_cat, hm_ci, hm_cl, List.sum_cons, List.sum_nil] <;> decide)) dX4_addRows_24 ⟨Nat.le_of_ble_eq_true rfl, Nat.le_of_ble_eq_true rfl⟩ (fun H locs hI => ?_)
        obtain ⟨b9, eb9, hf⟩ := hm_b_s hf
        obtain ⟨h8, eh8, hf⟩ := hm_b_s hf
        refine hm_cV (As := [.int v7]) (rest := []) ⟨hx, hb, hml, hown, hts⟩ hK hI eb9 rfl rfl (kX4_addRow l D kA b9 v7 h5 h8 eh8) (cwV 1 hts gX4_addRows_X4_addRow rfl rfl rfl (by decide +kernel) ⟨Nat.le_of_ble_eq_true rfl, Nat.le_of_ble_eq_true rfl⟩) rfl hl.1 rfl (by first | exact Nat.le_of_ble_eq_true rfl | (simp only [List.map, hm_rf_cat, hm_ci, hm_cl, List.sum_cons, List.sum_nil] <;> decide)) dX4_addRows_27 ⟨Nat.le_of_ble_eq_true rfl, Nat.le_of_ble_eq_true rfl⟩ (fun H locs hI => ?_)
        refine W.eq (g2 := F0 m 30 ls []) rfl ?_
        refine hm_aload_n hx hb dX4_addRows_30 rfl (lv_at hl 0 rfl) ?_
        obtain ⟨v10, ev10, hf⟩ := hm_b_s hf
        refine hm_get (ci := 4) (k := 2) (C := RX4) (T := TX4) (N := 3) hx hb hts hiX4 hown hK hI rfl (by decide) w4 (hm_gq_s ev10) dX4_addRows_31 ?_
        refine lv_iconst (v := (0 : Int32)) hx hb dX4_addRows_34 (by decide) ?_
        obtain ⟨b12, eb12, hf⟩ := hm_b_s hf
        obtain ⟨h11, eh11, hf⟩ := hm_b_s hf
        refine hm_cV (As := [.int (0 : Int32)]) (rest := []) ⟨hx, hb, hml, hown, hts⟩ hK hI eb12 rfl rfl (kX2_append l D kA b12 (0 : Int32) h8 h11 eh11) (cwV 1 hts gX4_addRows_X2_append rfl rfl rfl (by decide +kernel) ⟨Nat.le_of_ble_eq_true rfl, Nat.le_of_ble_eq_true rfl⟩) rfl hl.1 rfl (by first | exact Nat.le_of_ble_eq_true rfl | (simp only [List.map, hm_rf_cat, hm_ci, hm_cl, List.sum_cons, List.sum_nil] <;> decide)) dX4_addRows_35 ⟨Nat.le_of_ble_eq_true rfl, Nat.le_of_ble_eq_true rfl⟩ (fun H locs hI => ?_)
        refine W.eq (g2 := F0 m 38 ls []) rfl ?_
        refine lv_iinc (v := x1 + (1 : Int32)) (lv' := [(1, .int (x1 + (1 : Int32))), (0, va_rf x0)]) hx hb dX4_addRows_38 hl (k := 1) rfl rfl (by decide) (by simp only [List.filter, hm_cat2, Bool.and_false, Bool.not_false] <;> rfl) (fun ls hl => ?_)
        refine lv_goto (tgt := 2) hx hb dX4_addRows_41 (by decide) ?_
        exact ih2 x0 (x1 + (1 : Int32)) h11 hf _ _ _ hI (lv_sub hl [1, 0] rfl)
  rw [show entryFrame m args 2 = entryFrame m ([.ref t] : List Value).toArray 2 from by rw [hargs]]
  have hl := lv_entry ([.ref t]) (n := 2) (Nat.le_of_ble_eq_true rfl)
  rw [lg_entry_eq]
  generalize (lg_sl ([.ref t]) ++ List.replicate (2 - (lg_sl ([.ref t])).length) Slot.unset).toArray = ls at hl ⊢
  have hl : lv_has ls 2 [(0, va_rf (some t))] := hl
  unfold fX4_addRows at hf
  refine lv_iconst (v := (0 : Int32)) hx hb dX4_addRows_0 (by decide) ?_
  refine lv_istore_n (lv' := [(1, .int (0 : Int32)), (0, va_rf (some t))]) hx hb dX4_addRows_1 rfl hl (by decide) (by simp only [List.filter, hm_cat2, Bool.and_false, Bool.not_false] <;> rfl) (fun ls hl => ?_)
  exact B2 hm_fu (some t) (0 : Int32) h0 hf _ _ _ hI (lv_sub hl [1, 0] rfl)
