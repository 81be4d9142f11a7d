/-! ==== X6_keyed: BlitBoardModel.keyed(IIIIIIIII)I ==== -/
def fX6_keyed_29 (x0 : Option Nat) (x1 : Int32) (x2 : Int32) (x3 : Int32) (x4 : Int32) (x5 : Int32) (x6 : Int32) (x7 : Int32) (x8 : Int32) (x9 : Int32) (s0 : Int32) (h : hm_H) : Option (Int32 × hm_H) :=
  if s0 = 0 then
    some ((-1 : Int32), h)
  else
    hm_b (hm_rc 6 h x0) fun b8 =>
    hm_b2 (fX6_bring b8 x1 x2 x3 x4 x5 x6 x7 x8 (1 : Int32) x9 (0 : Int32) h) fun v9 h7 =>
    some (v9, h7)
def fX6_keyed_28 (x0 : Option Nat) (x1 : Int32) (x2 : Int32) (x3 : Int32) (x4 : Int32) (x5 : Int32) (x6 : Int32) (x7 : Int32) (x8 : Int32) (x9 : Int32) (h : hm_H) : Option (Int32 × hm_H) :=
  fX6_keyed_29 x0 x1 x2 x3 x4 x5 x6 x7 x8 x9 (0 : Int32) h
def fX6_keyed (t : Nat) (a1 : Int32) (a2 : Int32) (a3 : Int32) (a4 : Int32) (a5 : Int32) (a6 : Int32) (a7 : Int32) (a8 : Int32) (a9 : Int32) (h0 : hm_H) : Option (Int32 × hm_H) :=
  hm_b (hm_rc 6 h0 (some t)) fun b2 =>
  hm_b2 (fX6_areAlike b2 a1 a6 a4 a5 h0) fun v3 h1 =>
  if v3 = 0 then
    fX6_keyed_28 (some t) a1 a2 a3 a4 a5 a6 a7 a8 a9 h1
  else
    hm_b (hm_rc 6 h1 (some t)) fun b5 =>
    hm_b2 (fX6_fits b5 a1 a9 h1) fun v6 h4 =>
    if v6 = 0 then
      fX6_keyed_28 (some t) a1 a2 a3 a4 a5 a6 a7 a8 a9 h4
    else
      fX6_keyed_29 (some t) a1 a2 a3 a4 a5 a6 a7 a8 a9 (1 : Int32) h4
set_option maxRecDepth 100000 in
set_option maxHeartbeats 8000000 in
theorem kX6_keyed (l : Launch) (D : va_G) (kA : Nat → ClassId) (t : Nat) (a1 : Int32) (a2 : Int32) (a3 : Int32) (a4 : Int32) (a5 : Int32) (a6 : Int32) (a7 : Int32) (a8 : Int32) (a9 : Int32) (h0 h' : hm_H) (r : Int32) (hf : fX6_keyed t a1 a2 a3 a4 a5 a6 a7 a8 a9 h0 = some (r, h')) : hm_C l yX6_keyed wsX6_keyed { frames := 3, cells := 0, slots := 0, locals := 95 } D vwCl kA (hm_ty kA) [.ref t, .int a1, .int a2, .int a3, .int a4, .int a5, .int a6, .int a7, .int a8, .int a9] h0 (some (.int r)) h' 0 0 := by
  refine Met.ofW (cc := cX6_keyed) (maxL := 11) (ret := (some .int)) (by decide) rfl ?_
  intro p e s m args below meth c s₁ B hml hv
  obtain ⟨hargs, hB⟩ := hv
  have hx := B.exec
  have hb := B.bytes
  have hr := B.returns
  have hts := atoms_spec (ws := wsX6_keyed) B.pre
  have hown : s.vm.findClass RX6 = some m.cls := findClass_of_methodNamed B.named
  have hlocks := B.notSynchronized
  have hK := hB.2
  have hI := hm_start hB
  have B29 : ∀ (x0 : Option Nat) (x1 : Int32) (x2 : Int32) (x3 : Int32) (x4 : Int32) (x5 : Int32) (x6 : Int32) (x7 : Int32) (x8 : Int32) (x9 : Int32) (s0 : Int32) (h : hm_H), fX6_keyed_29 x0 x1 x2 x3 x4 x5 x6 x7 x8 x9 s0 h = some (r, h') → ∀ (H : Heap) (locs : List Loc) (ls : Array Slot), hm_I D vwCl kA (hm_A h0) s.heap h H locs → lv_has ls 11 [(0, va_rf x0), (1, .int x1), (2, .int x2), (3, .int x3), (4, .int x4), (5, .int x5), (6, .int x6), (7, .int x7), (8, .int x8), (9, .int x9)] → W p l e (headSpec wsX6_keyed { frames := 3, cells := 0, slots := 0, locals := 95 }).room s m args below meth c H locs 0 0 (MQ below (hm_Q D vwCl kA (hm_ty kA) h0 (some (.int r)) h') args s 0 0 (hm_A h0)) (F0 m 29 ls [.int s0]) := by
    intro x0 x1 x2 x3 x4 x5 x6 x7 x8 x9 s0 h hf H locs ls hI hl
    unfold fX6_keyed_29 at hf
    refine lv_istore (lv' := [(10, .int s0), (0, va_rf x0), (1, .int x1), (2, .int x2), (3, .int x3), (4, .int x4), (5, .int x5), (6, .int x6), (7, .int x7), (8, .int x8), (9, .int x9)]) hx hb dX6_keyed_29 hl (by decide) rfl (fun ls hl => ?_)
    refine lv_iload hx hb dX6_keyed_31 (lv_at hl 0 rfl) ?_
    refine lv_if_eq (tgt := 60) hx hb dX6_keyed_33 (by decide) (fun c => ?_) (fun c => ?_)
    · rw [if_pos c] at hf
      refine lv_iconst (v := (-1 : Int32)) hx hb dX6_keyed_60 (by decide) ?_
      exact hm_iret_e hf hx hb hr hlocks hK hI (Nat.le_of_ble_eq_true rfl) (Nat.le_of_ble_eq_true rfl) dX6_keyed_61
    · rw [if_neg c] at hf
      refine hm_aload_n hx hb dX6_keyed_36 rfl (lv_at hl 1 rfl) ?_
      refine lv_iload_n hx hb dX6_keyed_37 rfl (lv_at hl 2 rfl) ?_
      refine lv_iload_n hx hb dX6_keyed_38 rfl (lv_at hl 3 rfl) ?_
      refine lv_iload_n hx hb dX6_keyed_39 rfl (lv_at hl 4 rfl) ?_
      refine lv_iload hx hb dX6_keyed_40 (lv_at hl 5 rfl) ?_
      refine lv_iload hx hb dX6_keyed_42 (lv_at hl 6 rfl) ?_
      refine lv_iload hx hb dX6_keyed_44 (lv_at hl 7 rfl) ?_
      refine lv_iload hx hb dX6_keyed_46 (lv_at hl 8 rfl) ?_
      refine lv_iload hx hb dX6_keyed_48 (lv_at hl 9 rfl) ?_
      refine lv_iconst (v := (1 : Int32)) hx hb dX6_keyed_50 (by decide) ?_
      refine lv_iload hx hb dX6_keyed_51 (lv_at hl 10 rfl) ?_
      refine lv_iconst (v := (0 : Int32)) hx hb dX6_keyed_53 (by decide) ?_
      obtain ⟨b8, eb8, hf⟩ := hm_b_s hf
      obtain ⟨v9, h7, eh7, hf⟩ := hm_b2_s hf
      refine hm_cV (As := [.int x1, .int x2, .int x3, .int x4, .int x5, .int x6, .int x7, .int x8, .int (1 : Int32), .int x9, .int (0 : Int32)]) (rest := []) ⟨hx, hb, hml, hown, hts⟩ hK hI eb8 rfl rfl (kX6_bring l D kA b8 x1 x2 x3 x4 x5 x6 x7 x8 (1 : Int32) x9 (0 : Int32) h h7 v9 eh7) (cwV 11 hts gX6_keyed_X6_bring rfl rfl rfl (by decide +kernel) ⟨Nat.le_of_ble_eq_true rfl, Nat.le_of_ble_eq_true rfl⟩) rfl hl.1 rfl (by first | exact Nat.le_of_ble_eq_true rfl | (simp only [List.map, hm_rf_cat, hm_ci, hm_cl, List.sum_cons, List.sum_nil] <;> decide)) dX6_keyed_54 ⟨Nat.le_of_ble_eq_true rfl, Nat.le_of_ble_eq_true rfl⟩ (fun H locs hI => ?_)
      refine lv_goto (tgt := 61) hx hb dX6_keyed_57 (by decide) ?_
      exact hm_iret_e hf hx hb hr hlocks hK hI (Nat.le_of_ble_eq_true rfl) (Nat.le_of_ble_eq_true rfl) dX6_keyed_61
  have B28 : ∀ (x0 : Option Nat) (x1 : Int32) (x2 : Int32) (x3 : Int32) (x4 : Int32) (x5 : Int32) (x6 : Int32) (x7 : Int32) (x8 : Int32) (x9 : Int32) (h : hm_H), fX6_keyed_28 x0 x1 x2 x3 x4 x5 x6 x7 x8 x9 h = some (r, h') → ∀ (H : Heap) (locs : List Loc) (ls : Array Slot), hm_I D vwCl kA (hm_A h0) s.heap h H locs → lv_has ls 11 [(0, va_rf x0), (1, .int x1), (2, .int x2), (3, .int x3), (4, .int x4), (5, .int x5), (6, .int x6), (7, .int x7), (8, .int x8), (9, .int x9)] → W p l e (headSpec wsX6_keyed { frames := 3, cells := 0, slots := 0, locals := 95 }).room s m args below meth c H locs 0 0 (MQ below (hm_Q D vwCl kA (hm_ty kA) h0 (some (.int r)) h') args s 0 0 (hm_A h0)) (F0 m 28 ls []) := by
    intro x0 x1 x2 x3 x4 x5 x6 x7 x8 x9 h hf H locs ls hI hl
    unfold fX6_keyed_28 at hf
    refine lv_iconst (v := (0 : Int32)) hx hb dX6_keyed_28 (by decide) ?_
    exact B29 x0 x1 x2 x3 x4 x5 x6 x7 x8 x9 (0 : Int32) h hf _ _ _ hI (lv_sub hl [0, 1, 2, 3, 4, 5, 6, 7, 8, 9] rfl)
  rw [show entryFrame m args 11 = entryFrame m ([.ref t, .int a1, .int a2, .int a3, .int a4, .int a5, .int a6, .int a7, .int a8, .int a9] : List Value).toArray 11 from by rw [hargs]]
  have hl := lv_entry ([.ref t, .int a1, .int a2, .int a3, .int a4, .int a5, .int a6, .int a7, .int a8, .int a9]) (n := 11) (Nat.le_of_ble_eq_true rfl)
  rw [lg_entry_eq]
  generalize (lg_sl ([.ref t, .int a1, .int a2, .int a3, .int a4, .int a5, .int a6, .int a7, .int a8, .int a9]) ++ List.replicate (11 - (lg_sl ([.ref t, .int a1, .int a2, .int a3, .int a4, .int a5, .int a6, .int a7, .int a8, .int a9])).length) Slot.unset).toArray = ls at hl ⊢
  have hl : lv_has ls 11 [(0, va_rf (some t)), (1, .int a1), (2, .int a2), (3, .int a3), (4, .int a4), (5, .int a5), (6, .int a6), (7, .int a7), (8, .int a8), (9, .int a9)] := hl
  unfold fX6_keyed at hf
  refine hm_aload_n hx hb dX6_keyed_0 rfl (lv_at hl 0 rfl) ?_
  refine lv_iload_n hx hb dX6_keyed_1 rfl (lv_at hl 1 rfl) ?_
  refine lv_iload hx hb dX6_keyed_2 (lv_at hl 6 rfl) ?_
  refine lv_iload hx hb dX6_keyed_4 (lv_at hl 4 rfl) ?_
  refine lv_iload hx hb dX6_keyed_6 (lv_at hl 5 rfl) ?_
  obtain ⟨b2, eb2, hf⟩ := hm_b_s hf
  obtain ⟨v3, h1, eh1, hf⟩ := hm_b2_s hf
  refine hm_cV (As := [.int a1, .int a6, .int a4, .int a5]) (rest := []) ⟨hx, hb, hml, hown, hts⟩ hK hI eb2 rfl rfl (kX6_areAlike l D kA b2 a1 a6 a4 a5 h0 h1 v3 eh1) (cwV 4 hts gX6_keyed_X6_areAlike rfl rfl rfl (by decide +kernel) ⟨Nat.le_of_ble_eq_true rfl, Nat.le_of_ble_eq_true rfl⟩) rfl hl.1 rfl (by first | exact Nat.le_of_ble_eq_true rfl | (simp only [List.map, hm_rf_cat, hm_ci, hm_cl, List.sum_cons, List.sum_nil] <;> decide)) dX6_keyed_8 ⟨Nat.le_of_ble_eq_true rfl, Nat.le_of_ble_eq_true rfl⟩ (fun H locs hI => ?_)
  refine lv_if_eq (tgt := 28) hx hb dX6_keyed_11 (by decide) (fun c => ?_) (fun c => ?_)
  · rw [if_pos c] at hf
    exact B28 (some t) a1 a2 a3 a4 a5 a6 a7 a8 a9 h1 hf _ _ _ hI (lv_sub hl [0, 1, 2, 3, 4, 5, 6, 7, 8, 9] rfl)
  · rw [if_neg c] at hf
    refine hm_aload_n hx hb dX6_keyed_14 rfl (lv_at hl 0 rfl) ?_
    refine lv_iload_n hx hb dX6_keyed_15 rfl (lv_at hl 1 rfl) ?_
    refine lv_iload hx hb dX6_keyed_16 (lv_at hl 9 rfl) ?_
    obtain ⟨b5, eb5, hf⟩ := hm_b_s hf
    obtain ⟨v6, h4, eh4, hf⟩ := hm_b2_s hf
    refine hm_cV (As := [.int a1, .int a9]) (rest := []) ⟨hx, hb, hml, hown, hts⟩ hK hI eb5 rfl rfl (kX6_fits l D kA b5 a1 a9 h1 h4 v6 eh4) (cwV 2 hts gX6_keyed_X6_fits rfl rfl rfl (by decide +kernel) ⟨Nat.le_of_ble_eq_true rfl, Nat.le_of_ble_eq_true rfl⟩) rfl hl.1 rfl (by first | exact Nat.le_of_ble_eq_true rfl | (simp only [List.map, hm_rf_cat, hm_ci, hm_cl, List.sum_cons, List.sum_nil] <;> decide)) dX6_keyed_18 ⟨Nat.le_of_ble_eq_true rfl, Nat.le_of_ble_eq_true rfl⟩ (fun H locs hI => ?_)
    refine lv_if_eq (tgt := 28) hx hb dX6_keyed_21 (by decide) (fun c => ?_) (fun c => ?_)
    · rw [if_pos c] at hf
      exact B28 (some t) a1 a2 a3 a4 a5 a6 a7 a8 a9 h4 hf _ _ _ hI (lv_sub hl [0, 1, 2, 3, 4, 5, 6, 7, 8, 9] rfl)
    · rw [if_neg c] at hf
      refine lv_iconst (v := (1 : Int32)) hx hb dX6_keyed_24 (by decide) ?_
      refine lv_goto (tgt := 29) hx hb dX6_keyed_25 (by decide) ?_
      exact B29 (some t) a1 a2 a3 a4 a5 a6 a7 a8 a9 (1 : Int32) h4 hf _ _ _ hI (lv_sub hl [0, 1, 2, 3, 4, 5, 6, 7, 8, 9] rfl)
/-! ==== X6_masked: BlitBoardModel.masked(IIIIIIIII)I ==== -/
def fX6_masked_39 (x0 : Option Nat) (x1 : Int32) (x2 : Int32) (x3 : Int32) (x4 : Int32) (x5 : Int32) (x6 : Int32) (x7 : Int32) (x8 : Int32) (x9 : Int32) (s0 : Int32) (h : hm_H) : Option (Int32 × hm_H) :=
  if s0 = 0 then
    some ((-1 : Int32), h)
  else
    hm_b (hm_rc 6 h x0) fun b10 =>
    hm_b2 (fX6_bring b10 x1 x2 x3 x4 x5 x6 x7 x8 (2 : Int32) x9 (0 : Int32) h) fun v11 h9 =>
    some (v11, h9)
def fX6_masked_38 (x0 : Option Nat) (x1 : Int32) (x2 : Int32) (x3 : Int32) (x4 : Int32) (x5 : Int32) (x6 : Int32) (x7 : Int32) (x8 : Int32) (x9 : Int32) (h : hm_H) : Option (Int32 × hm_H) :=
  fX6_masked_39 x0 x1 x2 x3 x4 x5 x6 x7 x8 x9 (0 : Int32) h
def fX6_masked (t : Nat) (a1 : Int32) (a2 : Int32) (a3 : Int32) (a4 : Int32) (a5 : Int32) (a6 : Int32) (a7 : Int32) (a8 : Int32) (a9 : Int32) (h0 : hm_H) : Option (Int32 × hm_H) :=
  hm_b (hm_rc 6 h0 (some t)) fun b2 =>
  hm_b2 (fX6_areAlike b2 a1 a6 a4 a5 h0) fun v3 h1 =>
  if v3 = 0 then
    fX6_masked_38 (some t) a1 a2 a3 a4 a5 a6 a7 a8 a9 h1
  else
    hm_b (hm_rc 6 h1 (some t)) fun b5 =>
    hm_b2 (fX6_isSurface b5 a9 h1) fun v6 h4 =>
    if v6 = 0 then
      fX6_masked_38 (some t) a1 a2 a3 a4 a5 a6 a7 a8 a9 h4
    else
      hm_b (hm_gq 6 1 h4 (some t)) fun v7 =>
      hm_b (hm_ai 0 h4 v7 a9) fun v8 =>
      if v8 = (1 : Int32) then
        fX6_masked_39 (some t) a1 a2 a3 a4 a5 a6 a7 a8 a9 (1 : Int32) h4
      else
        fX6_masked_38 (some t) a1 a2 a3 a4 a5 a6 a7 a8 a9 h4
set_option maxRecDepth 100000 in
set_option maxHeartbeats 8000000 in
theorem kX6_masked (l : Launch) (D : va_G) (kA : Nat → ClassId) (t : Nat) (a1 : Int32) (a2 : Int32) (a3 : Int32) (a4 : Int32) (a5 : Int32) (a6 : Int32) (a7 : Int32) (a8 : Int32) (a9 : Int32) (h0 h' : hm_H) (r : Int32) (hf : fX6_masked t a1 a2 a3 a4 a5 a6 a7 a8 a9 h0 = some (r, h')) : hm_C l yX6_masked wsX6_masked { frames := 3, cells := 0, slots := 0, locals := 95 } D vwCl kA (hm_ty kA) [.ref t, .int a1, .int a2, .int a3, .int a4, .int a5, .int a6, .int a7, .int a8, .int a9] h0 (some (.int r)) h' 0 0 := by
  refine Met.ofW (cc := cX6_masked) (maxL := 11) (ret := (some .int)) (by decide) rfl ?_
  intro p e s m args below meth c s₁ B hml hv
  obtain ⟨hargs, hB⟩ := hv
  have hx := B.exec
  have hb := B.bytes
  have hr := B.returns
  have hts := atoms_spec (ws := wsX6_masked) B.pre
  have hown : s.vm.findClass RX6 = some m.cls := findClass_of_methodNamed B.named
  have hlocks := B.notSynchronized
  have hK := hB.2
  have hI := hm_start hB
  have w1 := hts (.fieldLink RX6 7 "BlitBoardModel" "depths" "[I") (by decide +kernel)
  have hiX6 : ∀ w ∈ wsX60, w ∈ wsX6_masked := by decide +kernel
  have B39 : ∀ (x0 : Option Nat) (x1 : Int32) (x2 : Int32) (x3 : Int32) (x4 : Int32) (x5 : Int32) (x6 : Int32) (x7 : Int32) (x8 : Int32) (x9 : Int32) (s0 : Int32) (h : hm_H), fX6_masked_39 x0 x1 x2 x3 x4 x5 x6 x7 x8 x9 s0 h = some (r, h') → ∀ (H : Heap) (locs : List Loc) (ls : Array Slot), hm_I D vwCl kA (hm_A h0) s.heap h H locs → lv_has ls 11 [(0, va_rf x0), (1, .int x1), (2, .int x2), (3, .int x3), (4, .int x4), (5, .int x5), (6, .int x6), (7, .int x7), (8, .int x8), (9, .int x9)] → W p l e (headSpec wsX6_masked { frames := 3, cells := 0, slots := 0, locals := 95 }).room s m args below meth c H locs 0 0 (MQ below (hm_Q D vwCl kA (hm_ty kA) h0 (some (.int r)) h') args s 0 0 (hm_A h0)) (F0 m 39 ls [.int s0]) := by
    intro x0 x1 x2 x3 x4 x5 x6 x7 x8 x9 s0 h hf H locs ls hI hl
    unfold fX6_masked_39 at hf
    refine lv_istore (lv' := [(10, .int s0), (0, va_rf x0), (1, .int x1), (2, .int x2), (3, .int x3), (4, .int x4), (5, .int x5), (6, .int x6), (7, .int x7), (8, .int x8), (9, .int x9)]) hx hb dX6_masked_39 hl (by decide) rfl (fun ls hl => ?_)
    refine lv_iload hx hb dX6_masked_41 (lv_at hl 0 rfl) ?_
    refine lv_if_eq (tgt := 70) hx hb dX6_masked_43 (by decide) (fun c => ?_) (fun c => ?_)
    · rw [if_pos c] at hf
      refine lv_iconst (v := (-1 : Int32)) hx hb dX6_masked_70 (by decide) ?_
      exact hm_iret_e hf hx hb hr hlocks hK hI (Nat.le_of_ble_eq_true rfl) (Nat.le_of_ble_eq_true rfl) dX6_masked_71
    · rw [if_neg c] at hf
      refine hm_aload_n hx hb dX6_masked_46 rfl (lv_at hl 1 rfl) ?_
      refine lv_iload_n hx hb dX6_masked_47 rfl (lv_at hl 2 rfl) ?_
      refine lv_iload_n hx hb dX6_masked_48 rfl (lv_at hl 3 rfl) ?_
      refine lv_iload_n hx hb dX6_masked_49 rfl (lv_at hl 4 rfl) ?_
      refine lv_iload hx hb dX6_masked_50 (lv_at hl 5 rfl) ?_
      refine lv_iload hx hb dX6_masked_52 (lv_at hl 6 rfl) ?_
      refine lv_iload hx hb dX6_masked_54 (lv_at hl 7 rfl) ?_
      refine lv_iload hx hb dX6_masked_56 (lv_at hl 8 rfl) ?_
      refine lv_iload hx hb dX6_masked_58 (lv_at hl 9 rfl) ?_
      refine lv_iconst (v := (2 : Int32)) hx hb dX6_masked_60 (by decide) ?_
      refine lv_iload hx hb dX6_masked_61 (lv_at hl 10 rfl) ?_
      refine lv_iconst (v := (0 : Int32)) hx hb dX6_masked_63 (by decide) ?_
      obtain ⟨b10, eb10, hf⟩ := hm_b_s hf
      obtain ⟨v11, h9, eh9, hf⟩ := hm_b2_s hf
      refine hm_cV (As := [.int x1, .int x2, .int x3, .int x4, .int x5, .int x6, .int x7, .int x8, .int (2 : Int32), .int x9, .int (0 : Int32)]) (rest := []) ⟨hx, hb, hml, hown, hts⟩ hK hI eb10 rfl rfl (kX6_bring l D kA b10 x1 x2 x3 x4 x5 x6 x7 x8 (2 : Int32) x9 (0 : Int32) h h9 v11 eh9) (cwV 11 hts gX6_masked_X6_bring rfl rfl rfl (by decide +kernel) ⟨Nat.le_of_ble_eq_true rfl, Nat.le_of_ble_eq_true rfl⟩) rfl hl.1 rfl (by first | exact Nat.le_of_ble_eq_true rfl | (simp only [List.map, hm_rf_cat, hm_ci, hm_cl, List.sum_cons, List.sum_nil] <;> decide)) dX6_masked_64 ⟨Nat.le_of_ble_eq_true rfl, Nat.le_of_ble_eq_true rfl⟩ (fun H locs hI => ?_)
      refine lv_goto (tgt := 71) hx hb dX6_masked_67 (by decide) ?_
      exact hm_iret_e hf hx hb hr hlocks hK hI (Nat.le_of_ble_eq_true rfl) (Nat.le_of_ble_eq_true rfl) dX6_masked_71
  have B38 : ∀ (x0 : Option Nat) (x1 : Int32) (x2 : Int32) (x3 : Int32) (x4 : Int32) (x5 : Int32) (x6 : Int32) (x7 : Int32) (x8 : Int32) (x9 : Int32) (h : hm_H), fX6_masked_38 x0 x1 x2 x3 x4 x5 x6 x7 x8 x9 h = some (r, h') → ∀ (H : Heap) (locs : List Loc) (ls : Array Slot), hm_I D vwCl kA (hm_A h0) s.heap h H locs → lv_has ls 11 [(0, va_rf x0), (1, .int x1), (2, .int x2), (3, .int x3), (4, .int x4), (5, .int x5), (6, .int x6), (7, .int x7), (8, .int x8), (9, .int x9)] → W p l e (headSpec wsX6_masked { frames := 3, cells := 0, slots := 0, locals := 95 }).room s m args below meth c H locs 0 0 (MQ below (hm_Q D vwCl kA (hm_ty kA) h0 (some (.int r)) h') args s 0 0 (hm_A h0)) (F0 m 38 ls []) := by
    intro x0 x1 x2 x3 x4 x5 x6 x7 x8 x9 h hf H locs ls hI hl
    unfold fX6_masked_38 at hf
    refine lv_iconst (v := (0 : Int32)) hx hb dX6_masked_38 (by decide) ?_
    exact B39 x0 x1 x2 x3 x4 x5 x6 x7 x8 x9 (0 : Int32) h hf _ _ _ hI (lv_sub hl [0, 1, 2, 3, 4, 5, 6, 7, 8, 9] rfl)
  rw [show entryFrame m args 11 = entryFrame m ([.ref t, .int a1, .int a2, .int a3, .int a4, .int a5, .int a6, .int a7, .int a8, .int a9] : List Value).toArray 11 from by rw [hargs]]
  have hl := lv_entry ([.ref t, .int a1, .int a2, .int a3, .int a4, .int a5, .int a6, .int a7, .int a8, .int a9]) (n := 11) (Nat.le_of_ble_eq_true rfl)
  rw [lg_entry_eq]
  generalize (lg_sl ([.ref t, .int a1, .int a2, .int a3, .int a4, .int a5, .int a6, .int a7, .int a8, .int a9]) ++ List.replicate (11 - (lg_sl ([.ref t, .int a1, .int a2, .int a3, .int a4, .int a5, .int a6, .int a7, .int a8, .int a9])).length) Slot.unset).toArray = ls at hl ⊢
  have hl : lv_has ls 11 [(0, va_rf (some t)), (1, .int a1), (2, .int a2), (3, .int a3), (4, .int a4), (5, .int a5), (6, .int a6), (7, .int a7), (8, .int a8), (9, .int a9)] := hl
  unfold fX6_masked at hf
  refine hm_aload_n hx hb dX6_masked_0 rfl (lv_at hl 0 rfl) ?_
  refine lv_iload_n hx hb dX6_masked_1 rfl (lv_at hl 1 rfl) ?_
  refine lv_iload hx hb dX6_masked_2 (lv_at hl 6 rfl) ?_
  refine lv_iload hx hb dX6_masked_4 (lv_at hl 4 rfl) ?_
  refine lv_iload hx hb dX6_masked_6 (lv_at hl 5 rfl) ?_
  obtain ⟨b2, eb2, hf⟩ := hm_b_s hf
  obtain ⟨v3, h1, eh1, hf⟩ := hm_b2_s hf
  refine hm_cV (As := [.int a1, .int a6, .int a4, .int a5]) (rest := []) ⟨hx, hb, hml, hown, hts⟩ hK hI eb2 rfl rfl (kX6_areAlike l D kA b2 a1 a6 a4 a5 h0 h1 v3 eh1) (cwV 4 hts gX6_masked_X6_areAlike rfl rfl rfl (by decide +kernel) ⟨Nat.le_of_ble_eq_true rfl, Nat.le_of_ble_eq_true rfl⟩) rfl hl.1 rfl (by first | exact Nat.le_of_ble_eq_true rfl | (simp only [List.map, hm_rf_cat, hm_ci, hm_cl, List.sum_cons, List.sum_nil] <;> decide)) dX6_masked_8 ⟨Nat.le_of_ble_eq_true rfl, Nat.le_of_ble_eq_true rfl⟩ (fun H locs hI => ?_)
  refine lv_if_eq (tgt := 38) hx hb dX6_masked_11 (by decide) (fun c => ?_) (fun c => ?_)
  · rw [if_pos c] at hf
    exact B38 (some t) a1 a2 a3 a4 a5 a6 a7 a8 a9 h1 hf _ _ _ hI (lv_sub hl [0, 1, 2, 3, 4, 5, 6, 7, 8, 9] rfl)
  · rw [if_neg c] at hf
    refine hm_aload_n hx hb dX6_masked_14 rfl (lv_at hl 0 rfl) ?_
    refine lv_iload hx hb dX6_masked_15 (lv_at hl 9 rfl) ?_
    obtain ⟨b5, eb5, hf⟩ := hm_b_s hf
    obtain ⟨v6, h4, eh4, hf⟩ := hm_b2_s hf
    refine hm_cV (As := [.int a9]) (rest := []) ⟨hx, hb, hml, hown, hts⟩ hK hI eb5 rfl rfl (kX6_isSurface l D kA b5 a9 h1 h4 v6 eh4) (cwV 1 hts gX6_masked_X6_isSurface rfl rfl rfl (by decide +kernel) ⟨Nat.le_of_ble_eq_true rfl, Nat.le_of_ble_eq_true rfl⟩) rfl hl.1 rfl (by first | exact Nat.le_of_ble_eq_true rfl | (simp only [List.map, hm_rf_cat, hm_ci, hm_cl, List.sum_cons, List.sum_nil] <;> decide)) dX6_masked_17 ⟨Nat.le_of_ble_eq_true rfl, Nat.le_of_ble_eq_true rfl⟩ (fun H locs hI => ?_)
    refine lv_if_eq (tgt := 38) hx hb dX6_masked_20 (by decide) (fun c => ?_) (fun c => ?_)
    · rw [if_pos c] at hf
      exact B38 (some t) a1 a2 a3 a4 a5 a6 a7 a8 a9 h4 hf _ _ _ hI (lv_sub hl [0, 1, 2, 3, 4, 5, 6, 7, 8, 9] rfl)
    · rw [if_neg c] at hf
      refine hm_aload_n hx hb dX6_masked_23 rfl (lv_at hl 0 rfl) ?_
      obtain ⟨v7, ev7, hf⟩ := hm_b_s hf
      refine hm_get (ci := 6) (k := 1) (C := RX6) (T := TX6) (N := 16) hx hb hts hiX6 hown hK hI rfl (by decide) w1 (hm_gq_s ev7) dX6_masked_24 ?_
      refine lv_iload hx hb dX6_masked_27 (lv_at hl 9 rfl) ?_
      obtain ⟨v8, ev8, hf⟩ := hm_b_s hf
      refine hm_iald (kd := 0) (t0 := 0) hx hb hK hI rfl ev8 dX6_masked_29 ?_
      refine lv_iconst (v := (1 : Int32)) hx hb dX6_masked_30 (by decide) ?_
      refine lv_icmp_ne (tgt := 38) hx hb dX6_masked_31 (by decide) (fun c => ?_) (fun c => ?_)
      · rw [if_neg c] at hf
        exact B38 (some t) a1 a2 a3 a4 a5 a6 a7 a8 a9 h4 hf _ _ _ hI (lv_sub hl [0, 1, 2, 3, 4, 5, 6, 7, 8, 9] rfl)
      · rw [if_pos c] at hf
        refine lv_iconst (v := (1 : Int32)) hx hb dX6_masked_34 (by decide) ?_
        refine lv_goto (tgt := 39) hx hb dX6_masked_35 (by decide) ?_
        exact B39 (some t) a1 a2 a3 a4 a5 a6 a7 a8 a9 (1 : Int32) h4 hf _ _ _ hI (lv_sub hl [0, 1, 2, 3, 4, 5, 6, 7, 8, 9] rfl)
/-! ==== X6_spread: BlitBoardModel.spread(IIIIIIIIII)I ==== -/
def fX6_spread_70 (x0 : Option Nat) (x1 : Int32) (x2 : Int32) (x3 : Int32) (x4 : Int32) (x5 : Int32) (x6 : Int32) (x7 : Int32) (x8 : Int32) (x9 : Int32) (x10 : Int32) (s0 : Int32) (h : hm_H) : Option (Int32 × hm_H) :=
  if s0 = 0 then
    some ((-1 : Int32), h)
  else
    hm_b (hm_rc 6 h x0) fun b20 =>
    hm_b2 (fX6_bring b20 x1 x2 x3 x4 x5 x6 x7 x8 (3 : Int32) x9 x10 h) fun v21 h19 =>
    some (v21, h19)
def fX6_spread_69 (x0 : Option Nat) (x1 : Int32) (x2 : Int32) (x3 : Int32) (x4 : Int32) (x5 : Int32) (x6 : Int32) (x7 : Int32) (x8 : Int32) (x9 : Int32) (x10 : Int32) (h : hm_H) : Option (Int32 × hm_H) :=
  fX6_spread_70 x0 x1 x2 x3 x4 x5 x6 x7 x8 x9 x10 (0 : Int32) h
def fX6_spread (t : Nat) (a1 : Int32) (a2 : Int32) (a3 : Int32) (a4 : Int32) (a5 : Int32) (a6 : Int32) (a7 : Int32) (a8 : Int32) (a9 : Int32) (a10 : Int32) (h0 : hm_H) : Option (Int32 × hm_H) :=
  hm_b (hm_rc 6 h0 (some t)) fun b2 =>
  hm_b2 (fX6_isSurface b2 a1 h0) fun v3 h1 =>
  if v3 = 0 then
    fX6_spread_69 (some t) a1 a2 a3 a4 a5 a6 a7 a8 a9 a10 h1
  else
    hm_b (hm_gq 6 1 h1 (some t)) fun v4 =>
    hm_b (hm_ai 0 h1 v4 a1) fun v5 =>
    if v5 = (1 : Int32) then
      hm_b (hm_rc 6 h1 (some t)) fun b7 =>
      hm_b2 (fX6_isSurface b7 a6 h1) fun v8 h6 =>
      if v8 = 0 then
        fX6_spread_69 (some t) a1 a2 a3 a4 a5 a6 a7 a8 a9 a10 h6
      else
        hm_b2 (fX6_isSpan a4 h6) fun v10 h9 =>
        if v10 = 0 then
          fX6_spread_69 (some t) a1 a2 a3 a4 a5 a6 a7 a8 a9 a10 h9
        else
          hm_b2 (fX6_isSpan a5 h9) fun v12 h11 =>
          if v12 = 0 then
            fX6_spread_69 (some t) a1 a2 a3 a4 a5 a6 a7 a8 a9 a10 h11
          else
            hm_b (hm_rc 6 h11 (some t)) fun b14 =>
            hm_b2 (fX6_fits b14 a6 a9 h11) fun v15 h13 =>
            if v15 = 0 then
              fX6_spread_69 (some t) a1 a2 a3 a4 a5 a6 a7 a8 a9 a10 h13
            else
              hm_b (hm_rc 6 h13 (some t)) fun b17 =>
              hm_b2 (fX6_fits b17 a6 a10 h13) fun v18 h16 =>
              if v18 = 0 then
                fX6_spread_69 (some t) a1 a2 a3 a4 a5 a6 a7 a8 a9 a10 h16
              else
                fX6_spread_70 (some t) a1 a2 a3 a4 a5 a6 a7 a8 a9 a10 (1 : Int32) h16
    else
      fX6_spread_69 (some t) a1 a2 a3 a4 a5 a6 a7 a8 a9 a10 h1
set_option maxRecDepth 100000 in
set_option maxHeartbeats 8000000 in
theorem kX6_spread (l : Launch) (D : va_G) (kA : Nat → ClassId) (t : Nat) (a1 : Int32) (a2 : Int32) (a3 : Int32) (a4 : Int32) (a5 : Int32) (a6 : Int32) (a7 : Int32) (a8 : Int32) (a9 : Int32) (a10 : Int32) (h0 h' : hm_H) (r : Int32) (hf : fX6_spread t a1 a2 a3 a4 a5 a6 a7 a8 a9 a10 h0 = some (r, h')) : hm_C l yX6_spread wsX6_spread { frames := 3, cells := 0, slots := 0, locals := 95 } D vwCl kA (hm_ty kA) [.ref t, .int a1, .int a2, .int a3, .int a4, .int a5, .int a6, .int a7, .int a8, .int a9, .int a10] h0 (some (.int r)) h' 0 0 := by
  refine Met.ofW (cc := cX6_spread) (maxL := 12) (ret := (some .int)) (by decide) rfl ?_
  intro p e s m args below meth c s₁ B hml hv
  obtain ⟨hargs, hB⟩ := hv
  have hx := B.exec
  have hb := B.bytes
  have hr := B.returns
  have hts := atoms_spec (ws := wsX6_spread) B.pre
  have hown : s.vm.findClass RX6 = some m.cls := findClass_of_methodNamed B.named
  have hlocks := B.notSynchronized
  have hK := hB.2
  have hI := hm_start hB
  have w1 := hts (.fieldLink RX6 7 "BlitBoardModel" "depths" "[I") (by decide +kernel)
  have hiX6 : ∀ w ∈ wsX60, w ∈ wsX6_spread := by decide +kernel
  have B70 : ∀ (x0 : Option Nat) (x1 : Int32) (x2 : Int32) (x3 : Int32) (x4 : Int32) (x5 : Int32) (x6 : Int32) (x7 : Int32) (x8 : Int32) (x9 : Int32) (x10 : Int32) (s0 : Int32) (h : hm_H), fX6_spread_70 x0 x1 x2 x3 x4 x5 x6 x7 x8 x9 x10 s0 h = some (r, h') → ∀ (H : Heap) (locs : List Loc) (ls : Array Slot), hm_I D vwCl kA (hm_A h0) s.heap h H locs → lv_has ls 12 [(0, va_rf x0), (1, .int x1), (2, .int x2), (3, .int x3), (4, .int x4), (5, .int x5), (6, .int x6), (7, .int x7), (8, .int x8), (9, .int x9), (10, .int x10)] → W p l e (headSpec wsX6_spread { frames := 3, cells := 0, slots := 0, locals := 95 }).room s m args below meth c H locs 0 0 (MQ below (hm_Q D vwCl kA (hm_ty kA) h0 (some (.int r)) h') args s 0 0 (hm_A h0)) (F0 m 70 ls [.int s0]) := by
    intro x0 x1 x2 x3 x4 x5 x6 x7 x8 x9 x10 s0 h hf H locs ls hI hl
    unfold fX6_spread_70 at hf
    refine lv_istore (lv' := [(11, .int s0), (0, va_rf x0), (1, .int x1), (2, .int x2), (3, .int x3), (4, .int x4), (5, .int x5), (6, .int x6), (7, .int x7), (8, .int x8), (9, .int x9), (10, .int x10)]) hx hb dX6_spread_70 hl (by decide) rfl (fun ls hl => ?_)
    refine lv_iload hx hb dX6_spread_72 (lv_at hl 0 rfl) ?_
    refine lv_if_eq (tgt := 102) hx hb dX6_spread_74 (by decide) (fun c => ?_) (fun c => ?_)
    · rw [if_pos c] at hf
      refine lv_iconst (v := (-1 : Int32)) hx hb dX6_spread_102 (by decide) ?_
      exact hm_iret_e hf hx hb hr hlocks hK hI (Nat.le_of_ble_eq_true rfl) (Nat.le_of_ble_eq_true rfl) dX6_spread_103
    · rw [if_neg c] at hf
      refine hm_aload_n hx hb dX6_spread_77 rfl (lv_at hl 1 rfl) ?_
      refine lv_iload_n hx hb dX6_spread_78 rfl (lv_at hl 2 rfl) ?_
      refine lv_iload_n hx hb dX6_spread_79 rfl (lv_at hl 3 rfl) ?_
      refine lv_iload_n hx hb dX6_spread_80 rfl (lv_at hl 4 rfl) ?_
      refine lv_iload hx hb dX6_spread_81 (lv_at hl 5 rfl) ?_
      refine lv_iload hx hb dX6_spread_83 (lv_at hl 6 rfl) ?_
      refine lv_iload hx hb dX6_spread_85 (lv_at hl 7 rfl) ?_
      refine lv_iload hx hb dX6_spread_87 (lv_at hl 8 rfl) ?_
      refine lv_iload hx hb dX6_spread_89 (lv_at hl 9 rfl) ?_
      refine lv_iconst (v := (3 : Int32)) hx hb dX6_spread_91 (by decide) ?_
      refine lv_iload hx hb dX6_spread_92 (lv_at hl 10 rfl) ?_
      refine lv_iload hx hb dX6_spread_94 (lv_at hl 11 rfl) ?_
      obtain ⟨b20, eb20, hf⟩ := hm_b_s hf
      obtain ⟨v21, h19, eh19, hf⟩ := hm_b2_s hf
      refine hm_cV (As := [.int x1, .int x2, .int x3, .int x4, .int x5, .int x6, .int x7, .int x8, .int (3 : Int32), .int x9, .int x10]) (rest := []) ⟨hx, hb, hml, hown, hts⟩ hK hI eb20 rfl rfl (kX6_bring l D kA b20 x1 x2 x3 x4 x5 x6 x7 x8 (3 : Int32) x9 x10 h h19 v21 eh19) (cwV 11 hts gX6_spread_X6_bring rfl rfl rfl (by decide +kernel) ⟨Nat.le_of_ble_eq_true rfl, Nat.le_of_ble_eq_true rfl⟩) rfl hl.1 rfl (by first | exact Nat.le_of_ble_eq_true rfl | (simp only [List.map, hm_rf_cat, hm_ci, hm_cl, List.sum_cons, List.sum_nil] <;> decide)) dX6_spread_96 ⟨Nat.le_of_ble_eq_true rfl, Nat.le_of_ble_eq_true rfl⟩ (fun H locs hI => ?_)
      refine lv_goto (tgt := 103) hx hb dX6_spread_99 (by decide) ?_
      exact hm_iret_e hf hx hb hr hlocks hK hI (Nat.le_of_ble_eq_true rfl) (Nat.le_of_ble_eq_true rfl) dX6_spread_103
  have B69 : ∀ (x0 : Option Nat) (x1 : Int32) (x2 : Int32) (x3 : Int32) (x4 : Int32) (x5 : Int32) (x6 : Int32) (x7 : Int32) (x8 : Int32) (x9 : Int32) (x10 : Int32) (h : hm_H), fX6_spread_69 x0 x1 x2 x3 x4 x5 x6 x7 x8 x9 x10 h = some (r, h') → ∀ (H : Heap) (locs : List Loc) (ls : Array Slot), hm_I D vwCl kA (hm_A h0) s.heap h H locs → lv_has ls 12 [(0, va_rf x0), (1, .int x1), (2, .int x2), (3, .int x3), (4, .int x4), (5, .int x5), (6, .int x6), (7, .int x7), (8, .int x8), (9, .int x9), (10, .int x10)] → W p l e (headSpec wsX6_spread { frames := 3, cells := 0, slots := 0, locals := 95 }).room s m args below meth c H locs 0 0 (MQ below (hm_Q D vwCl kA (hm_ty kA) h0 (some (.int r)) h') args s 0 0 (hm_A h0)) (F0 m 69 ls []) := by
    intro x0 x1 x2 x3 x4 x5 x6 x7 x8 x9 x10 h hf H locs ls hI hl
    unfold fX6_spread_69 at hf
    refine lv_iconst (v := (0 : Int32)) hx hb dX6_spread_69 (by decide) ?_
    exact B70 x0 x1 x2 x3 x4 x5 x6 x7 x8 x9 x10 (0 : Int32) h hf _ _ _ hI (lv_sub hl [0, 1, 2, 3, 4, 5, 6, 7, 8, 9, 10] rfl)
  rw [show entryFrame m args 12 = entryFrame m ([.ref t, .int a1, .int a2, .int a3, .int a4, .int a5, .int a6, .int a7, .int a8, .int a9, .int a10] : List Value).toArray 12 from by rw [hargs]]
  have hl := lv_entry ([.ref t, .int a1, .int a2, .int a3, .int a4, .int a5, .int a6, .int a7, .int a8, .int a9, .int a10]) (n := 12) (Nat.le_of_ble_eq_true rfl)
  rw [lg_entry_eq]
  generalize (lg_sl ([.ref t, .int a1, .int a2, .int a3, .int a4, .int a5, .int a6, .int a7, .int a8, .int a9, .int a10]) ++ List.replicate (12 - (lg_sl ([.ref t, .int a1, .int a2, .int a3, .int a4, .int a5, .int a6, .int a7, .int a8, .int a9, .int a10])).length) Slot.unset).toArray = ls at hl ⊢
  have hl : lv_has ls 12 [(0, va_rf (some t)), (1, .int a1), (2, .int a2), (3, .int a3), (4, .int a4), (5, .int a5), (6, .int a6), (7, .int a7), (8, .int a8), (9, .int a9), (10, .int a10)] := hl
  unfold fX6_spread at hf
  refine hm_aload_n hx hb dX6_spread_0 rfl (lv_at hl 0 rfl) ?_
  refine lv_iload_n hx hb dX6_spread_1 rfl (lv_at hl 1 rfl) ?_
  obtain ⟨b2, eb2, hf⟩ := hm_b_s hf
  obtain ⟨v3, h1, eh1, hf⟩ := hm_b2_s hf
  refine hm_cV (As := [.int a1]) (rest := []) ⟨hx, hb, hml, hown, hts⟩ hK hI eb2 rfl rfl (kX6_isSurface l D kA b2 a1 h0 h1 v3 eh1) (cwV 1 hts gX6_spread_X6_isSurface rfl rfl rfl (by decide +kernel) ⟨Nat.le_of_ble_eq_true rfl, Nat.le_of_ble_eq_true rfl⟩) rfl hl.1 rfl (by first | exact Nat.le_of_ble_eq_true rfl | (simp only [List.map, hm_rf_cat, hm_ci, hm_cl, List.sum_cons, List.sum_nil] <;> decide)) dX6_spread_2 ⟨Nat.le_of_ble_eq_true rfl, Nat.le_of_ble_eq_true rfl⟩ (fun H locs hI => ?_)
  refine lv_if_eq (tgt := 69) hx hb dX6_spread_5 (by decide) (fun c => ?_) (fun c => ?_)
  · rw [if_pos c] at hf
    exact B69 (some t) a1 a2 a3 a4 a5 a6 a7 a8 a9 a10 h1 hf _ _ _ hI (lv_sub hl [0, 1, 2, 3, 4, 5, 6, 7, 8, 9, 10] rfl)
  · rw [if_neg c] at hf
    refine hm_aload_n hx hb dX6_spread_8 rfl (lv_at hl 0 rfl) ?_
    obtain ⟨v4, ev4, hf⟩ := hm_b_s hf
    refine hm_get (ci := 6) (k := 1) (C := RX6) (T := TX6) (N := 16) hx hb hts hiX6 hown hK hI rfl (by decide) w1 (hm_gq_s ev4) dX6_spread_9 ?_
    refine lv_iload_n hx hb dX6_spread_12 rfl (lv_at hl 1 rfl) ?_
    obtain ⟨v5, ev5, hf⟩ := hm_b_s hf
    refine hm_iald (kd := 0) (t0 := 0) hx hb hK hI rfl ev5 dX6_spread_13 ?_
    refine lv_iconst (v := (1 : Int32)) hx hb dX6_spread_14 (by decide) ?_
    refine lv_icmp_ne (tgt := 69) hx hb dX6_spread_15 (by decide) (fun c => ?_) (fun c => ?_)
    · rw [if_neg c] at hf
      exact B69 (some t) a1 a2 a3 a4 a5 a6 a7 a8 a9 a10 h1 hf _ _ _ hI (lv_sub hl [0, 1, 2, 3, 4, 5, 6, 7, 8, 9, 10] rfl)
    · rw [if_pos c] at hf
      refine hm_aload_n hx hb dX6_spread_18 rfl (lv_at hl 0 rfl) ?_
      refine lv_iload hx hb dX6_spread_19 (lv_at hl 6 rfl) ?_
      obtain ⟨b7, eb7, hf⟩ := hm_b_s hf
      obtain ⟨v8, h6, eh6, hf⟩ := hm_b2_s hf
      refine hm_cV (As := [.int a6]) (rest := []) ⟨hx, hb, hml, hown, hts⟩ hK hI eb7 rfl rfl (kX6_isSurface l D kA b7 a6 h1 h6 v8 eh6) (cwV 1 hts gX6_spread_X6_isSurface rfl rfl rfl (by decide +kernel) ⟨Nat.le_of_ble_eq_true rfl, Nat.le_of_ble_eq_true rfl⟩) rfl hl.1 rfl (by first | exact Nat.le_of_ble_eq_true rfl | (simp only [List.map, hm_rf_cat, hm_ci, hm_cl, List.sum_cons, List.sum_nil] <;> decide)) dX6_spread_21 ⟨Nat.le_of_ble_eq_true rfl, Nat.le_of_ble_eq_true rfl⟩ (fun H locs hI => ?_)
      refine lv_if_eq (tgt := 69) hx hb dX6_spread_24 (by decide) (fun c => ?_) (fun c => ?_)
      · rw [if_pos c] at hf
        exact B69 (some t) a1 a2 a3 a4 a5 a6 a7 a8 a9 a10 h6 hf _ _ _ hI (lv_sub hl [0, 1, 2, 3, 4, 5, 6, 7, 8, 9, 10] rfl)
      · rw [if_neg c] at hf
        refine lv_iload hx hb dX6_spread_27 (lv_at hl 4 rfl) ?_
        obtain ⟨v10, h9, eh9, hf⟩ := hm_b2_s hf
        refine hm_cS (As := [.int a4]) (rest := []) ⟨hx, hb, hml, hown, hts⟩ hK hI (kX6_isSpan l D kA a4 h6 h9 v10 eh9) (va_cwS 1 hts gX6_spread_X6_isSpan rfl rfl rfl (by decide +kernel) ⟨Nat.le_of_ble_eq_true rfl, Nat.le_of_ble_eq_true rfl⟩) rfl hl.1 rfl (by first | exact Nat.le_of_ble_eq_true rfl | (simp only [List.map, hm_rf_cat, hm_ci, hm_cl, List.sum_cons, List.sum_nil] <;> decide)) dX6_spread_29 ⟨Nat.le_of_ble_eq_true rfl, Nat.le_of_ble_eq_true rfl⟩ (fun H locs hI => ?_)
        refine lv_if_eq (tgt := 69) hx hb dX6_spread_32 (by decide) (fun c => ?_) (fun c => ?_)
        · rw [if_pos c] at hf
          exact B69 (some t) a1 a2 a3 a4 a5 a6 a7 a8 a9 a10 h9 hf _ _ _ hI (lv_sub hl [0, 1, 2, 3, 4, 5, 6, 7, 8, 9, 10] rfl)
        · rw [if_neg c] at hf
          refine lv_iload hx hb dX6_spread_35 (lv_at hl 5 rfl) ?_
          obtain ⟨v12, h11, eh11, hf⟩ := hm_b2_s hf
          refine hm_cS (As := [.int a5]) (rest := []) ⟨hx, hb, hml, hown, hts⟩ hK hI (kX6_isSpan l D kA a5 h9 h11 v12 eh11) (va_cwS 1 hts gX6_spread_X6_isSpan rfl rfl rfl (by decide +kernel) ⟨Nat.le_of_ble_eq_true rfl, Nat.le_of_ble_eq_true rfl⟩) rfl hl.1 rfl (by first | exact Nat.le_of_ble_eq_true rfl | (simp only [List.map, hm_rf_cat, hm_ci, hm_cl, List.sum_cons, List.sum_nil] <;> decide)) dX6_spread_37 ⟨Nat.le_of_ble_eq_true rfl, Nat.le_of_ble_eq_true rfl⟩ (fun H locs hI => ?_)
          refine lv_if_eq (tgt := 69) hx hb dX6_spread_40 (by decide) (fun c => ?_) (fun c => ?_)
          · rw [if_pos c] at hf
            exact B69 (some t) a1 a2 a3 a4 a5 a6 a7 a8 a9 a10 h11 hf _ _ _ hI (lv_sub hl [0, 1, 2, 3, 4, 5, 6, 7, 8, 9, 10] rfl)
          · rw [if_neg c] at hf
            refine hm_aload_n hx hb dX6_spread_43 rfl (lv_at hl 0 rfl) ?_
            refine lv_iload hx hb dX6_spread_44 (lv_at hl 6 rfl) ?_
            refine lv_iload hx hb dX6_spread_46 (lv_at hl 9 rfl) ?_
            obtain ⟨b14, eb14, hf⟩ := hm_b_s hf
            obtain ⟨v15, h13, eh13, hf⟩ := hm_b2_s hf
            refine hm_cV (As := [.int a6, .int a9]) (rest := []) ⟨hx, hb, hml, hown, hts⟩ hK hI eb14 rfl rfl (kX6_fits l D kA b14 a6 a9 h11 h13 v15 eh13) (cwV 2 hts gX6_spread_X6_fits rfl rfl rfl (by decide +kernel) ⟨Nat.le_of_ble_eq_true rfl, Nat.le_of_ble_eq_true rfl⟩) rfl hl.1 rfl (by first | exact Nat.le_of_ble_eq_true rfl | (simp only [List.map, hm_rf_cat, hm_ci, hm_cl, List.sum_cons, List.sum_nil] <;> decide)) dX6_spread_48 ⟨Nat.le_of_ble_eq_true rfl, Nat.le_of_ble_eq_true rfl⟩ (fun H locs hI => ?_)
            refine lv_if_eq (tgt := 69) hx hb dX6_spread_51 (by decide) (fun c => ?_) (fun c => ?_)
            · rw [if_pos c] at hf
              exact B69 (some t) a1 a2 a3 a4 a5 a6 a7 a8 a9 a10 h13 hf _ _ _ hI (lv_sub hl [0, 1, 2, 3, 4, 5, 6, 7, 8, 9, 10] rfl)
            · rw [if_neg c] at hf
              refine hm_aload_n hx hb dX6_spread_54 rfl (lv_at hl 0 rfl) ?_
              refine lv_iload hx hb dX6_spread_55 (lv_at hl 6 rfl) ?_
              refine lv_iload hx hb dX6_spread_57 (lv_at hl 10 rfl) ?_
              obtain ⟨b17, eb17, hf⟩ := hm_b_s hf
              obtain ⟨v18, h16, eh16, hf⟩ := hm_b2_s hf
              refine hm_cV (As := [.int a6, .int a10]) (rest := []) ⟨hx, hb, hml, hown, hts⟩ hK hI eb17 rfl rfl (kX6_fits l D kA b17 a6 a10 h13 h16 v18 eh16) (cwV 2 hts gX6_spread_X6_fits rfl rfl rfl (by decide +kernel) ⟨Nat.le_of_ble_eq_true rfl, Nat.le_of_ble_eq_true rfl⟩) rfl hl.1 rfl (by first | exact Nat.le_of_ble_eq_true rfl | (simp only [List.map, hm_rf_cat, hm_ci, hm_cl, List.sum_cons, List.sum_nil] <;> decide)) dX6_spread_59 ⟨Nat.le_of_ble_eq_true rfl, Nat.le_of_ble_eq_true rfl⟩ (fun H locs hI => ?_)
              refine lv_if_eq (tgt := 69) hx hb dX6_spread_62 (by decide) (fun c => ?_) (fun c => ?_)
              · rw [if_pos c] at hf
                exact B69 (some t) a1 a2 a3 a4 a5 a6 a7 a8 a9 a10 h16 hf _ _ _ hI (lv_sub hl [0, 1, 2, 3, 4, 5, 6, 7, 8, 9, 10] rfl)
              · rw [if_neg c] at hf
                refine lv_iconst (v := (1 : Int32)) hx hb dX6_spread_65 (by decide) ?_
                refine lv_goto (tgt := 70) hx hb dX6_spread_66 (by decide) ?_
                exact B70 (some t) a1 a2 a3 a4 a5 a6 a7 a8 a9 a10 (1 : Int32) h16 hf _ _ _ hI (lv_sub hl [0, 1, 2, 3, 4, 5, 6, 7, 8, 9, 10] rfl)
/-! ==== X6_turn: BlitBoardModel.turn(II)I ==== -/
def fX6_turn_129 (K116 : Option Nat → Int32 → Int32 → hm_H → Option (Int32 × hm_H)) (K129 : Option Nat → Int32 → Int32 → Int32 → hm_H → Option (Int32 × hm_H)) (x0 : Option Nat) (x1 : Int32) (x3 : Int32) (x4 : Int32) (h : hm_H) : Option (Int32 × hm_H) :=
  hm_b (hm_gq 6 2 h x0) fun v21 =>
  hm_b (hm_ai 0 h v21 x1) fun v22 =>
  if v22 ≤ x4 then
    K116 x0 x1 (x3 + (1 : Int32)) h
  else
    hm_b (hm_gq 6 5 h x0) fun v23 =>
    hm_b (hm_gq 6 6 h x0) fun v24 =>
    hm_b (hm_ai 0 h v24 (((64 : Int32) * x3) + x4)) fun v25 =>
    hm_b (hm_si 0 h v23 ((((4096 : Int32) * x1) + ((64 : Int32) * x3)) + x4) v25) fun h26 =>
    K129 x0 x1 x3 (x4 + (1 : Int32)) h26
def fX6_turn_116 (K116 : Option Nat → Int32 → Int32 → hm_H → Option (Int32 × hm_H)) (x0 : Option Nat) (x1 : Int32) (x3 : Int32) (h : hm_H) : Option (Int32 × hm_H) :=
  hm_b (hm_gq 6 3 h x0) fun v6 =>
  hm_b (hm_ai 0 h v6 x1) fun v7 =>
  if v7 ≤ x3 then
    some ((1 : Int32), h)
  else
    hm_loop (fun _ _ _ _ _ => none) (fX6_turn_129 K116) hm_fu x0 x1 x3 (0 : Int32) h
def fX6_turn_101 (K34 : Option Nat → Int32 → Int32 → Int32 → Int32 → hm_H → Option (Int32 × hm_H)) (x0 : Option Nat) (x1 : Int32) (x2 : Int32) (x3 : Int32) (x4 : Int32) (s0 : Int32) (s1 : Int32) (s2 : Option Nat) (h : hm_H) : Option (Int32 × hm_H) :=
  hm_b (hm_si 0 h s2 s1 s0) fun h27 =>
  K34 x0 x1 x2 x3 (x4 + (1 : Int32)) h27
def fX6_turn_34 (K21 : Option Nat → Int32 → Int32 → Int32 → hm_H → Option (Int32 × hm_H)) (K34 : Option Nat → Int32 → Int32 → Int32 → Int32 → hm_H → Option (Int32 × hm_H)) (x0 : Option Nat) (x1 : Int32) (x2 : Int32) (x3 : Int32) (x4 : Int32) (h : hm_H) : Option (Int32 × hm_H) :=
  hm_b (hm_gq 6 2 h x0) fun v8 =>
  hm_b (hm_ai 0 h v8 x1) fun v9 =>
  if v9 ≤ x4 then
    K21 x0 x1 x2 (x3 + (1 : Int32)) h
  else
    hm_b (hm_gq 6 6 h x0) fun v10 =>
    if x2 = 0 then
      hm_b (hm_gq 6 2 h x0) fun v16 =>
      hm_b (hm_ai 0 h v16 x1) fun v17 =>
      hm_b (hm_rc 6 h x0) fun b19 =>
      hm_b2 (fX6_dot b19 x1 (((v17 - (1 : Int32)) - x4).toInt64) ((x3).toInt64) h) fun v20 h18 =>
      fX6_turn_101 K34 x0 x1 x2 x3 x4 v20 (((64 : Int32) * x3) + x4) v10 h18
    else
      hm_b (hm_gq 6 3 h x0) fun v11 =>
      hm_b (hm_ai 0 h v11 x1) fun v12 =>
      hm_b (hm_rc 6 h x0) fun b14 =>
      hm_b2 (fX6_dot b14 x1 ((x4).toInt64) (((v12 - (1 : Int32)) - x3).toInt64) h) fun v15 h13 =>
      fX6_turn_101 K34 x0 x1 x2 x3 x4 v15 (((64 : Int32) * x3) + x4) v10 h13
def fX6_turn_21 (K21 : Option Nat → Int32 → Int32 → Int32 → hm_H → Option (Int32 × hm_H)) (x0 : Option Nat) (x1 : Int32) (x2 : Int32) (x3 : Int32) (h : hm_H) : Option (Int32 × hm_H) :=
  hm_b (hm_gq 6 3 h x0) fun v4 =>
  hm_b (hm_ai 0 h v4 x1) fun v5 =>
  if v5 ≤ x3 then
    hm_loop (fun _ _ _ _ => none) (fX6_turn_116) hm_fu x0 x1 (0 : Int32) h
  else
    hm_loop (fun _ _ _ _ _ _ => none) (fX6_turn_34 K21) hm_fu x0 x1 x2 x3 (0 : Int32) h
def fX6_turn (t : Nat) (a1 : Int32) (a2 : Int32) (h0 : hm_H) : Option (Int32 × hm_H) :=
  hm_b (hm_rc 6 h0 (some t)) fun b2 =>
  hm_b2 (fX6_isSurface b2 a1 h0) fun v3 h1 =>
  if v3 = 0 then
    some ((0 : Int32), h1)
  else
    if a2 < 0 then
      some ((0 : Int32), h1)
    else
      if a2 ≤ (1 : Int32) then
        hm_loop (fun _ _ _ _ _ => none) (fX6_turn_21) hm_fu (some t) a1 a2 (0 : Int32) h1
      else
        some ((0 : Int32), h1)
set_option maxRecDepth 100000 in
set_option maxHeartbeats 8000000 in
theorem kX6_turn (l : Launch) (D : va_G) (kA : Nat → ClassId) (t : Nat) (a1 : Int32) (a2 : Int32) (h0 h' : hm_H) (r : Int32) (hf : fX6_turn t a1 a2 h0 = some (r, h')) : hm_C l yX6_turn wsX6_turn { frames := 2, cells := 0, slots := 0, locals := 50 } D vwCl kA (hm_ty kA) [.ref t, .int a1, .int a2] h0 (some (.int r)) h' 0 0 := by
  refine Met.ofW (cc := cX6_turn) (maxL := 5) (ret := (some .int)) (by decide) rfl ?_
  intro p e s m args below meth c s₁ B hml hv
  obtain ⟨hargs, hB⟩ := hv
  have hx := B.exec
  have hb := B.bytes
  have hr := B.returns
  have hts := atoms_spec (ws := wsX6_turn) B.pre
  have hown : s.vm.findClass RX6 = some m.cls := findClass_of_methodNamed B.named
  have hlocks := B.notSynchronized
  have hK := hB.2
  have hI := hm_start hB
  have w1 := hts (.fieldLink RX6 16 "BlitBoardModel" "highs" "[I") (by decide +kernel)
  have w2 := hts (.fieldLink RX6 13 "BlitBoardModel" "wides" "[I") (by decide +kernel)
  have w3 := hts (.fieldLink RX6 26 "BlitBoardModel" "fresh" "[I") (by decide +kernel)
  have w4 := hts (.fieldLink RX6 23 "BlitBoardModel" "dots" "[I") (by decide +kernel)
  have hiX6 : ∀ w ∈ wsX60, w ∈ wsX6_turn := by decide +kernel
  have B116 : ∀ (fu : Nat) (x0 : Option Nat) (x1 : Int32) (x3 : Int32) (h : hm_H), hm_loop (fun _ _ _ _ => none) (fX6_turn_116) fu x0 x1 x3 h = some (r, h') → ∀ (H : Heap) (locs : List Loc) (ls : Array Slot), hm_I D vwCl kA (hm_A h0) s.heap h H locs → lv_has ls 5 [(0, va_rf x0), (1, .int x1), (3, .int x3)] → W p l e (headSpec wsX6_turn { frames := 2, cells := 0, slots := 0, locals := 50 }).room s m args below meth c H locs 0 0 (MQ below (hm_Q D vwCl kA (hm_ty kA) h0 (some (.int r)) h') args s 0 0 (hm_A h0)) (F0 m 116 ls []) := by
    intro fu
    induction fu with
    | zero => intro x0 x1 x3 h hf; cases hf
    | succ fu ih116 =>
      rw [hm_loop_s]
      generalize hm_loop (fun _ _ _ _ => none) (fX6_turn_116) fu = K116 at ih116 ⊢
      have B129 : ∀ (fu : Nat) (x0 : Option Nat) (x1 : Int32) (x3 : Int32) (x4 : Int32) (h : hm_H), hm_loop (fun _ _ _ _ _ => none) (fX6_turn_129 K116) fu x0 x1 x3 x4 h = some (r, h') → ∀ (H : Heap) (locs : List Loc) (ls : Array Slot), hm_I D vwCl kA (hm_A h0) s.heap h H locs → lv_has ls 5 [(0, va_rf x0), (1, .int x1), (3, .int x3), (4, .int x4)] → W p l e (headSpec wsX6_turn { frames := 2, cells := 0, slots := 0, locals := 50 }).room s m args below meth c H locs 0 0 (MQ below (hm_Q D vwCl kA (hm_ty kA) h0 (some (.int r)) h') args s 0 0 (hm_A h0)) (F0 m 129 ls []) := by
        intro fu
        induction fu with
        | zero => intro x0 x1 x3 x4 h hf; cases hf
        | succ fu ih129 =>
          rw [hm_loop_s]
          generalize hm_loop (fun _ _ _ _ _ => none) (fX6_turn_129 K116) fu = K129 at ih129 ⊢
          intro x0 x1 x3 x4 h hf H locs ls hI hl
          unfold fX6_turn_129 at hf
          refine lv_iload hx hb dX6_turn_129 (lv_at hl 3 rfl) ?_
          refine hm_aload_n hx hb dX6_turn_131 rfl (lv_at hl 0 rfl) ?_
          obtain ⟨v21, ev21, hf⟩ := hm_b_s hf
          refine hm_get (ci := 6) (k := 2) (C := RX6) (T := TX6) (N := 16) hx hb hts hiX6 hown hK hI rfl (by decide) w2 (hm_gq_s ev21) dX6_turn_132 ?_
          refine lv_iload_n hx hb dX6_turn_135 rfl (lv_at hl 1 rfl) ?_
          obtain ⟨v22, ev22, hf⟩ := hm_b_s hf
          refine hm_iald (kd := 0) (t0 := 0) hx hb hK hI rfl ev22 dX6_turn_136 ?_
          refine lv_icmp_ge (tgt := 176) hx hb dX6_turn_137 (by decide) (fun c => ?_) (fun c => ?_)
          · rw [if_pos c] at hf
            refine lv_iinc (v := x3 + (1 : Int32)) (lv' := [(3, .int (x3 + (1 : Int32))), (0, va_rf x0), (1, .int x1), (4, .int x4)]) hx hb dX6_turn_176 hl (k := 2) rfl rfl (by decide) rfl (fun ls hl => ?_)
            refine lv_goto (tgt := 116) hx hb dX6_turn_179 (by decide) ?_
            exact ih116 x0 x1 (x3 + (1 : Int32)) h hf _ _ _ hI (lv_sub hl [1, 2, 0] rfl)
          · rw [if_neg c] at hf
            refine hm_aload_n hx hb dX6_turn_140 rfl (lv_at hl 0 rfl) ?_
            obtain ⟨v23, ev23, hf⟩ := hm_b_s hf
            refine hm_get (ci := 6) (k := 5) (C := RX6) (T := TX6) (N := 16) hx hb hts hiX6 hown hK hI rfl (by decide) w4 (hm_gq_s ev23) dX6_turn_141 ?_
            refine lv_sipush (v := (4096 : Int32)) hx hb dX6_turn_144 (by decide) ?_
            refine lv_iload_n hx hb dX6_turn_147 rfl (lv_at hl 1 rfl) ?_
            refine lv_imul hx hb dX6_turn_148 ?_
            refine lv_bipush (v := (64 : Int32)) hx hb dX6_turn_149 (by decide) ?_
            refine lv_iload_n hx hb dX6_turn_151 rfl (lv_at hl 2 rfl) ?_
            refine lv_imul hx hb dX6_turn_152 ?_
            refine lv_iadd hx hb dX6_turn_153 ?_
            refine lv_iload hx hb dX6_turn_154 (lv_at hl 3 rfl) ?_
            refine lv_iadd hx hb dX6_turn_156 ?_
            refine hm_aload_n hx hb dX6_turn_157 rfl (lv_at hl 0 rfl) ?_
            obtain ⟨v24, ev24, hf⟩ := hm_b_s hf
            refine hm_get (ci := 6) (k := 6) (C := RX6) (T := TX6) (N := 16) hx hb hts hiX6 hown hK hI rfl (by decide) w3 (hm_gq_s ev24) dX6_turn_158 ?_
            refine lv_bipush (v := (64 : Int32)) hx hb dX6_turn_161 (by decide) ?_
            refine lv_iload_n hx hb dX6_turn_163 rfl (lv_at hl 2 rfl) ?_
            refine lv_imul hx hb dX6_turn_164 ?_
            refine lv_iload hx hb dX6_turn_165 (lv_at hl 3 rfl) ?_
            refine lv_iadd hx hb dX6_turn_167 ?_
            obtain ⟨v25, ev25, hf⟩ := hm_b_s hf
            refine hm_iald (kd := 0) (t0 := 0) hx hb hK hI rfl ev25 dX6_turn_168 ?_
            obtain ⟨h26, eh26, hf⟩ := hm_b_s hf
            refine hm_iast (kd := 0) (t0 := 0) hx hb hK hI rfl eh26 dX6_turn_169 (fun H locs hI => ?_)
            refine lv_iinc (v := x4 + (1 : Int32)) (lv' := [(4, .int (x4 + (1 : Int32))), (0, va_rf x0), (1, .int x1), (3, .int x3)]) hx hb dX6_turn_170 hl (k := 3) rfl rfl (by decide) rfl (fun ls hl => ?_)
            refine lv_goto (tgt := 129) hx hb dX6_turn_173 (by decide) ?_
            exact ih129 x0 x1 x3 (x4 + (1 : Int32)) h26 hf _ _ _ hI (lv_sub hl [1, 2, 3, 0] rfl)
      intro x0 x1 x3 h hf H locs ls hI hl
      unfold fX6_turn_116 at hf
      refine lv_iload_n hx hb dX6_turn_116 rfl (lv_at hl 2 rfl) ?_
      refine hm_aload_n hx hb dX6_turn_117 rfl (lv_at hl 0 rfl) ?_
      obtain ⟨v6, ev6, hf⟩ := hm_b_s hf
      refine hm_get (ci := 6) (k := 3) (C := RX6) (T := TX6) (N := 16) hx hb hts hiX6 hown hK hI rfl (by decide) w1 (hm_gq_s ev6) dX6_turn_118 ?_
      refine lv_iload_n hx hb dX6_turn_121 rfl (lv_at hl 1 rfl) ?_
      obtain ⟨v7, ev7, hf⟩ := hm_b_s hf
      refine hm_iald (kd := 0) (t0 := 0) hx hb hK hI rfl ev7 dX6_turn_122 ?_
      refine lv_icmp_ge (tgt := 182) hx hb dX6_turn_123 (by decide) (fun c => ?_) (fun c => ?_)
      · rw [if_pos c] at hf
        refine lv_iconst (v := (1 : Int32)) hx hb dX6_turn_182 (by decide) ?_
        exact hm_iret_e hf hx hb hr hlocks hK hI (Nat.le_of_ble_eq_true rfl) (Nat.le_of_ble_eq_true rfl) dX6_turn_183
      · rw [if_neg c] at hf
        refine lv_iconst (v := (0 : Int32)) hx hb dX6_turn_126 (by decide) ?_
        refine lv_istore (lv' := [(4, .int (0 : Int32)), (0, va_rf x0), (1, .int x1), (3, .int x3)]) hx hb dX6_turn_127 hl (by decide) rfl (fun ls hl => ?_)
        exact B129 hm_fu x0 x1 x3 (0 : Int32) h hf _ _ _ hI (lv_sub hl [1, 2, 3, 0] rfl)
  have B21 : ∀ (fu : Nat) (x0 : Option Nat) (x1 : Int32) (x2 : Int32) (x3 : Int32) (h : hm_H), hm_loop (fun _ _ _ _ _ => none) (fX6_turn_21) fu x0 x1 x2 x3 h = some (r, h') → ∀ (H : Heap) (locs : List Loc) (ls : Array Slot), hm_I D vwCl kA (hm_A h0) s.heap h H locs → lv_has ls 5 [(0, va_rf x0), (1, .int x1), (2, .int x2), (3, .int x3)] → W p l e (headSpec wsX6_turn { frames := 2, cells := 0, slots := 0, locals := 50 }).room s m args below meth c H locs 0 0 (MQ below (hm_Q D vwCl kA (hm_ty kA) h0 (some (.int r)) h') args s 0 0 (hm_A h0)) (F0 m 21 ls []) := by
    intro fu
    induction fu with
    | zero => intro x0 x1 x2 x3 h hf; cases hf
    | succ fu ih21 =>
      rw [hm_loop_s]
      generalize hm_loop (fun _ _ _ _ _ => none) (fX6_turn_21) fu = K21 at ih21 ⊢
      have B34 : ∀ (fu : Nat) (x0 : Option Nat) (x1 : Int32) (x2 : Int32) (x3 : Int32) (x4 : Int32) (h : hm_H), hm_loop (fun _ _ _ _ _ _ => none) (fX6_turn_34 K21) fu x0 x1 x2 x3 x4 h = some (r, h') → ∀ (H : Heap) (locs : List Loc) (ls : Array Slot), hm_I D vwCl kA (hm_A h0) s.heap h H locs → lv_has ls 5 [(0, va_rf x0), (1, .int x1), (2, .int x2), (3, .int x3), (4, .int x4)] → W p l e (headSpec wsX6_turn { frames := 2, cells := 0, slots := 0, locals := 50 }).room s m args below meth c H locs 0 0 (MQ below (hm_Q D vwCl kA (hm_ty kA) h0 (some (.int r)) h') args s 0 0 (hm_A h0)) (F0 m 34 ls []) := by
        intro fu
        induction fu with
        | zero => intro x0 x1 x2 x3 x4 h hf; cases hf
        | succ fu ih34 =>
          rw [hm_loop_s]
          generalize hm_loop (fun _ _ _ _ _ _ => none) (fX6_turn_34 K21) fu = K34 at ih34 ⊢
          have B101 : ∀ (x0 : Option Nat) (x1 : Int32) (x2 : Int32) (x3 : Int32) (x4 : Int32) (s0 : Int32) (s1 : Int32) (s2 : Option Nat) (h : hm_H), fX6_turn_101 K34 x0 x1 x2 x3 x4 s0 s1 s2 h = some (r, h') → ∀ (H : Heap) (locs : List Loc) (ls : Array Slot), hm_I D vwCl kA (hm_A h0) s.heap h H locs → lv_has ls 5 [(0, va_rf x0), (1, .int x1), (2, .int x2), (3, .int x3), (4, .int x4)] → W p l e (headSpec wsX6_turn { frames := 2, cells := 0, slots := 0, locals := 50 }).room s m args below meth c H locs 0 0 (MQ below (hm_Q D vwCl kA (hm_ty kA) h0 (some (.int r)) h') args s 0 0 (hm_A h0)) (F0 m 101 ls [.int s0, .int s1, va_rf s2]) := by
            intro x0 x1 x2 x3 x4 s0 s1 s2 h hf H locs ls hI hl
            unfold fX6_turn_101 at hf
            obtain ⟨h27, eh27, hf⟩ := hm_b_s hf
            refine hm_iast (kd := 0) (t0 := 0) hx hb hK hI rfl eh27 dX6_turn_101 (fun H locs hI => ?_)
            refine lv_iinc (v := x4 + (1 : Int32)) (lv' := [(4, .int (x4 + (1 : Int32))), (0, va_rf x0), (1, .int x1), (2, .int x2), (3, .int x3)]) hx hb dX6_turn_102 hl (k := 4) rfl rfl (by decide) rfl (fun ls hl => ?_)
            refine lv_goto (tgt := 34) hx hb dX6_turn_105 (by decide) ?_
            exact ih34 x0 x1 x2 x3 (x4 + (1 : Int32)) h27 hf _ _ _ hI (lv_sub hl [1, 2, 3, 4, 0] rfl)
          intro x0 x1 x2 x3 x4 h hf H locs ls hI hl
          unfold fX6_turn_34 at hf
          refine lv_iload hx hb dX6_turn_34 (lv_at hl 4 rfl) ?_
          refine hm_aload_n hx hb dX6_turn_36 rfl (lv_at hl 0 rfl) ?_
          obtain ⟨v8, ev8, hf⟩ := hm_b_s hf
          refine hm_get (ci := 6) (k := 2) (C := RX6) (T := TX6) (N := 16) hx hb hts hiX6 hown hK hI rfl (by decide) w2 (hm_gq_s ev8) dX6_turn_37 ?_
          refine lv_iload_n hx hb dX6_turn_40 rfl (lv_at hl 1 rfl) ?_
          obtain ⟨v9, ev9, hf⟩ := hm_b_s hf
          refine hm_iald (kd := 0) (t0 := 0) hx hb hK hI rfl ev9 dX6_turn_41 ?_
          refine lv_icmp_ge (tgt := 108) hx hb dX6_turn_42 (by decide) (fun c => ?_) (fun c => ?_)
          · rw [if_pos c] at hf
            refine lv_iinc (v := x3 + (1 : Int32)) (lv' := [(3, .int (x3 + (1 : Int32))), (0, va_rf x0), (1, .int x1), (2, .int x2), (4, .int x4)]) hx hb dX6_turn_108 hl (k := 3) rfl rfl (by decide) rfl (fun ls hl => ?_)
            refine lv_goto (tgt := 21) hx hb dX6_turn_111 (by decide) ?_
            exact ih21 x0 x1 x2 (x3 + (1 : Int32)) h hf _ _ _ hI (lv_sub hl [1, 2, 3, 0] rfl)
          · rw [if_neg c] at hf
            refine hm_aload_n hx hb dX6_turn_45 rfl (lv_at hl 0 rfl) ?_
            obtain ⟨v10, ev10, hf⟩ := hm_b_s hf
            refine hm_get (ci := 6) (k := 6) (C := RX6) (T := TX6) (N := 16) hx hb hts hiX6 hown hK hI rfl (by decide) w3 (hm_gq_s ev10) dX6_turn_46 ?_
            refine lv_bipush (v := (64 : Int32)) hx hb dX6_turn_49 (by decide) ?_
            refine lv_iload_n hx hb dX6_turn_51 rfl (lv_at hl 3 rfl) ?_
            refine lv_imul hx hb dX6_turn_52 ?_
            refine lv_iload hx hb dX6_turn_53 (lv_at hl 4 rfl) ?_
            refine lv_iadd hx hb dX6_turn_55 ?_
            refine lv_iload_n hx hb dX6_turn_56 rfl (lv_at hl 2 rfl) ?_
            refine lv_if_ne (tgt := 82) hx hb dX6_turn_57 (by decide) (fun c => ?_) (fun c => ?_)
            · rw [if_neg c] at hf
              refine hm_aload_n hx hb dX6_turn_82 rfl (lv_at hl 0 rfl) ?_
              refine lv_iload_n hx hb dX6_turn_83 rfl (lv_at hl 1 rfl) ?_
              refine lv_iload hx hb dX6_turn_84 (lv_at hl 4 rfl) ?_
              refine lv_i2l (v := (x4).toInt64) hx hb dX6_turn_86 rfl ?_
              refine hm_aload_n hx hb dX6_turn_87 rfl (lv_at hl 0 rfl) ?_
              obtain ⟨v11, ev11, hf⟩ := hm_b_s hf
              refine hm_get (ci := 6) (k := 3) (C := RX6) (T := TX6) (N := 16) hx hb hts hiX6 hown hK hI rfl (by decide) w1 (hm_gq_s ev11) dX6_turn_88 ?_
              refine lv_iload_n hx hb dX6_turn_91 rfl (lv_at hl 1 rfl) ?_
              obtain ⟨v12, ev12, hf⟩ := hm_b_s hf
              refine hm_iald (kd := 0) (t0 := 0) hx hb hK hI rfl ev12 dX6_turn_92 ?_
              refine lv_iconst (v := (1 : Int32)) hx hb dX6_turn_93 (by decide) ?_
              refine lv_isub hx hb dX6_turn_94 ?_
              refine lv_iload_n hx hb dX6_turn_95 rfl (lv_at hl 3 rfl) ?_
              refine lv_isub hx hb dX6_turn_96 ?_
              refine lv_i2l (v := ((v12 - (1 : Int32)) - x3).toInt64) hx hb dX6_turn_97 rfl ?_
              obtain ⟨b14, eb14, hf⟩ := hm_b_s hf
              obtain ⟨v15, h13, eh13, hf⟩ := hm_b2_s hf
              refine hm_cV (As := [.int x1, .long ((x4).toInt64), .long (((v12 - (1 : Int32)) - x3).toInt64)]) (rest := [.int (((64 : Int32) * x3) + x4), va_rf v10]) ⟨hx, hb, hml, hown, hts⟩ hK hI eb14 rfl rfl (kX6_dot l D kA b14 x1 ((x4).toInt64) (((v12 - (1 : Int32)) - x3).toInt64) h h13 v15 eh13) (cwV 3 hts gX6_turn_X6_dot rfl rfl rfl (by decide +kernel) ⟨Nat.le_of_ble_eq_true rfl, Nat.le_of_ble_eq_true rfl⟩) rfl hl.1 rfl (by first | exact Nat.le_of_ble_eq_true rfl | (simp only [List.map, hm_rf_cat, hm_ci, hm_cl, List.sum_cons, List.sum_nil] <;> decide)) dX6_turn_98 ⟨Nat.le_of_ble_eq_true rfl, Nat.le_of_ble_eq_true rfl⟩ (fun H locs hI => ?_)
              exact B101 x0 x1 x2 x3 x4 v15 (((64 : Int32) * x3) + x4) v10 h13 hf _ _ _ hI (lv_sub hl [0, 1, 2, 3, 4] rfl)
            · rw [if_pos c] at hf
              refine hm_aload_n hx hb dX6_turn_60 rfl (lv_at hl 0 rfl) ?_
              refine lv_iload_n hx hb dX6_turn_61 rfl (lv_at hl 1 rfl) ?_
              refine hm_aload_n hx hb dX6_turn_62 rfl (lv_at hl 0 rfl) ?_
              obtain ⟨v16, ev16, hf⟩ := hm_b_s hf
              refine hm_get (ci := 6) (k := 2) (C := RX6) (T := TX6) (N := 16) hx hb hts hiX6 hown hK hI rfl (by decide) w2 (hm_gq_s ev16) dX6_turn_63 ?_
              refine lv_iload_n hx hb dX6_turn_66 rfl (lv_at hl 1 rfl) ?_
              obtain ⟨v17, ev17, hf⟩ := hm_b_s hf
              refine hm_iald (kd := 0) (t0 := 0) hx hb hK hI rfl ev17 dX6_turn_67 ?_
              refine lv_iconst (v := (1 : Int32)) hx hb dX6_turn_68 (by decide) ?_
              refine lv_isub hx hb dX6_turn_69 ?_
              refine lv_iload hx hb dX6_turn_70 (lv_at hl 4 rfl) ?_
              refine lv_isub hx hb dX6_turn_72 ?_
              refine lv_i2l (v := ((v17 - (1 : Int32)) - x4).toInt64) hx hb dX6_turn_73 rfl ?_
              refine lv_iload_n hx hb dX6_turn_74 rfl (lv_at hl 3 rfl) ?_
              refine lv_i2l (v := (x3).toInt64) hx hb dX6_turn_75 rfl ?_
              obtain ⟨b19, eb19, hf⟩ := hm_b_s hf
              obtain ⟨v20, h18, eh18, hf⟩ := hm_b2_s hf
              refine hm_cV (As := [.int x1, .long (((v17 - (1 : Int32)) - x4).toInt64), .long ((x3).toInt64)]) (rest := [.int (((64 : Int32) * x3) + x4), va_rf v10]) ⟨hx, hb, hml, hown, hts⟩ hK hI eb19 rfl rfl (kX6_dot l D kA b19 x1 (((v17 - (1 : Int32)) - x4).toInt64) ((x3).toInt64) h h18 v20 eh18) (cwV 3 hts gX6_turn_X6_dot rfl rfl rfl (by decide +kernel) ⟨Nat.le_of_ble_eq_true rfl, Nat.le_of_ble_eq_true rfl⟩) rfl hl.1 rfl (by first | exact Nat.le_of_ble_eq_true rfl | (simp only [List.map, hm_rf_cat, hm_ci, hm_cl, List.sum_cons, List.sum_nil] <;> decide)) dX6_turn_76 ⟨Nat.le_of_ble_eq_true rfl, Nat.le_of_ble_eq_true rfl⟩ (fun H locs hI => ?_)
              refine lv_goto (tgt := 101) hx hb dX6_turn_79 (by decide) ?_
              exact B101 x0 x1 x2 x3 x4 v20 (((64 : Int32) * x3) + x4) v10 h18 hf _ _ _ hI (lv_sub hl [0, 1, 2, 3, 4] rfl)
      intro x0 x1 x2 x3 h hf H locs ls hI hl
      unfold fX6_turn_21 at hf
      refine lv_iload_n hx hb dX6_turn_21 rfl (lv_at hl 3 rfl) ?_
      refine hm_aload_n hx hb dX6_turn_22 rfl (lv_at hl 0 rfl) ?_
      obtain ⟨v4, ev4, hf⟩ := hm_b_s hf
      refine hm_get (ci := 6) (k := 3) (C := RX6) (T := TX6) (N := 16) hx hb hts hiX6 hown hK hI rfl (by decide) w1 (hm_gq_s ev4) dX6_turn_23 ?_
      refine lv_iload_n hx hb dX6_turn_26 rfl (lv_at hl 1 rfl) ?_
      obtain ⟨v5, ev5, hf⟩ := hm_b_s hf
      refine hm_iald (kd := 0) (t0 := 0) hx hb hK hI rfl ev5 dX6_turn_27 ?_
      refine lv_icmp_ge (tgt := 114) hx hb dX6_turn_28 (by decide) (fun c => ?_) (fun c => ?_)
      · rw [if_pos c] at hf
        refine lv_iconst (v := (0 : Int32)) hx hb dX6_turn_114 (by decide) ?_
        refine lv_istore_n (lv' := [(3, .int (0 : Int32)), (0, va_rf x0), (1, .int x1), (2, .int x2)]) hx hb dX6_turn_115 rfl hl (by decide) rfl (fun ls hl => ?_)
        exact B116 hm_fu x0 x1 (0 : Int32) h hf _ _ _ hI (lv_sub hl [1, 2, 0] rfl)
      · rw [if_neg c] at hf
        refine lv_iconst (v := (0 : Int32)) hx hb dX6_turn_31 (by decide) ?_
        refine lv_istore (lv' := [(4, .int (0 : Int32)), (0, va_rf x0), (1, .int x1), (2, .int x2), (3, .int x3)]) hx hb dX6_turn_32 hl (by decide) rfl (fun ls hl => ?_)
        exact B34 hm_fu x0 x1 x2 x3 (0 : Int32) h hf _ _ _ hI (lv_sub hl [1, 2, 3, 4, 0] rfl)
  rw [show entryFrame m args 5 = entryFrame m ([.ref t, .int a1, .int a2] : List Value).toArray 5 from by rw [hargs]]
  have hl := lv_entry ([.ref t, .int a1, .int a2]) (n := 5) (Nat.le_of_ble_eq_true rfl)
  rw [lg_entry_eq]
  generalize (lg_sl ([.ref t, .int a1, .int a2]) ++ List.replicate (5 - (lg_sl ([.ref t, .int a1, .int a2])).length) Slot.unset).toArray = ls at hl ⊢
  have hl : lv_has ls 5 [(0, va_rf (some t)), (1, .int a1), (2, .int a2)] := hl
  unfold fX6_turn at hf
  refine hm_aload_n hx hb dX6_turn_0 rfl (lv_at hl 0 rfl) ?_
  refine lv_iload_n hx hb dX6_turn_1 rfl (lv_at hl 1 rfl) ?_
  obtain ⟨b2, eb2, hf⟩ := hm_b_s hf
  obtain ⟨v3, h1, eh1, hf⟩ := hm_b2_s hf
  refine hm_cV (As := [.int a1]) (rest := []) ⟨hx, hb, hml, hown, hts⟩ hK hI eb2 rfl rfl (kX6_isSurface l D kA b2 a1 h0 h1 v3 eh1) (cwV 1 hts gX6_turn_X6_isSurface rfl rfl rfl (by decide +kernel) ⟨Nat.le_of_ble_eq_true rfl, Nat.le_of_ble_eq_true rfl⟩) rfl hl.1 rfl (by first | exact Nat.le_of_ble_eq_true rfl | (simp only [List.map, hm_rf_cat, hm_ci, hm_cl, List.sum_cons, List.sum_nil] <;> decide)) dX6_turn_2 ⟨Nat.le_of_ble_eq_true rfl, Nat.le_of_ble_eq_true rfl⟩ (fun H locs hI => ?_)
  refine lv_if_eq (tgt := 17) hx hb dX6_turn_5 (by decide) (fun c => ?_) (fun c => ?_)
  · rw [if_pos c] at hf
    refine lv_iconst (v := (0 : Int32)) hx hb dX6_turn_17 (by decide) ?_
    exact hm_iret_e hf hx hb hr hlocks hK hI (Nat.le_of_ble_eq_true rfl) (Nat.le_of_ble_eq_true rfl) dX6_turn_18
  · rw [if_neg c] at hf
    refine lv_iload_n hx hb dX6_turn_8 rfl (lv_at hl 2 rfl) ?_
    refine lv_if_lt (tgt := 17) hx hb dX6_turn_9 (by decide) (fun c => ?_) (fun c => ?_)
    · rw [if_pos c] at hf
      refine lv_iconst (v := (0 : Int32)) hx hb dX6_turn_17 (by decide) ?_
      exact hm_iret_e hf hx hb hr hlocks hK hI (Nat.le_of_ble_eq_true rfl) (Nat.le_of_ble_eq_true rfl) dX6_turn_18
    · rw [if_neg c] at hf
      refine lv_iload_n hx hb dX6_turn_12 rfl (lv_at hl 2 rfl) ?_
      refine lv_iconst (v := (1 : Int32)) hx hb dX6_turn_13 (by decide) ?_
      refine lv_icmp_le (tgt := 19) hx hb dX6_turn_14 (by decide) (fun c => ?_) (fun c => ?_)
      · rw [if_pos c] at hf
        refine lv_iconst (v := (0 : Int32)) hx hb dX6_turn_19 (by decide) ?_
        refine lv_istore_n (lv' := [(3, .int (0 : Int32)), (0, va_rf (some t)), (1, .int a1), (2, .int a2)]) hx hb dX6_turn_20 rfl hl (by decide) rfl (fun ls hl => ?_)
        exact B21 hm_fu (some t) a1 a2 (0 : Int32) h1 hf _ _ _ hI (lv_sub hl [1, 2, 3, 0] rfl)
      · rw [if_neg c] at hf
        refine lv_iconst (v := (0 : Int32)) hx hb dX6_turn_17 (by decide) ?_
        exact hm_iret_e hf hx hb hr hlocks hK hI (Nat.le_of_ble_eq_true rfl) (Nat.le_of_ble_eq_true rfl) dX6_turn_18
/-! ==== X6_count: BlitBoardModel.count(II)I ==== -/
def fX6_count_61 (K29 : Option Nat → Int32 → Int32 → Int32 → Int32 → Int32 → hm_H → Option (Int32 × hm_H)) (x0 : Option Nat) (x1 : Int32) (x2 : Int32) (x4 : Int32) (x5 : Int32) (s0 : Int32) (s1 : Int32) (h : hm_H) : Option (Int32 × hm_H) :=
  hm_let (s1 + s0) fun v11 =>
  K29 x0 x1 x2 v11 x4 (x5 + (1 : Int32)) h
def fX6_count_29 (K15 : Option Nat → Int32 → Int32 → Int32 → Int32 → hm_H → Option (Int32 × hm_H)) (K29 : Option Nat → Int32 → Int32 → Int32 → Int32 → Int32 → hm_H → Option (Int32 × hm_H)) (x0 : Option Nat) (x1 : Int32) (x2 : Int32) (x3 : Int32) (x4 : Int32) (x5 : Int32) (h : hm_H) : Option (Int32 × hm_H) :=
  hm_b (hm_gq 6 2 h x0) fun v6 =>
  hm_b (hm_ai 0 h v6 x1) fun v7 =>
  if v7 ≤ x5 then
    K15 x0 x1 x2 x3 (x4 + (1 : Int32)) h
  else
    hm_b (hm_rc 6 h x0) fun b9 =>
    hm_b2 (fX6_dot b9 x1 ((x5).toInt64) ((x4).toInt64) h) fun v10 h8 =>
    if v10 = x2 then
      fX6_count_61 K29 x0 x1 x2 x4 x5 (1 : Int32) x3 h8
    else
      fX6_count_61 K29 x0 x1 x2 x4 x5 (0 : Int32) x3 h8
def fX6_count_15 (K15 : Option Nat → Int32 → Int32 → Int32 → Int32 → hm_H → Option (Int32 × hm_H)) (x0 : Option Nat) (x1 : Int32) (x2 : Int32) (x3 : Int32) (x4 : Int32) (h : hm_H) : Option (Int32 × hm_H) :=
  hm_b (hm_gq 6 3 h x0) fun v4 =>
  hm_b (hm_ai 0 h v4 x1) fun v5 =>
  if v5 ≤ x4 then
    some (x3, h)
  else
    hm_loop (fun _ _ _ _ _ _ _ => none) (fX6_count_29 K15) hm_fu x0 x1 x2 x3 x4 (0 : Int32) h
def fX6_count (t : Nat) (a1 : Int32) (a2 : Int32) (h0 : hm_H) : Option (Int32 × hm_H) :=
  hm_b (hm_rc 6 h0 (some t)) fun b2 =>
  hm_b2 (fX6_isSurface b2 a1 h0) fun v3 h1 =>
  if v3 = 0 then
    some ((-1 : Int32), h1)
  else
    hm_loop (fun _ _ _ _ _ _ => none) (fX6_count_15) hm_fu (some t) a1 a2 (0 : Int32) (0 : Int32) h1
set_option maxRecDepth 100000 in
set_option maxHeartbeats 8000000 in
theorem kX6_count (l : Launch) (D : va_G) (kA : Nat → ClassId) (t : Nat) (a1 : Int32) (a2 : Int32) (h0 h' : hm_H) (r : Int32) (hf : fX6_count t a1 a2 h0 = some (r, h')) : hm_C l yX6_count wsX6_count { frames := 2, cells := 0, slots := 0, locals := 50 } D vwCl kA (hm_ty kA) [.ref t, .int a1, .int a2] h0 (some (.int r)) h' 0 0 := by
  refine Met.ofW (cc := cX6_count) (maxL := 6) (ret := (some .int)) (by decide) rfl ?_
  intro p e s m args below meth c s₁ B hml hv
  obtain ⟨hargs, hB⟩ := hv
  have hx := B.exec
  have hb := B.bytes
  have hr := B.returns
  have hts := atoms_spec (ws := wsX6_count) B.pre
  have hown : s.vm.findClass RX6 = some m.cls := findClass_of_methodNamed B.named
  have hlocks := B.notSynchronized
  have hK := hB.2
  have hI := hm_start hB
  have w1 := hts (.fieldLink RX6 16 "BlitBoardModel" "highs" "[I") (by decide +kernel)
  have w2 := hts (.fieldLink RX6 13 "BlitBoardModel" "wides" "[I") (by decide +kernel)
  have hiX6 : ∀ w ∈ wsX60, w ∈ wsX6_count := by decide +kernel
  have B15 : ∀ (fu : Nat) (x0 : Option Nat) (x1 : Int32) (x2 : Int32) (x3 : Int32) (x4 : Int32) (h : hm_H), hm_loop (fun _ _ _ _ _ _ => none) (fX6_count_15) fu x0 x1 x2 x3 x4 h = some (r, h') → ∀ (H : Heap) (locs : List Loc) (ls : Array Slot), hm_I D vwCl kA (hm_A h0) s.heap h H locs → lv_has ls 6 [(0, va_rf x0), (1, .int x1), (2, .int x2), (3, .int x3), (4, .int x4)] → W p l e (headSpec wsX6_count { frames := 2, cells := 0, slots := 0, locals := 50 }).room s m args below meth c H locs 0 0 (MQ below (hm_Q D vwCl kA (hm_ty kA) h0 (some (.int r)) h') args s 0 0 (hm_A h0)) (F0 m 15 ls []) := by
    intro fu
    induction fu with
    | zero => intro x0 x1 x2 x3 x4 h hf; cases hf
    | succ fu ih15 =>
      rw [hm_loop_s]
      generalize hm_loop (fun _ _ _ _ _ _ => none) (fX6_count_15) fu = K15 at ih15 ⊢
      have B29 : ∀ (fu : Nat) (x0 : Option Nat) (x1 : Int32) (x2 : Int32) (x3 : Int32) (x4 : Int32) (x5 : Int32) (h : hm_H), hm_loop (fun _ _ _ _ _ _ _ => none) (fX6_count_29 K15) fu x0 x1 x2 x3 x4 x5 h = some (r, h') → ∀ (H : Heap) (locs : List Loc) (ls : Array Slot), hm_I D vwCl kA (hm_A h0) s.heap h H locs → lv_has ls 6 [(0, va_rf x0), (1, .int x1), (2, .int x2), (3, .int x3), (4, .int x4), (5, .int x5)] → W p l e (headSpec wsX6_count { frames := 2, cells := 0, slots := 0, locals := 50 }).room s m args below meth c H locs 0 0 (MQ below (hm_Q D vwCl kA (hm_ty kA) h0 (some (.int r)) h') args s 0 0 (hm_A h0)) (F0 m 29 ls []) := by
        intro fu
        induction fu with
        | zero => intro x0 x1 x2 x3 x4 x5 h hf; cases hf
        | succ fu ih29 =>
          rw [hm_loop_s]
          generalize hm_loop (fun _ _ _ _ _ _ _ => none) (fX6_count_29 K15) fu = K29 at ih29 ⊢
          have B61 : ∀ (x0 : Option Nat) (x1 : Int32) (x2 : Int32) (x4 : Int32) (x5 : Int32) (s0 : Int32) (s1 : Int32) (h : hm_H), fX6_count_61 K29 x0 x1 x2 x4 x5 s0 s1 h = some (r, h') → ∀ (H : Heap) (locs : List Loc) (ls : Array Slot), hm_I D vwCl kA (hm_A h0) s.heap h H locs → lv_has ls 6 [(0, va_rf x0), (1, .int x1), (2, .int x2), (4, .int x4), (5, .int x5)] → W p l e (headSpec wsX6_count { frames := 2, cells := 0, slots := 0, locals := 50 }).room s m args below meth c H locs 0 0 (MQ below (hm_Q D vwCl kA (hm_ty kA) h0 (some (.int r)) h') args s 0 0 (hm_A h0)) (F0 m 61 ls [.int s0, .int s1]) := by
            intro x0 x1 x2 x4 x5 s0 s1 h hf H locs ls hI hl
            unfold fX6_count_61 at hf
            refine lv_iadd hx hb dX6_count_61 ?_
            obtain ⟨v11, ev11, hf⟩ := hm_let_s hf
            refine hm_ti ev11 ?_
            refine lv_istore_n (lv' := [(3, .int v11), (0, va_rf x0), (1, .int x1), (2, .int x2), (4, .int x4), (5, .int x5)]) hx hb dX6_count_62 rfl hl (by decide) rfl (fun ls hl => ?_)
            refine lv_iinc (v := x5 + (1 : Int32)) (lv' := [(5, .int (x5 + (1 : Int32))), (3, .int v11), (0, va_rf x0), (1, .int x1), (2, .int x2), (4, .int x4)]) hx hb dX6_count_63 hl (k := 5) rfl rfl (by decide) rfl (fun ls hl => ?_)
            refine lv_goto (tgt := 29) hx hb dX6_count_66 (by decide) ?_
            exact ih29 x0 x1 x2 v11 x4 (x5 + (1 : Int32)) h hf _ _ _ hI (lv_sub hl [2, 3, 4, 1, 5, 0] rfl)
          intro x0 x1 x2 x3 x4 x5 h hf H locs ls hI hl
          unfold fX6_count_29 at hf
          refine lv_iload hx hb dX6_count_29 (lv_at hl 5 rfl) ?_
          refine hm_aload_n hx hb dX6_count_31 rfl (lv_at hl 0 rfl) ?_
          obtain ⟨v6, ev6, hf⟩ := hm_b_s hf
          refine hm_get (ci := 6) (k := 2) (C := RX6) (T := TX6) (N := 16) hx hb hts hiX6 hown hK hI rfl (by decide) w2 (hm_gq_s ev6) dX6_count_32 ?_
          refine lv_iload_n hx hb dX6_count_35 rfl (lv_at hl 1 rfl) ?_
          obtain ⟨v7, ev7, hf⟩ := hm_b_s hf
          refine hm_iald (kd := 0) (t0 := 0) hx hb hK hI rfl ev7 dX6_count_36 ?_
          refine lv_icmp_ge (tgt := 69) hx hb dX6_count_37 (by decide) (fun c => ?_) (fun c => ?_)
          · rw [if_pos c] at hf
            refine lv_iinc (v := x4 + (1 : Int32)) (lv' := [(4, .int (x4 + (1 : Int32))), (0, va_rf x0), (1, .int x1), (2, .int x2), (3, .int x3), (5, .int x5)]) hx hb dX6_count_69 hl (k := 4) rfl rfl (by decide) rfl (fun ls hl => ?_)
            refine lv_goto (tgt := 15) hx hb dX6_count_72 (by decide) ?_
            exact ih15 x0 x1 x2 x3 (x4 + (1 : Int32)) h hf _ _ _ hI (lv_sub hl [1, 2, 3, 4, 0] rfl)
          · rw [if_neg c] at hf
            refine lv_iload_n hx hb dX6_count_40 rfl (lv_at hl 3 rfl) ?_
            refine hm_aload_n hx hb dX6_count_41 rfl (lv_at hl 0 rfl) ?_
            refine lv_iload_n hx hb dX6_count_42 rfl (lv_at hl 1 rfl) ?_
            refine lv_iload hx hb dX6_count_43 (lv_at hl 5 rfl) ?_
            refine lv_i2l (v := (x5).toInt64) hx hb dX6_count_45 rfl ?_
            refine lv_iload hx hb dX6_count_46 (lv_at hl 4 rfl) ?_
            refine lv_i2l (v := (x4).toInt64) hx hb dX6_count_48 rfl ?_
            obtain ⟨b9, eb9, hf⟩ := hm_b_s hf
            obtain ⟨v10, h8, eh8, hf⟩ := hm_b2_s hf
            refine hm_cV (As := [.int x1, .long ((x5).toInt64), .long ((x4).toInt64)]) (rest := [.int x3]) ⟨hx, hb, hml, hown, hts⟩ hK hI eb9 rfl rfl (kX6_dot l D kA b9 x1 ((x5).toInt64) ((x4).toInt64) h h8 v10 eh8) (cwV 3 hts gX6_count_X6_dot rfl rfl rfl (by decide +kernel) ⟨Nat.le_of_ble_eq_true rfl, Nat.le_of_ble_eq_true rfl⟩) rfl hl.1 rfl (by first | exact Nat.le_of_ble_eq_true rfl | (simp only [List.map, hm_rf_cat, hm_ci, hm_cl, List.sum_cons, List.sum_nil] <;> decide)) dX6_count_49 ⟨Nat.le_of_ble_eq_true rfl, Nat.le_of_ble_eq_true rfl⟩ (fun H locs hI => ?_)
            refine lv_iload_n hx hb dX6_count_52 rfl (lv_at hl 2 rfl) ?_
            refine lv_icmp_ne (tgt := 60) hx hb dX6_count_53 (by decide) (fun c => ?_) (fun c => ?_)
            · rw [if_neg c] at hf
              refine lv_iconst (v := (0 : Int32)) hx hb dX6_count_60 (by decide) ?_
              exact B61 x0 x1 x2 x4 x5 (0 : Int32) x3 h8 hf _ _ _ hI (lv_sub hl [0, 1, 2, 4, 5] rfl)
            · rw [if_pos c] at hf
              refine lv_iconst (v := (1 : Int32)) hx hb dX6_count_56 (by decide) ?_
              refine lv_goto (tgt := 61) hx hb dX6_count_57 (by decide) ?_
              exact B61 x0 x1 x2 x4 x5 (1 : Int32) x3 h8 hf _ _ _ hI (lv_sub hl [0, 1, 2, 4, 5] rfl)
      intro x0 x1 x2 x3 x4 h hf H locs ls hI hl
      unfold fX6_count_15 at hf
      refine lv_iload hx hb dX6_count_15 (lv_at hl 4 rfl) ?_
      refine hm_aload_n hx hb dX6_count_17 rfl (lv_at hl 0 rfl) ?_
      obtain ⟨v4, ev4, hf⟩ := hm_b_s hf
      refine hm_get (ci := 6) (k := 3) (C := RX6) (T := TX6) (N := 16) hx hb hts hiX6 hown hK hI rfl (by decide) w1 (hm_gq_s ev4) dX6_count_18 ?_
      refine lv_iload_n hx hb dX6_count_21 rfl (lv_at hl 1 rfl) ?_
      obtain ⟨v5, ev5, hf⟩ := hm_b_s hf
      refine hm_iald (kd := 0) (t0 := 0) hx hb hK hI rfl ev5 dX6_count_22 ?_
      refine lv_icmp_ge (tgt := 75) hx hb dX6_count_23 (by decide) (fun c => ?_) (fun c => ?_)
      · rw [if_pos c] at hf
        refine lv_iload_n hx hb dX6_count_75 rfl (lv_at hl 3 rfl) ?_
        exact hm_iret_e hf hx hb hr hlocks hK hI (Nat.le_of_ble_eq_true rfl) (Nat.le_of_ble_eq_true rfl) dX6_count_76
      · rw [if_neg c] at hf
        refine lv_iconst (v := (0 : Int32)) hx hb dX6_count_26 (by decide) ?_
        refine lv_istore (lv' := [(5, .int (0 : Int32)), (0, va_rf x0), (1, .int x1), (2, .int x2), (3, .int x3), (4, .int x4)]) hx hb dX6_count_27 hl (by decide) rfl (fun ls hl => ?_)
        exact B29 hm_fu x0 x1 x2 x3 x4 (0 : Int32) h hf _ _ _ hI (lv_sub hl [1, 2, 3, 4, 5, 0] rfl)
  rw [show entryFrame m args 6 = entryFrame m ([.ref t, .int a1, .int a2] : List Value).toArray 6 from by rw [hargs]]
  have hl := lv_entry ([.ref t, .int a1, .int a2]) (n := 6) (Nat.le_of_ble_eq_true rfl)
  rw [lg_entry_eq]
  generalize (lg_sl ([.ref t, .int a1, .int a2]) ++ List.replicate (6 - (lg_sl ([.ref t, .int a1, .int a2])).length) Slot.unset).toArray = ls at hl ⊢
  have hl : lv_has ls 6 [(0, va_rf (some t)), (1, .int a1), (2, .int a2)] := hl
  unfold fX6_count at hf
  refine hm_aload_n hx hb dX6_count_0 rfl (lv_at hl 0 rfl) ?_
  refine lv_iload_n hx hb dX6_count_1 rfl (lv_at hl 1 rfl) ?_
  obtain ⟨b2, eb2, hf⟩ := hm_b_s hf
  obtain ⟨v3, h1, eh1, hf⟩ := hm_b2_s hf
  refine hm_cV (As := [.int a1]) (rest := []) ⟨hx, hb, hml, hown, hts⟩ hK hI eb2 rfl rfl (kX6_isSurface l D kA b2 a1 h0 h1 v3 eh1) (cwV 1 hts gX6_count_X6_isSurface rfl rfl rfl (by decide +kernel) ⟨Nat.le_of_ble_eq_true rfl, Nat.le_of_ble_eq_true rfl⟩) rfl hl.1 rfl (by first | exact Nat.le_of_ble_eq_true rfl | (simp only [List.map, hm_rf_cat, hm_ci, hm_cl, List.sum_cons, List.sum_nil] <;> decide)) dX6_count_2 ⟨Nat.le_of_ble_eq_true rfl, Nat.le_of_ble_eq_true rfl⟩ (fun H locs hI => ?_)
  refine lv_if_ne (tgt := 10) hx hb dX6_count_5 (by decide) (fun c => ?_) (fun c => ?_)
  · rw [if_neg c] at hf
    refine lv_iconst (v := (0 : Int32)) hx hb dX6_count_10 (by decide) ?_
    refine lv_istore_n (lv' := [(3, .int (0 : Int32)), (0, va_rf (some t)), (1, .int a1), (2, .int a2)]) hx hb dX6_count_11 rfl hl (by decide) rfl (fun ls hl => ?_)
    refine lv_iconst (v := (0 : Int32)) hx hb dX6_count_12 (by decide) ?_
    refine lv_istore (lv' := [(4, .int (0 : Int32)), (3, .int (0 : Int32)), (0, va_rf (some t)), (1, .int a1), (2, .int a2)]) hx hb dX6_count_13 hl (by decide) rfl (fun ls hl => ?_)
    exact B15 hm_fu (some t) a1 a2 (0 : Int32) (0 : Int32) h1 hf _ _ _ hI (lv_sub hl [2, 3, 4, 1, 0] rfl)
  · rw [if_pos c] at hf
    refine lv_iconst (v := (-1 : Int32)) hx hb dX6_count_8 (by decide) ?_
    exact hm_iret_e hf hx hb hr hlocks hK hI (Nat.le_of_ble_eq_true rfl) (Nat.le_of_ble_eq_true rfl) dX6_count_9
/-! ==== X6_isSprite: BlitBoardModel.isSprite(I)Z ==== -/
def fX6_isSprite (t : Nat) (a1 : Int32) (h0 : hm_H) : Option (Int32 × hm_H) :=
  if a1 < 0 then
    some ((0 : Int32), h0)
  else
    if (4 : Int32) ≤ a1 then
      some ((0 : Int32), h0)
    else
      some ((1 : Int32), h0)
set_option maxRecDepth 100000 in
set_option maxHeartbeats 8000000 in
theorem kX6_isSprite (l : Launch) (D : va_G) (kA : Nat → ClassId) (t : Nat) (a1 : Int32) (h0 h' : hm_H) (r : Int32) (hf : fX6_isSprite t a1 h0 = some (r, h')) : hm_C l yX6_isSprite wsX6_isSprite { frames := 0, cells := 0, slots := 0, locals := 0 } D vwCl kA (hm_ty kA) [.ref t, .int a1] h0 (some (.int r)) h' 0 0 := by
  refine Met.ofW (cc := cX6_isSprite) (maxL := 2) (ret := (some .boolean)) (by decide) rfl ?_
  intro p e s m args below meth c s₁ B hml hv
  obtain ⟨hargs, hB⟩ := hv
  have hx := B.exec
  have hb := B.bytes
  have hr := B.returns
  have hts := atoms_spec (ws := wsX6_isSprite) B.pre
  have hown : s.vm.findClass RX6 = some m.cls := findClass_of_methodNamed B.named
  have hlocks := B.notSynchronized
  have hK := hB.2
  have hI := hm_start hB
  rw [show entryFrame m args 2 = entryFrame m ([.ref t, .int a1] : List Value).toArray 2 from by rw [hargs]]
  have hl := lv_entry ([.ref t, .int a1]) (n := 2) (Nat.le_of_ble_eq_true rfl)
  rw [lg_entry_eq]
  generalize (lg_sl ([.ref t, .int a1]) ++ List.replicate (2 - (lg_sl ([.ref t, .int a1])).length) Slot.unset).toArray = ls at hl ⊢
  have hl : lv_has ls 2 [(0, va_rf (some t)), (1, .int a1)] := hl
  unfold fX6_isSprite at hf
  refine lv_iload_n hx hb dX6_isSprite_0 rfl (lv_at hl 1 rfl) ?_
  refine lv_if_lt (tgt := 13) hx hb dX6_isSprite_1 (by decide) (fun c => ?_) (fun c => ?_)
  · rw [if_pos c] at hf
    refine lv_iconst (v := (0 : Int32)) hx hb dX6_isSprite_13 (by decide) ?_
    exact hm_zret_e hf hx hb hr hlocks hK hI (Nat.le_of_ble_eq_true rfl) (Nat.le_of_ble_eq_true rfl) rfl dX6_isSprite_14
  · rw [if_neg c] at hf
    refine lv_iload_n hx hb dX6_isSprite_4 rfl (lv_at hl 1 rfl) ?_
    refine lv_iconst (v := (4 : Int32)) hx hb dX6_isSprite_5 (by decide) ?_
    refine lv_icmp_ge (tgt := 13) hx hb dX6_isSprite_6 (by decide) (fun c => ?_) (fun c => ?_)
    · rw [if_pos c] at hf
      refine lv_iconst (v := (0 : Int32)) hx hb dX6_isSprite_13 (by decide) ?_
      exact hm_zret_e hf hx hb hr hlocks hK hI (Nat.le_of_ble_eq_true rfl) (Nat.le_of_ble_eq_true rfl) rfl dX6_isSprite_14
    · rw [if_neg c] at hf
      refine lv_iconst (v := (1 : Int32)) hx hb dX6_isSprite_9 (by decide) ?_
      refine lv_goto (tgt := 14) hx hb dX6_isSprite_10 (by decide) ?_
      exact hm_zret_e hf hx hb hr hlocks hK hI (Nat.le_of_ble_eq_true rfl) (Nat.le_of_ble_eq_true rfl) rfl dX6_isSprite_14
/-! ==== X6_put: BlitBoardModel.put(I)V ==== -/
def fX6_put (t : Nat) (a1 : Int32) (h0 : hm_H) : Option hm_H :=
  hm_b (hm_gq 6 10 h0 (some t)) fun v1 =>
  hm_b (hm_gi 6 11 h0 (some t)) fun v2 =>
  hm_b (hm_si 0 h0 v1 v2 a1) fun h3 =>
  hm_b (hm_gi 6 11 h3 (some t)) fun v4 =>
  hm_b (hm_p 6 11 (.int (v4 + (1 : Int32))) h3 (some t)) fun h5 =>
  some h5
set_option maxRecDepth 100000 in
set_option maxHeartbeats 8000000 in
theorem kX6_put (l : Launch) (D : va_G) (kA : Nat → ClassId) (t : Nat) (a1 : Int32) (h0 h' : hm_H) (hf : fX6_put t a1 h0 = some h') : hm_C l yX6_put wsX6_put { frames := 0, cells := 0, slots := 0, locals := 0 } D vwCl kA (hm_ty kA) [.ref t, .int a1] h0 none h' 0 0 := by
  refine Met.ofW (cc := cX6_put) (maxL := 2) (ret := none) (by decide) rfl ?_
  intro p e s m args below meth c s₁ B hml hv
  obtain ⟨hargs, hB⟩ := hv
  have hx := B.exec
  have hb := B.bytes
  have hr := B.returns
  have hts := atoms_spec (ws := wsX6_put) B.pre
  have hown : s.vm.findClass RX6 = some m.cls := findClass_of_methodNamed B.named
  have hlocks := B.notSynchronized
  have hK := hB.2
  have hI := hm_start hB
  have w1 := hts (.fieldLink RX6 39 "BlitBoardModel" "made" "[I") (by decide +kernel)
  have w2 := hts (.fieldLink RX6 97 "BlitBoardModel" "madeSize" "I") (by decide +kernel)
  have hiX6 : ∀ w ∈ wsX60, w ∈ wsX6_put := by decide +kernel
  rw [show entryFrame m args 2 = entryFrame m ([.ref t, .int a1] : List Value).toArray 2 from by rw [hargs]]
  have hl := lv_entry ([.ref t, .int a1]) (n := 2) (Nat.le_of_ble_eq_true rfl)
  rw [lg_entry_eq]
  generalize (lg_sl ([.ref t, .int a1]) ++ List.replicate (2 - (lg_sl ([.ref t, .int a1])).length) Slot.unset).toArray = ls at hl ⊢
  have hl : lv_has ls 2 [(0, va_rf (some t)), (1, .int a1)] := hl
  unfold fX6_put at hf
  refine hm_aload_n hx hb dX6_put_0 rfl (lv_at hl 0 rfl) ?_
  obtain ⟨v1, ev1, hf⟩ := hm_b_s hf
  refine hm_get (ci := 6) (k := 10) (C := RX6) (T := TX6) (N := 16) hx hb hts hiX6 hown hK hI rfl (by decide) w1 (hm_gq_s ev1) dX6_put_1 ?_
  refine hm_aload_n hx hb dX6_put_4 rfl (lv_at hl 0 rfl) ?_
  obtain ⟨v2, ev2, hf⟩ := hm_b_s hf
  refine hm_get (ci := 6) (k := 11) (C := RX6) (T := TX6) (N := 16) hx hb hts hiX6 hown hK hI rfl (by decide) w2 (hm_gi_s ev2) dX6_put_5 ?_
  refine lv_iload_n hx hb dX6_put_8 rfl (lv_at hl 1 rfl) ?_
  obtain ⟨h3, eh3, hf⟩ := hm_b_s hf
  refine hm_iast (kd := 0) (t0 := 0) hx hb hK hI rfl eh3 dX6_put_9 (fun H locs hI => ?_)
  refine hm_aload_n hx hb dX6_put_10 rfl (lv_at hl 0 rfl) ?_
  refine lv_dup hx hb dX6_put_11 (hm_rf_cat _) ?_
  obtain ⟨v4, ev4, hf⟩ := hm_b_s hf
  refine hm_get (ci := 6) (k := 11) (C := RX6) (T := TX6) (N := 16) hx hb hts hiX6 hown hK hI rfl (by decide) w2 (hm_gi_s ev4) dX6_put_12 ?_
  refine lv_iconst (v := (1 : Int32)) hx hb dX6_put_15 (by decide) ?_
  refine lv_iadd hx hb dX6_put_16 ?_
  obtain ⟨h5, eh5, hf⟩ := hm_b_s hf
  refine hm_put (ci := 6) (k := 11) (C := RX6) (T := TX6) (N := 16) hx hb hts hiX6 tyX6 tyX6_ok nmX6 hown hK hI rfl (by decide) w2 rfl eh5 rfl rfl dX6_put_17 (fun H locs hI => ?_)
  exact hm_vret_e hf hx hb hr hlocks hK hI (Nat.le_of_ble_eq_true rfl) (Nat.le_of_ble_eq_true rfl) dX6_put_20
/-! ==== X6_tellStretch: BlitBoardModel.tellStretch(IIIII)V ==== -/
def fX6_tellStretch_102 (K3 : Option Nat → Int32 → Int32 → Int32 → Int32 → Int32 → hm_H → Option hm_H) (x0 : Option Nat) (x1 : Int32) (x2 : Int32) (x4 : Int32) (x5 : Int32) (x6 : Int32) (h : hm_H) : Option hm_H :=
  K3 x0 x1 x2 x4 x5 (x6 + (63 : Int32)) h
def fX6_tellStretch_80 (K3 : Option Nat → Int32 → Int32 → Int32 → Int32 → Int32 → hm_H → Option hm_H) (x0 : Option Nat) (x1 : Int32) (x2 : Int32) (x4 : Int32) (x5 : Int32) (x6 : Int32) (h : hm_H) : Option hm_H :=
  if x1 = (128 : Int32) then
    hm_b (hm_rc 6 h x0) fun b9 =>
    hm_b2 (fX6_dot b9 x2 ((x6).toInt64) ((x5).toInt64) h) fun v10 h8 =>
    hm_b (hm_rc 6 h8 x0) fun b12 =>
    hm_b (fX6_put b12 v10 h8) fun h11 =>
    fX6_tellStretch_102 K3 x0 x1 x2 x4 x5 x6 h11
  else
    fX6_tellStretch_102 K3 x0 x1 x2 x4 x5 x6 h
def fX6_tellStretch_43 (K3 : Option Nat → Int32 → Int32 → Int32 → Int32 → Int32 → hm_H → Option hm_H) (K43 : Option Nat → Int32 → Int32 → Int32 → Int32 → Int32 → Int32 → Int32 → hm_H → Option hm_H) (x0 : Option Nat) (x1 : Int32) (x2 : Int32) (x4 : Int32) (x5 : Int32) (x6 : Int32) (x7 : Int32) (x8 : Int32) (h : hm_H) : Option hm_H :=
  if x7 ≤ x8 then
    fX6_tellStretch_80 K3 x0 x1 x2 x4 x5 x6 h
  else
    if x1 = (64 : Int32) then
      hm_b (hm_rc 6 h x0) fun b4 =>
      hm_b2 (fX6_dot b4 x2 ((x6 + x8).toInt64) ((x5).toInt64) h) fun v5 h3 =>
      hm_b (hm_rc 6 h3 x0) fun b7 =>
      hm_b (fX6_put b7 v5 h3) fun h6 =>
      K43 x0 x1 x2 x4 x5 x6 x7 (x8 + (1 : Int32)) h6
    else
      fX6_tellStretch_80 K3 x0 x1 x2 x4 x5 x6 h
def fX6_tellStretch_30 (K3 : Option Nat → Int32 → Int32 → Int32 → Int32 → Int32 → hm_H → Option hm_H) (x0 : Option Nat) (x1 : Int32) (x2 : Int32) (x4 : Int32) (x5 : Int32) (x6 : Int32) (s0 : Int32) (h : hm_H) : Option hm_H :=
  hm_b (hm_rc 6 h x0) fun b2 =>
  hm_b (fX6_put b2 (x1 + s0) h) fun h1 =>
  hm_loop (fun _ _ _ _ _ _ _ _ _ => none) (fX6_tellStretch_43 K3) hm_fu x0 x1 x2 x4 x5 x6 s0 (0 : Int32) h1
def fX6_tellStretch_3 (K3 : Option Nat → Int32 → Int32 → Int32 → Int32 → Int32 → hm_H → Option hm_H) (x0 : Option Nat) (x1 : Int32) (x2 : Int32) (x4 : Int32) (x5 : Int32) (x6 : Int32) (h : hm_H) : Option hm_H :=
  if x4 ≤ x6 then
    some h
  else
    if (63 : Int32) ≤ (x4 - x6) then
      fX6_tellStretch_30 K3 x0 x1 x2 x4 x5 x6 (63 : Int32) h
    else
      fX6_tellStretch_30 K3 x0 x1 x2 x4 x5 x6 (x4 - x6) h
def fX6_tellStretch (t : Nat) (a1 : Int32) (a2 : Int32) (a3 : Int32) (a4 : Int32) (a5 : Int32) (h0 : hm_H) : Option hm_H :=
  hm_loop (fun _ _ _ _ _ _ _ => none) (fX6_tellStretch_3) hm_fu (some t) a1 a2 a4 a5 a3 h0
set_option maxRecDepth 100000 in
set_option maxHeartbeats 8000000 in
theorem kX6_tellStretch (l : Launch) (D : va_G) (kA : Nat → ClassId) (t : Nat) (a1 : Int32) (a2 : Int32) (a3 : Int32) (a4 : Int32) (a5 : Int32) (h0 h' : hm_H) (hf : fX6_tellStretch t a1 a2 a3 a4 a5 h0 = some h') : hm_C l yX6_tellStretch wsX6_tellStretch { frames := 2, cells := 0, slots := 0, locals := 50 } D vwCl kA (hm_ty kA) [.ref t, .int a1, .int a2, .int a3, .int a4, .int a5] h0 none h' 0 0 := by
  refine Met.ofW (cc := cX6_tellStretch) (maxL := 9) (ret := none) (by decide) rfl ?_
  intro p e s m args below meth c s₁ B hml hv
  obtain ⟨hargs, hB⟩ := hv
  have hx := B.exec
  have hb := B.bytes
  have hr := B.returns
  have hts := atoms_spec (ws := wsX6_tellStretch) B.pre
  have hown : s.vm.findClass RX6 = some m.cls := findClass_of_methodNamed B.named
  have hlocks := B.notSynchronized
  have hK := hB.2
  have hI := hm_start hB
  have B3 : ∀ (fu : Nat) (x0 : Option Nat) (x1 : Int32) (x2 : Int32) (x4 : Int32) (x5 : Int32) (x6 : Int32) (h : hm_H), hm_loop (fun _ _ _ _ _ _ _ => none) (fX6_tellStretch_3) fu x0 x1 x2 x4 x5 x6 h = some h' → ∀ (H : Heap) (locs : List Loc) (ls : Array Slot), hm_I D vwCl kA (hm_A h0) s.heap h H locs → lv_has ls 9 [(0, va_rf x0), (1, .int x1), (2, .int x2), (4, .int x4), (5, .int x5), (6, .int x6)] → W p l e (headSpec wsX6_tellStretch { frames := 2, cells := 0, slots := 0, locals := 50 }).room s m args below meth c H locs 0 0 (MQ below (hm_Q D vwCl kA (hm_ty kA) h0 none h') args s 0 0 (hm_A h0)) (F0 m 3 ls []) := by
    intro fu
    induction fu with
    | zero => intro x0 x1 x2 x4 x5 x6 h hf; cases hf
    | succ fu ih3 =>
      rw [hm_loop_s]
      generalize hm_loop (fun _ _ _ _ _ _ _ => none) (fX6_tellStretch_3) fu = K3 at ih3 ⊢
      have B102 : ∀ (x0 : Option Nat) (x1 : Int32) (x2 : Int32) (x4 : Int32) (x5 : Int32) (x6 : Int32) (h : hm_H), fX6_tellStretch_102 K3 x0 x1 x2 x4 x5 x6 h = some h' → ∀ (H : Heap) (locs : List Loc) (ls : Array Slot), hm_I D vwCl kA (hm_A h0) s.heap h H locs → lv_has ls 9 [(0, va_rf x0), (1, .int x1), (2, .int x2), (4, .int x4), (5, .int x5), (6, .int x6)] → W p l e (headSpec wsX6_tellStretch { frames := 2, cells := 0, slots := 0, locals := 50 }).room s m args below meth c H locs 0 0 (MQ below (hm_Q D vwCl kA (hm_ty kA) h0 none h') args s 0 0 (hm_A h0)) (F0 m 102 ls []) := by
        intro x0 x1 x2 x4 x5 x6 h hf H locs ls hI hl
        unfold fX6_tellStretch_102 at hf
        refine lv_iinc (v := x6 + (63 : Int32)) (lv' := [(6, .int (x6 + (63 : Int32))), (0, va_rf x0), (1, .int x1), (2, .int x2), (4, .int x4), (5, .int x5)]) hx hb dX6_tellStretch_102 hl (k := 5) rfl rfl (by decide) rfl (fun ls hl => ?_)
        refine lv_goto (tgt := 3) hx hb dX6_tellStretch_105 (by decide) ?_
        exact ih3 x0 x1 x2 x4 x5 (x6 + (63 : Int32)) h hf _ _ _ hI (lv_sub hl [1, 2, 3, 4, 5, 0] rfl)
      have B80 : ∀ (x0 : Option Nat) (x1 : Int32) (x2 : Int32) (x4 : Int32) (x5 : Int32) (x6 : Int32) (h : hm_H), fX6_tellStretch_80 K3 x0 x1 x2 x4 x5 x6 h = some h' → ∀ (H : Heap) (locs : List Loc) (ls : Array Slot), hm_I D vwCl kA (hm_A h0) s.heap h H locs → lv_has ls 9 [(0, va_rf x0), (1, .int x1), (2, .int x2), (4, .int x4), (5, .int x5), (6, .int x6)] → W p l e (headSpec wsX6_tellStretch { frames := 2, cells := 0, slots := 0, locals := 50 }).room s m args below meth c H locs 0 0 (MQ below (hm_Q D vwCl kA (hm_ty kA) h0 none h') args s 0 0 (hm_A h0)) (F0 m 80 ls []) := by
        intro x0 x1 x2 x4 x5 x6 h hf H locs ls hI hl
        unfold fX6_tellStretch_80 at hf
        refine lv_iload_n hx hb dX6_tellStretch_80 rfl (lv_at hl 1 rfl) ?_
        refine lv_sipush (v := (128 : Int32)) hx hb dX6_tellStretch_81 (by decide) ?_
        refine lv_icmp_ne (tgt := 102) hx hb dX6_tellStretch_84 (by decide) (fun c => ?_) (fun c => ?_)
        · rw [if_neg c] at hf
          exact B102 x0 x1 x2 x4 x5 x6 h hf _ _ _ hI (lv_sub hl [0, 1, 2, 3, 4, 5] rfl)
        · rw [if_pos c] at hf
          refine hm_aload_n hx hb dX6_tellStretch_87 rfl (lv_at hl 0 rfl) ?_
          refine hm_aload_n hx hb dX6_tellStretch_88 rfl (lv_at hl 0 rfl) ?_
          refine lv_iload_n hx hb dX6_tellStretch_89 rfl (lv_at hl 2 rfl) ?_
          refine lv_iload hx hb dX6_tellStretch_90 (lv_at hl 5 rfl) ?_
          refine lv_i2l (v := (x6).toInt64) hx hb dX6_tellStretch_92 rfl ?_
          refine lv_iload hx hb dX6_tellStretch_93 (lv_at hl 4 rfl) ?_
          refine lv_i2l (v := (x5).toInt64) hx hb dX6_tellStretch_95 rfl ?_
          obtain ⟨b9, eb9, hf⟩ := hm_b_s hf
          obtain ⟨v10, h8, eh8, hf⟩ := hm_b2_s hf
          refine hm_cV (As := [.int x2, .long ((x6).toInt64), .long ((x5).toInt64)]) (rest := [va_rf x0]) ⟨hx, hb, hml, hown, hts⟩ hK hI eb9 rfl rfl (kX6_dot l D kA b9 x2 ((x6).toInt64) ((x5).toInt64) h h8 v10 eh8) (cwV 3 hts gX6_tellStretch_X6_dot rfl rfl rfl (by decide +kernel) ⟨Nat.le_of_ble_eq_true rfl, Nat.le_of_ble_eq_true rfl⟩) rfl hl.1 rfl (by first | exact Nat.le_of_ble_eq_true rfl | (simp only [List.map, hm_rf_cat, hm_ci, hm_cl, List.sum_cons, List.sum_nil] <;> decide)) dX6_tellStretch_96 ⟨Nat.le_of_ble_eq_true rfl, Nat.le_of_ble_eq_true rfl⟩ (fun H locs hI => ?_)
          obtain ⟨b12, eb12, hf⟩ := hm_b_s hf
          obtain ⟨h11, eh11, hf⟩ := hm_b_s hf
          refine hm_cV (As := [.int v10]) (rest := []) ⟨hx, hb, hml, hown, hts⟩ hK hI eb12 rfl rfl (kX6_put l D kA b12 v10 h8 h11 eh11) (cwV 1 hts gX6_tellStretch_X6_put rfl rfl rfl (by decide +kernel) ⟨Nat.le_of_ble_eq_true rfl, Nat.le_of_ble_eq_true rfl⟩) rfl hl.1 rfl (by first | exact Nat.le_of_ble_eq_true rfl | (simp only [List.map, hm_rf_cat, hm_ci, hm_cl, List.sum_cons, List.sum_nil] <;> decide)) dX6_tellStretch_99 ⟨Nat.le_of_ble_eq_true rfl, Nat.le_of_ble_eq_true rfl⟩ (fun H locs hI => ?_)
          refine W.eq (g2 := F0 m 102 ls []) rfl ?_
          exact B102 x0 x1 x2 x4 x5 x6 h11 hf _ _ _ hI (lv_sub hl [0, 1, 2, 3, 4, 5] rfl)
      have B43 : ∀ (fu : Nat) (x0 : Option Nat) (x1 : Int32) (x2 : Int32) (x4 : Int32) (x5 : Int32) (x6 : Int32) (x7 : Int32) (x8 : Int32) (h : hm_H), hm_loop (fun _ _ _ _ _ _ _ _ _ => none) (fX6_tellStretch_43 K3) fu x0 x1 x2 x4 x5 x6 x7 x8 h = some h' → ∀ (H : Heap) (locs : List Loc) (ls : Array Slot), hm_I D vwCl kA (hm_A h0) s.heap h H locs → lv_has ls 9 [(0, va_rf x0), (1, .int x1), (2, .int x2), (4, .int x4), (5, .int x5), (6, .int x6), (7, .int x7), (8, .int x8)] → W p l e (headSpec wsX6_tellStretch { frames := 2, cells := 0, slots := 0, locals := 50 }).room s m args below meth c H locs 0 0 (MQ below (hm_Q D vwCl kA (hm_ty kA) h0 none h') args s 0 0 (hm_A h0)) (F0 m 43 ls []) := by
        intro fu
        induction fu with
        | zero => intro x0 x1 x2 x4 x5 x6 x7 x8 h hf; cases hf
        | succ fu ih43 =>
          rw [hm_loop_s]
          generalize hm_loop (fun _ _ _ _ _ _ _ _ _ => none) (fX6_tellStretch_43 K3) fu = K43 at ih43 ⊢
          intro x0 x1 x2 x4 x5 x6 x7 x8 h hf H locs ls hI hl
          unfold fX6_tellStretch_43 at hf
          refine lv_iload hx hb dX6_tellStretch_43 (lv_at hl 7 rfl) ?_
          refine lv_iload hx hb dX6_tellStretch_45 (lv_at hl 6 rfl) ?_
          refine lv_icmp_ge (tgt := 80) hx hb dX6_tellStretch_47 (by decide) (fun c => ?_) (fun c => ?_)
          · rw [if_pos c] at hf
            exact B80 x0 x1 x2 x4 x5 x6 h hf _ _ _ hI (lv_sub hl [0, 1, 2, 3, 4, 5] rfl)
          · rw [if_neg c] at hf
            refine lv_iload_n hx hb dX6_tellStretch_50 rfl (lv_at hl 1 rfl) ?_
            refine lv_bipush (v := (64 : Int32)) hx hb dX6_tellStretch_51 (by decide) ?_
            refine lv_icmp_ne (tgt := 80) hx hb dX6_tellStretch_53 (by decide) (fun c => ?_) (fun c => ?_)
            · rw [if_neg c] at hf
              exact B80 x0 x1 x2 x4 x5 x6 h hf _ _ _ hI (lv_sub hl [0, 1, 2, 3, 4, 5] rfl)
            · rw [if_pos c] at hf
              refine hm_aload_n hx hb dX6_tellStretch_56 rfl (lv_at hl 0 rfl) ?_
              refine hm_aload_n hx hb dX6_tellStretch_57 rfl (lv_at hl 0 rfl) ?_
              refine lv_iload_n hx hb dX6_tellStretch_58 rfl (lv_at hl 2 rfl) ?_
              refine lv_iload hx hb dX6_tellStretch_59 (lv_at hl 5 rfl) ?_
              refine lv_iload hx hb dX6_tellStretch_61 (lv_at hl 7 rfl) ?_
              refine lv_iadd hx hb dX6_tellStretch_63 ?_
              refine lv_i2l (v := (x6 + x8).toInt64) hx hb dX6_tellStretch_64 rfl ?_
              refine lv_iload hx hb dX6_tellStretch_65 (lv_at hl 4 rfl) ?_
              refine lv_i2l (v := (x5).toInt64) hx hb dX6_tellStretch_67 rfl ?_
              obtain ⟨b4, eb4, hf⟩ := hm_b_s hf
              obtain ⟨v5, h3, eh3, hf⟩ := hm_b2_s hf
              refine hm_cV (As := [.int x2, .long ((x6 + x8).toInt64), .long ((x5).toInt64)]) (rest := [va_rf x0]) ⟨hx, hb, hml, hown, hts⟩ hK hI eb4 rfl rfl (kX6_dot l D kA b4 x2 ((x6 + x8).toInt64) ((x5).toInt64) h h3 v5 eh3) (cwV 3 hts gX6_tellStretch_X6_dot rfl rfl rfl (by decide +kernel) ⟨Nat.le_of_ble_eq_true rfl, Nat.le_of_ble_eq_true rfl⟩) rfl hl.1 rfl (by first | exact Nat.le_of_ble_eq_true rfl | (simp only [List.map, hm_rf_cat, hm_ci, hm_cl, List.sum_cons, List.sum_nil] <;> decide)) dX6_tellStretch_68 ⟨Nat.le_of_ble_eq_true rfl, Nat.le_of_ble_eq_true rfl⟩ (fun H locs hI => ?_)
              obtain ⟨b7, eb7, hf⟩ := hm_b_s hf
              obtain ⟨h6, eh6, hf⟩ := hm_b_s hf
              refine hm_cV (As := [.int v5]) (rest := []) ⟨hx, hb, hml, hown, hts⟩ hK hI eb7 rfl rfl (kX6_put l D kA b7 v5 h3 h6 eh6) (cwV 1 hts gX6_tellStretch_X6_put rfl rfl rfl (by decide +kernel) ⟨Nat.le_of_ble_eq_true rfl, Nat.le_of_ble_eq_true rfl⟩) rfl hl.1 rfl (by first | exact Nat.le_of_ble_eq_true rfl | (simp only [List.map, hm_rf_cat, hm_ci, hm_cl, List.sum_cons, List.sum_nil] <;> decide)) dX6_tellStretch_71 ⟨Nat.le_of_ble_eq_true rfl, Nat.le_of_ble_eq_true rfl⟩ (fun H locs hI => ?_)
              refine W.eq (g2 := F0 m 74 ls []) rfl ?_
              refine lv_iinc (v := x8 + (1 : Int32)) (lv' := [(8, .int (x8 + (1 : Int32))), (0, va_rf x0), (1, .int x1), (2, .int x2), (4, .int x4), (5, .int x5), (6, .int x6), (7, .int x7)]) hx hb dX6_tellStretch_74 hl (k := 7) rfl rfl (by decide) rfl (fun ls hl => ?_)
              refine lv_goto (tgt := 43) hx hb dX6_tellStretch_77 (by decide) ?_
              exact ih43 x0 x1 x2 x4 x5 x6 x7 (x8 + (1 : Int32)) h6 hf _ _ _ hI (lv_sub hl [1, 2, 3, 4, 5, 6, 7, 0] rfl)
      have B30 : ∀ (x0 : Option Nat) (x1 : Int32) (x2 : Int32) (x4 : Int32) (x5 : Int32) (x6 : Int32) (s0 : Int32) (h : hm_H), fX6_tellStretch_30 K3 x0 x1 x2 x4 x5 x6 s0 h = some h' → ∀ (H : Heap) (locs : List Loc) (ls : Array Slot), hm_I D vwCl kA (hm_A h0) s.heap h H locs → lv_has ls 9 [(0, va_rf x0), (1, .int x1), (2, .int x2), (4, .int x4), (5, .int x5), (6, .int x6)] → W p l e (headSpec wsX6_tellStretch { frames := 2, cells := 0, slots := 0, locals := 50 }).room s m args below meth c H locs 0 0 (MQ below (hm_Q D vwCl kA (hm_ty kA) h0 none h') args s 0 0 (hm_A h0)) (F0 m 30 ls [.int s0]) := by
        intro x0 x1 x2 x4 x5 x6 s0 h hf H locs ls hI hl
        unfold fX6_tellStretch_30 at hf
        refine lv_istore (lv' := [(7, .int s0), (0, va_rf x0), (1, .int x1), (2, .int x2), (4, .int x4), (5, .int x5), (6, .int x6)]) hx hb dX6_tellStretch_30 hl (by decide) rfl (fun ls hl => ?_)
        refine hm_aload_n hx hb dX6_tellStretch_32 rfl (lv_at hl 1 rfl) ?_
        refine lv_iload_n hx hb dX6_tellStretch_33 rfl (lv_at hl 2 rfl) ?_
        refine lv_iload hx hb dX6_tellStretch_34 (lv_at hl 0 rfl) ?_
        refine lv_iadd hx hb dX6_tellStretch_36 ?_
        obtain ⟨b2, eb2, hf⟩ := hm_b_s hf
        obtain ⟨h1, eh1, hf⟩ := hm_b_s hf
        refine hm_cV (As := [.int (x1 + s0)]) (rest := []) ⟨hx, hb, hml, hown, hts⟩ hK hI eb2 rfl rfl (kX6_put l D kA b2 (x1 + s0) h h1 eh1) (cwV 1 hts gX6_tellStretch_X6_put rfl rfl rfl (by decide +kernel) ⟨Nat.le_of_ble_eq_true rfl, Nat.le_of_ble_eq_true rfl⟩) rfl hl.1 rfl (by first | exact Nat.le_of_ble_eq_true rfl | (simp only [List.map, hm_rf_cat, hm_ci, hm_cl, List.sum_cons, List.sum_nil] <;> decide)) dX6_tellStretch_37 ⟨Nat.le_of_ble_eq_true rfl, Nat.le_of_ble_eq_true rfl⟩ (fun H locs hI => ?_)
        refine W.eq (g2 := F0 m 40 ls []) rfl ?_
        refine lv_iconst (v := (0 : Int32)) hx hb dX6_tellStretch_40 (by decide) ?_
        refine lv_istore (lv' := [(8, .int (0 : Int32)), (7, .int s0), (0, va_rf x0), (1, .int x1), (2, .int x2), (4, .int x4), (5, .int x5), (6, .int x6)]) hx hb dX6_tellStretch_41 hl (by decide) rfl (fun ls hl => ?_)
        exact B43 hm_fu x0 x1 x2 x4 x5 x6 s0 (0 : Int32) h1 hf _ _ _ hI (lv_sub hl [2, 3, 4, 5, 6, 7, 1, 0] rfl)
      intro x0 x1 x2 x4 x5 x6 h hf H locs ls hI hl
      unfold fX6_tellStretch_3 at hf
      refine lv_iload hx hb dX6_tellStretch_3 (lv_at hl 5 rfl) ?_
      refine lv_iload hx hb dX6_tellStretch_5 (lv_at hl 3 rfl) ?_
      refine lv_icmp_ge (tgt := 108) hx hb dX6_tellStretch_7 (by decide) (fun c => ?_) (fun c => ?_)
      · rw [if_pos c] at hf
        exact hm_vret_e hf hx hb hr hlocks hK hI (Nat.le_of_ble_eq_true rfl) (Nat.le_of_ble_eq_true rfl) dX6_tellStretch_108
      · rw [if_neg c] at hf
        refine lv_iload hx hb dX6_tellStretch_10 (lv_at hl 3 rfl) ?_
        refine lv_iload hx hb dX6_tellStretch_12 (lv_at hl 5 rfl) ?_
        refine lv_isub hx hb dX6_tellStretch_14 ?_
        refine lv_bipush (v := (63 : Int32)) hx hb dX6_tellStretch_15 (by decide) ?_
        refine lv_icmp_ge (tgt := 28) hx hb dX6_tellStretch_17 (by decide) (fun c => ?_) (fun c => ?_)
        · rw [if_pos c] at hf
          refine lv_bipush (v := (63 : Int32)) hx hb dX6_tellStretch_28 (by decide) ?_
          exact B30 x0 x1 x2 x4 x5 x6 (63 : Int32) h hf _ _ _ hI (lv_sub hl [0, 1, 2, 3, 4, 5] rfl)
        · rw [if_neg c] at hf
          refine lv_iload hx hb dX6_tellStretch_20 (lv_at hl 3 rfl) ?_
          refine lv_iload hx hb dX6_tellStretch_22 (lv_at hl 5 rfl) ?_
          refine lv_isub hx hb dX6_tellStretch_24 ?_
          refine lv_goto (tgt := 30) hx hb dX6_tellStretch_25 (by decide) ?_
          exact B30 x0 x1 x2 x4 x5 x6 (x4 - x6) h hf _ _ _ hI (lv_sub hl [0, 1, 2, 3, 4, 5] rfl)
  rw [show entryFrame m args 9 = entryFrame m ([.ref t, .int a1, .int a2, .int a3, .int a4, .int a5] : List Value).toArray 9 from by rw [hargs]]
  have hl := lv_entry ([.ref t, .int a1, .int a2, .int a3, .int a4, .int a5]) (n := 9) (Nat.le_of_ble_eq_true rfl)
  rw [lg_entry_eq]
  generalize (lg_sl ([.ref t, .int a1, .int a2, .int a3, .int a4, .int a5]) ++ List.replicate (9 - (lg_sl ([.ref t, .int a1, .int a2, .int a3, .int a4, .int a5])).length) Slot.unset).toArray = ls at hl ⊢
  have hl : lv_has ls 9 [(0, va_rf (some t)), (1, .int a1), (2, .int a2), (3, .int a3), (4, .int a4), (5, .int a5)] := hl
  unfold fX6_tellStretch at hf
  refine lv_iload_n hx hb dX6_tellStretch_0 rfl (lv_at hl 3 rfl) ?_
  refine lv_istore (lv' := [(6, .int a3), (0, va_rf (some t)), (1, .int a1), (2, .int a2), (3, .int a3), (4, .int a4), (5, .int a5)]) hx hb dX6_tellStretch_1 hl (by decide) rfl (fun ls hl => ?_)
  exact B3 hm_fu (some t) a1 a2 a4 a5 a3 h0 hf _ _ _ hI (lv_sub hl [1, 2, 3, 5, 6, 0] rfl)
/-! ==== X6_alike: BlitBoardModel.alike(IIII)I ==== -/
def fX6_alike_3 (K3 : Option Nat → Int32 → Int32 → Int32 → Int32 → Int32 → hm_H → Option (Int32 × hm_H)) (x0 : Option Nat) (x1 : Int32) (x2 : Int32) (x3 : Int32) (x4 : Int32) (x5 : Int32) (h : hm_H) : Option (Int32 × hm_H) :=
  if x3 ≤ (x2 + x5) then
    some (x5, h)
  else
    hm_b (hm_rc 6 h x0) fun b2 =>
    hm_b2 (fX6_dot b2 x1 ((x2 + x5).toInt64) ((x4).toInt64) h) fun v3 h1 =>
    hm_b (hm_rc 6 h1 x0) fun b5 =>
    hm_b2 (fX6_dot b5 x1 ((x2).toInt64) ((x4).toInt64) h1) fun v6 h4 =>
    if v3 = v6 then
      K3 x0 x1 x2 x3 x4 (x5 + (1 : Int32)) h4
    else
      some (x5, h4)
def fX6_alike (t : Nat) (a1 : Int32) (a2 : Int32) (a3 : Int32) (a4 : Int32) (h0 : hm_H) : Option (Int32 × hm_H) :=
  hm_loop (fun _ _ _ _ _ _ _ => none) (fX6_alike_3) hm_fu (some t) a1 a2 a3 a4 (1 : Int32) h0
set_option maxRecDepth 100000 in
set_option maxHeartbeats 8000000 in
theorem kX6_alike (l : Launch) (D : va_G) (kA : Nat → ClassId) (t : Nat) (a1 : Int32) (a2 : Int32) (a3 : Int32) (a4 : Int32) (h0 h' : hm_H) (r : Int32) (hf : fX6_alike t a1 a2 a3 a4 h0 = some (r, h')) : hm_C l yX6_alike wsX6_alike { frames := 2, cells := 0, slots := 0, locals := 50 } D vwCl kA (hm_ty kA) [.ref t, .int a1, .int a2, .int a3, .int a4] h0 (some (.int r)) h' 0 0 := by
  refine Met.ofW (cc := cX6_alike) (maxL := 6) (ret := (some .int)) (by decide) rfl ?_
  intro p e s m args below meth c s₁ B hml hv
  obtain ⟨hargs, hB⟩ := hv
  have hx := B.exec
  have hb := B.bytes
  have hr := B.returns
  have hts := atoms_spec (ws := wsX6_alike) B.pre
  have hown : s.vm.findClass RX6 = some m.cls := findClass_of_methodNamed B.named
  have hlocks := B.notSynchronized
  have hK := hB.2
  have hI := hm_start hB
  have B3 : ∀ (fu : Nat) (x0 : Option Nat) (x1 : Int32) (x2 : Int32) (x3 : Int32) (x4 : Int32) (x5 : Int32) (h : hm_H), hm_loop (fun _ _ _ _ _ _ _ => none) (fX6_alike_3) fu x0 x1 x2 x3 x4 x5 h = some (r, h') → ∀ (H : Heap) (locs : List Loc) (ls : Array Slot), hm_I D vwCl kA (hm_A h0) s.heap h H locs → lv_has ls 6 [(0, va_rf x0), (1, .int x1), (2, .int x2), (3, .int x3), (4, .int x4), (5, .int x5)] → W p l e (headSpec wsX6_alike { frames := 2, cells := 0, slots := 0, locals := 50 }).room s m args below meth c H locs 0 0 (MQ below (hm_Q D vwCl kA (hm_ty kA) h0 (some (.int r)) h') args s 0 0 (hm_A h0)) (F0 m 3 ls []) := by
    intro fu
    induction fu with
    | zero => intro x0 x1 x2 x3 x4 x5 h hf; cases hf
    | succ fu ih3 =>
      rw [hm_loop_s]
      generalize hm_loop (fun _ _ _ _ _ _ _ => none) (fX6_alike_3) fu = K3 at ih3 ⊢
      intro x0 x1 x2 x3 x4 x5 h hf H locs ls hI hl
      unfold fX6_alike_3 at hf
      refine lv_iload_n hx hb dX6_alike_3 rfl (lv_at hl 2 rfl) ?_
      refine lv_iload hx hb dX6_alike_4 (lv_at hl 5 rfl) ?_
      refine lv_iadd hx hb dX6_alike_6 ?_
      refine lv_iload_n hx hb dX6_alike_7 rfl (lv_at hl 3 rfl) ?_
      refine lv_icmp_ge (tgt := 43) hx hb dX6_alike_8 (by decide) (fun c => ?_) (fun c => ?_)
      · rw [if_pos c] at hf
        refine lv_iload hx hb dX6_alike_43 (lv_at hl 5 rfl) ?_
        exact hm_iret_e hf hx hb hr hlocks hK hI (Nat.le_of_ble_eq_true rfl) (Nat.le_of_ble_eq_true rfl) dX6_alike_45
      · rw [if_neg c] at hf
        refine hm_aload_n hx hb dX6_alike_11 rfl (lv_at hl 0 rfl) ?_
        refine lv_iload_n hx hb dX6_alike_12 rfl (lv_at hl 1 rfl) ?_
        refine lv_iload_n hx hb dX6_alike_13 rfl (lv_at hl 2 rfl) ?_
        refine lv_iload hx hb dX6_alike_14 (lv_at hl 5 rfl) ?_
        refine lv_iadd hx hb dX6_alike_16 ?_
        refine lv_i2l (v := (x2 + x5).toInt64) hx hb dX6_alike_17 rfl ?_
        refine lv_iload hx hb dX6_alike_18 (lv_at hl 4 rfl) ?_
        refine lv_i2l (v := (x4).toInt64) hx hb dX6_alike_20 rfl ?_
        obtain ⟨b2, eb2, hf⟩ := hm_b_s hf
        obtain ⟨v3, h1, eh1, hf⟩ := hm_b2_s hf
        refine hm_cV (As := [.int x1, .long ((x2 + x5).toInt64), .long ((x4).toInt64)]) (rest := []) ⟨hx, hb, hml, hown, hts⟩ hK hI eb2 rfl rfl (kX6_dot l D kA b2 x1 ((x2 + x5).toInt64) ((x4).toInt64) h h1 v3 eh1) (cwV 3 hts gX6_alike_X6_dot rfl rfl rfl (by decide +kernel) ⟨Nat.le_of_ble_eq_true rfl, Nat.le_of_ble_eq_true rfl⟩) rfl hl.1 rfl (by first | exact Nat.le_of_ble_eq_true rfl | (simp only [List.map, hm_rf_cat, hm_ci, hm_cl, List.sum_cons, List.sum_nil] <;> decide)) dX6_alike_21 ⟨Nat.le_of_ble_eq_true rfl, Nat.le_of_ble_eq_true rfl⟩ (fun H locs hI => ?_)
        refine hm_aload_n hx hb dX6_alike_24 rfl (lv_at hl 0 rfl) ?_
        refine lv_iload_n hx hb dX6_alike_25 rfl (lv_at hl 1 rfl) ?_
        refine lv_iload_n hx hb dX6_alike_26 rfl (lv_at hl 2 rfl) ?_
        refine lv_i2l (v := (x2).toInt64) hx hb dX6_alike_27 rfl ?_
        refine lv_iload hx hb dX6_alike_28 (lv_at hl 4 rfl) ?_
        refine lv_i2l (v := (x4).toInt64) hx hb dX6_alike_30 rfl ?_
        obtain ⟨b5, eb5, hf⟩ := hm_b_s hf
        obtain ⟨v6, h4, eh4, hf⟩ := hm_b2_s hf
        refine hm_cV (As := [.int x1, .long ((x2).toInt64), .long ((x4).toInt64)]) (rest := [.int v3]) ⟨hx, hb, hml, hown, hts⟩ hK hI eb5 rfl rfl (kX6_dot l D kA b5 x1 ((x2).toInt64) ((x4).toInt64) h1 h4 v6 eh4) (cwV 3 hts gX6_alike_X6_dot rfl rfl rfl (by decide +kernel) ⟨Nat.le_of_ble_eq_true rfl, Nat.le_of_ble_eq_true rfl⟩) rfl hl.1 rfl (by first | exact Nat.le_of_ble_eq_true rfl | (simp only [List.map, hm_rf_cat, hm_ci, hm_cl, List.sum_cons, List.sum_nil] <;> decide)) dX6_alike_31 ⟨Nat.le_of_ble_eq_true rfl, Nat.le_of_ble_eq_true rfl⟩ (fun H locs hI => ?_)
        refine lv_icmp_ne (tgt := 43) hx hb dX6_alike_34 (by decide) (fun c => ?_) (fun c => ?_)
        · rw [if_neg c] at hf
          refine lv_iload hx hb dX6_alike_43 (lv_at hl 5 rfl) ?_
          exact hm_iret_e hf hx hb hr hlocks hK hI (Nat.le_of_ble_eq_true rfl) (Nat.le_of_ble_eq_true rfl) dX6_alike_45
        · rw [if_pos c] at hf
          refine lv_iinc (v := x5 + (1 : Int32)) (lv' := [(5, .int (x5 + (1 : Int32))), (0, va_rf x0), (1, .int x1), (2, .int x2), (3, .int x3), (4, .int x4)]) hx hb dX6_alike_37 hl (k := 5) rfl rfl (by decide) rfl (fun ls hl => ?_)
          refine lv_goto (tgt := 3) hx hb dX6_alike_40 (by decide) ?_
          exact ih3 x0 x1 x2 x3 x4 (x5 + (1 : Int32)) h4 hf _ _ _ hI (lv_sub hl [1, 2, 3, 4, 5, 0] rfl)
  rw [show entryFrame m args 6 = entryFrame m ([.ref t, .int a1, .int a2, .int a3, .int a4] : List Value).toArray 6 from by rw [hargs]]
  have hl := lv_entry ([.ref t, .int a1, .int a2, .int a3, .int a4]) (n := 6) (Nat.le_of_ble_eq_true rfl)
  rw [lg_entry_eq]
  generalize (lg_sl ([.ref t, .int a1, .int a2, .int a3, .int a4]) ++ List.replicate (6 - (lg_sl ([.ref t, .int a1, .int a2, .int a3, .int a4])).length) Slot.unset).toArray = ls at hl ⊢
  have hl : lv_has ls 6 [(0, va_rf (some t)), (1, .int a1), (2, .int a2), (3, .int a3), (4, .int a4)] := hl
  unfold fX6_alike at hf
  refine lv_iconst (v := (1 : Int32)) hx hb dX6_alike_0 (by decide) ?_
  refine lv_istore (lv' := [(5, .int (1 : Int32)), (0, va_rf (some t)), (1, .int a1), (2, .int a2), (3, .int a3), (4, .int a4)]) hx hb dX6_alike_1 hl (by decide) rfl (fun ls hl => ?_)
  exact B3 hm_fu (some t) a1 a2 a3 a4 (1 : Int32) h0 hf _ _ _ hI (lv_sub hl [1, 2, 3, 4, 5, 0] rfl)
/-! ==== X6_tellDrawn: BlitBoardModel.tellDrawn(IIII)V ==== -/
def fX6_tellDrawn_67 (K6 : Option Nat → Int32 → Int32 → Int32 → Int32 → Int32 → hm_H → Option hm_H) (x0 : Option Nat) (x1 : Int32) (x3 : Int32) (x4 : Int32) (x5 : Int32) (x6 : Int32) (x7 : Int32) (h : hm_H) : Option hm_H :=
  hm_let (x5 + x7) fun v11 =>
  K6 x0 x1 x3 x4 v11 x6 h
def fX6_tellDrawn_6 (K6 : Option Nat → Int32 → Int32 → Int32 → Int32 → Int32 → hm_H → Option hm_H) (x0 : Option Nat) (x1 : Int32) (x3 : Int32) (x4 : Int32) (x5 : Int32) (x6 : Int32) (h : hm_H) : Option hm_H :=
  if x3 ≤ x5 then
    hm_b (hm_rc 6 h x0) fun b2 =>
    hm_b (fX6_tellStretch b2 (64 : Int32) x1 x6 x3 x4 h) fun h1 =>
    some h1
  else
    hm_b (hm_rc 6 h x0) fun b4 =>
    hm_b2 (fX6_alike b4 x1 x5 x3 x4 h) fun v5 h3 =>
    if v5 ≤ (2 : Int32) then
      fX6_tellDrawn_67 K6 x0 x1 x3 x4 x5 x6 v5 h3
    else
      hm_b (hm_rc 6 h3 x0) fun b7 =>
      hm_b (fX6_tellStretch b7 (64 : Int32) x1 x6 x5 x4 h3) fun h6 =>
      hm_b (hm_rc 6 h6 x0) fun b9 =>
      hm_b (fX6_tellStretch b9 (128 : Int32) x1 x5 (x5 + v5) x4 h6) fun h8 =>
      hm_let (x5 + v5) fun v10 =>
      fX6_tellDrawn_67 K6 x0 x1 x3 x4 x5 v10 v5 h8
def fX6_tellDrawn (t : Nat) (a1 : Int32) (a2 : Int32) (a3 : Int32) (a4 : Int32) (h0 : hm_H) : Option hm_H :=
  hm_loop (fun _ _ _ _ _ _ _ => none) (fX6_tellDrawn_6) hm_fu (some t) a1 a3 a4 a2 a2 h0
set_option maxRecDepth 100000 in
set_option maxHeartbeats 8000000 in
theorem kX6_tellDrawn (l : Launch) (D : va_G) (kA : Nat → ClassId) (t : Nat) (a1 : Int32) (a2 : Int32) (a3 : Int32) (a4 : Int32) (h0 h' : hm_H) (hf : fX6_tellDrawn t a1 a2 a3 a4 h0 = some h') : hm_C l yX6_tellDrawn wsX6_tellDrawn { frames := 3, cells := 0, slots := 0, locals := 78 } D vwCl kA (hm_ty kA) [.ref t, .int a1, .int a2, .int a3, .int a4] h0 none h' 0 0 := by
  refine Met.ofW (cc := cX6_tellDrawn) (maxL := 8) (ret := none) (by decide) rfl ?_
  intro p e s m args below meth c s₁ B hml hv
  obtain ⟨hargs, hB⟩ := hv
  have hx := B.exec
  have hb := B.bytes
  have hr := B.returns
  have hts := atoms_spec (ws := wsX6_tellDrawn) B.pre
  have hown : s.vm.findClass RX6 = some m.cls := findClass_of_methodNamed B.named
  have hlocks := B.notSynchronized
  have hK := hB.2
  have hI := hm_start hB
  have B6 : ∀ (fu : Nat) (x0 : Option Nat) (x1 : Int32) (x3 : Int32) (x4 : Int32) (x5 : Int32) (x6 : Int32) (h : hm_H), hm_loop (fun _ _ _ _ _ _ _ => none) (fX6_tellDrawn_6) fu x0 x1 x3 x4 x5 x6 h = some h' → ∀ (H : Heap) (locs : List Loc) (ls : Array Slot), hm_I D vwCl kA (hm_A h0) s.heap h H locs → lv_has ls 8 [(0, va_rf x0), (1, .int x1), (3, .int x3), (4, .int x4), (5, .int x5), (6, .int x6)] → W p l e (headSpec wsX6_tellDrawn { frames := 3, cells := 0, slots := 0, locals := 78 }).room s m args below meth c H locs 0 0 (MQ below (hm_Q D vwCl kA (hm_ty kA) h0 none h') args s 0 0 (hm_A h0)) (F0 m 6 ls []) := by
    intro fu
    induction fu with
    | zero => intro x0 x1 x3 x4 x5 x6 h hf; cases hf
    | succ fu ih6 =>
      rw [hm_loop_s]
      generalize hm_loop (fun _ _ _ _ _ _ _ => none) (fX6_tellDrawn_6) fu = K6 at ih6 ⊢
      have B67 : ∀ (x0 : Option Nat) (x1 : Int32) (x3 : Int32) (x4 : Int32) (x5 : Int32) (x6 : Int32) (x7 : Int32) (h : hm_H), fX6_tellDrawn_67 K6 x0 x1 x3 x4 x5 x6 x7 h = some h' → ∀ (H : Heap) (locs : List Loc) (ls : Array Slot), hm_I D vwCl kA (hm_A h0) s.heap h H locs → lv_has ls 8 [(0, va_rf x0), (1, .int x1), (3, .int x3), (4, .int x4), (5, .int x5), (6, .int x6), (7, .int x7)] → W p l e (headSpec wsX6_tellDrawn { frames := 3, cells := 0, slots := 0, locals := 78 }).room s m args below meth c H locs 0 0 (MQ below (hm_Q D vwCl kA (hm_ty kA) h0 none h') args s 0 0 (hm_A h0)) (F0 m 67 ls []) := by
        intro x0 x1 x3 x4 x5 x6 x7 h hf H locs ls hI hl
        unfold fX6_tellDrawn_67 at hf
        refine lv_iload hx hb dX6_tellDrawn_67 (lv_at hl 4 rfl) ?_
        refine lv_iload hx hb dX6_tellDrawn_69 (lv_at hl 6 rfl) ?_
        refine lv_iadd hx hb dX6_tellDrawn_71 ?_
        obtain ⟨v11, ev11, hf⟩ := hm_let_s hf
        refine hm_ti ev11 ?_
        refine lv_istore (lv' := [(5, .int v11), (0, va_rf x0), (1, .int x1), (3, .int x3), (4, .int x4), (6, .int x6), (7, .int x7)]) hx hb dX6_tellDrawn_72 hl (by decide) rfl (fun ls hl => ?_)
        refine lv_goto (tgt := 6) hx hb dX6_tellDrawn_74 (by decide) ?_
        exact ih6 x0 x1 x3 x4 v11 x6 h hf _ _ _ hI (lv_sub hl [1, 2, 3, 4, 0, 5] rfl)
      intro x0 x1 x3 x4 x5 x6 h hf H locs ls hI hl
      unfold fX6_tellDrawn_6 at hf
      refine lv_iload hx hb dX6_tellDrawn_6 (lv_at hl 4 rfl) ?_
      refine lv_iload_n hx hb dX6_tellDrawn_8 rfl (lv_at hl 2 rfl) ?_
      refine lv_icmp_ge (tgt := 77) hx hb dX6_tellDrawn_9 (by decide) (fun c => ?_) (fun c => ?_)
      · rw [if_pos c] at hf
        refine hm_aload_n hx hb dX6_tellDrawn_77 rfl (lv_at hl 0 rfl) ?_
        refine lv_bipush (v := (64 : Int32)) hx hb dX6_tellDrawn_78 (by decide) ?_
        refine lv_iload_n hx hb dX6_tellDrawn_80 rfl (lv_at hl 1 rfl) ?_
        refine lv_iload hx hb dX6_tellDrawn_81 (lv_at hl 5 rfl) ?_
        refine lv_iload_n hx hb dX6_tellDrawn_83 rfl (lv_at hl 2 rfl) ?_
        refine lv_iload hx hb dX6_tellDrawn_84 (lv_at hl 3 rfl) ?_
        obtain ⟨b2, eb2, hf⟩ := hm_b_s hf
        obtain ⟨h1, eh1, hf⟩ := hm_b_s hf
        refine hm_cV (As := [.int (64 : Int32), .int x1, .int x6, .int x3, .int x4]) (rest := []) ⟨hx, hb, hml, hown, hts⟩ hK hI eb2 rfl rfl (kX6_tellStretch l D kA b2 (64 : Int32) x1 x6 x3 x4 h h1 eh1) (cwV 5 hts gX6_tellDrawn_X6_tellStretch rfl rfl rfl (by decide +kernel) ⟨Nat.le_of_ble_eq_true rfl, Nat.le_of_ble_eq_true rfl⟩) rfl hl.1 rfl (by first | exact Nat.le_of_ble_eq_true rfl | (simp only [List.map, hm_rf_cat, hm_ci, hm_cl, List.sum_cons, List.sum_nil] <;> decide)) dX6_tellDrawn_86 ⟨Nat.le_of_ble_eq_true rfl, Nat.le_of_ble_eq_true rfl⟩ (fun H locs hI => ?_)
        refine W.eq (g2 := F0 m 89 ls []) rfl ?_
        exact hm_vret_e hf hx hb hr hlocks hK hI (Nat.le_of_ble_eq_true rfl) (Nat.le_of_ble_eq_true rfl) dX6_tellDrawn_89
      · rw [if_neg c] at hf
        refine hm_aload_n hx hb dX6_tellDrawn_12 rfl (lv_at hl 0 rfl) ?_
        refine lv_iload_n hx hb dX6_tellDrawn_13 rfl (lv_at hl 1 rfl) ?_
        refine lv_iload hx hb dX6_tellDrawn_14 (lv_at hl 4 rfl) ?_
        refine lv_iload_n hx hb dX6_tellDrawn_16 rfl (lv_at hl 2 rfl) ?_
        refine lv_iload hx hb dX6_tellDrawn_17 (lv_at hl 3 rfl) ?_
        obtain ⟨b4, eb4, hf⟩ := hm_b_s hf
        obtain ⟨v5, h3, eh3, hf⟩ := hm_b2_s hf
        refine hm_cV (As := [.int x1, .int x5, .int x3, .int x4]) (rest := []) ⟨hx, hb, hml, hown, hts⟩ hK hI eb4 rfl rfl (kX6_alike l D kA b4 x1 x5 x3 x4 h h3 v5 eh3) (cwV 4 hts gX6_tellDrawn_X6_alike rfl rfl rfl (by decide +kernel) ⟨Nat.le_of_ble_eq_true rfl, Nat.le_of_ble_eq_true rfl⟩) rfl hl.1 rfl (by first | exact Nat.le_of_ble_eq_true rfl | (simp only [List.map, hm_rf_cat, hm_ci, hm_cl, List.sum_cons, List.sum_nil] <;> decide)) dX6_tellDrawn_19 ⟨Nat.le_of_ble_eq_true rfl, Nat.le_of_ble_eq_true rfl⟩ (fun H locs hI => ?_)
        refine lv_istore (lv' := [(7, .int v5), (0, va_rf x0), (1, .int x1), (3, .int x3), (4, .int x4), (5, .int x5), (6, .int x6)]) hx hb dX6_tellDrawn_22 hl (by decide) rfl (fun ls hl => ?_)
        refine lv_iload hx hb dX6_tellDrawn_24 (lv_at hl 0 rfl) ?_
        refine lv_iconst (v := (2 : Int32)) hx hb dX6_tellDrawn_26 (by decide) ?_
        refine lv_icmp_le (tgt := 67) hx hb dX6_tellDrawn_27 (by decide) (fun c => ?_) (fun c => ?_)
        · rw [if_pos c] at hf
          exact B67 x0 x1 x3 x4 x5 x6 v5 h3 hf _ _ _ hI (lv_sub hl [1, 2, 3, 4, 5, 6, 0] rfl)
        · rw [if_neg c] at hf
          refine hm_aload_n hx hb dX6_tellDrawn_30 rfl (lv_at hl 1 rfl) ?_
          refine lv_bipush (v := (64 : Int32)) hx hb dX6_tellDrawn_31 (by decide) ?_
          refine lv_iload_n hx hb dX6_tellDrawn_33 rfl (lv_at hl 2 rfl) ?_
          refine lv_iload hx hb dX6_tellDrawn_34 (lv_at hl 6 rfl) ?_
          refine lv_iload hx hb dX6_tellDrawn_36 (lv_at hl 5 rfl) ?_
          refine lv_iload hx hb dX6_tellDrawn_38 (lv_at hl 4 rfl) ?_
          obtain ⟨b7, eb7, hf⟩ := hm_b_s hf
          obtain ⟨h6, eh6, hf⟩ := hm_b_s hf
          refine hm_cV (As := [.int (64 : Int32), .int x1, .int x6, .int x5, .int x4]) (rest := []) ⟨hx, hb, hml, hown, hts⟩ hK hI eb7 rfl rfl (kX6_tellStretch l D kA b7 (64 : Int32) x1 x6 x5 x4 h3 h6 eh6) (cwV 5 hts gX6_tellDrawn_X6_tellStretch rfl rfl rfl (by decide +kernel) ⟨Nat.le_of_ble_eq_true rfl, Nat.le_of_ble_eq_true rfl⟩) rfl hl.1 rfl (by first | exact Nat.le_of_ble_eq_true rfl | (simp only [List.map, hm_rf_cat, hm_ci, hm_cl, List.sum_cons, List.sum_nil] <;> decide)) dX6_tellDrawn_40 ⟨Nat.le_of_ble_eq_true rfl, Nat.le_of_ble_eq_true rfl⟩ (fun H locs hI => ?_)
          refine W.eq (g2 := F0 m 43 ls []) rfl ?_
          refine hm_aload_n hx hb dX6_tellDrawn_43 rfl (lv_at hl 1 rfl) ?_
          refine lv_sipush (v := (128 : Int32)) hx hb dX6_tellDrawn_44 (by decide) ?_
          refine lv_iload_n hx hb dX6_tellDrawn_47 rfl (lv_at hl 2 rfl) ?_
          refine lv_iload hx hb dX6_tellDrawn_48 (lv_at hl 5 rfl) ?_
          refine lv_iload hx hb dX6_tellDrawn_50 (lv_at hl 5 rfl) ?_
          refine lv_iload hx hb dX6_tellDrawn_52 (lv_at hl 0 rfl) ?_
          refine lv_iadd hx hb dX6_tellDrawn_54 ?_
          refine lv_iload hx hb dX6_tellDrawn_55 (lv_at hl 4 rfl) ?_
          obtain ⟨b9, eb9, hf⟩ := hm_b_s hf
          obtain ⟨h8, eh8, hf⟩ := hm_b_s hf
          refine hm_cV (As := [.int (128 : Int32), .int x1, .int x5, .int (x5 + v5), .int x4]) (rest := []) ⟨hx, hb, hml, hown, hts⟩ hK hI eb9 rfl rfl (kX6_tellStretch l D kA b9 (128 : Int32) x1 x5 (x5 + v5) x4 h6 h8 eh8) (cwV 5 hts gX6_tellDrawn_X6_tellStretch rfl rfl rfl (by decide +kernel) ⟨Nat.le_of_ble_eq_true rfl, Nat.le_of_ble_eq_true rfl⟩) rfl hl.1 rfl (by first | exact Nat.le_of_ble_eq_true rfl | (simp only [List.map, hm_rf_cat, hm_ci, hm_cl, List.sum_cons, List.sum_nil] <;> decide)) dX6_tellDrawn_57 ⟨Nat.le_of_ble_eq_true rfl, Nat.le_of_ble_eq_true rfl⟩ (fun H locs hI => ?_)
          refine W.eq (g2 := F0 m 60 ls []) rfl ?_
          refine lv_iload hx hb dX6_tellDrawn_60 (lv_at hl 5 rfl) ?_
          refine lv_iload hx hb dX6_tellDrawn_62 (lv_at hl 0 rfl) ?_
          refine lv_iadd hx hb dX6_tellDrawn_64 ?_
          obtain ⟨v10, ev10, hf⟩ := hm_let_s hf
          refine hm_ti ev10 ?_
          refine lv_istore (lv' := [(6, .int v10), (7, .int v5), (0, va_rf x0), (1, .int x1), (3, .int x3), (4, .int x4), (5, .int x5)]) hx hb dX6_tellDrawn_65 hl (by decide) rfl (fun ls hl => ?_)
          exact B67 x0 x1 x3 x4 x5 v10 v5 h8 hf _ _ _ hI (lv_sub hl [2, 3, 4, 5, 6, 0, 1] rfl)
  rw [show entryFrame m args 8 = entryFrame m ([.ref t, .int a1, .int a2, .int a3, .int a4] : List Value).toArray 8 from by rw [hargs]]
  have hl := lv_entry ([.ref t, .int a1, .int a2, .int a3, .int a4]) (n := 8) (Nat.le_of_ble_eq_true rfl)
  rw [lg_entry_eq]
  generalize (lg_sl ([.ref t, .int a1, .int a2, .int a3, .int a4]) ++ List.replicate (8 - (lg_sl ([.ref t, .int a1, .int a2, .int a3, .int a4])).length) Slot.unset).toArray = ls at hl ⊢
  have hl : lv_has ls 8 [(0, va_rf (some t)), (1, .int a1), (2, .int a2), (3, .int a3), (4, .int a4)] := hl
  unfold fX6_tellDrawn at hf
  refine lv_iload_n hx hb dX6_tellDrawn_0 rfl (lv_at hl 2 rfl) ?_
  refine lv_istore (lv' := [(5, .int a2), (0, va_rf (some t)), (1, .int a1), (2, .int a2), (3, .int a3), (4, .int a4)]) hx hb dX6_tellDrawn_1 hl (by decide) rfl (fun ls hl => ?_)
  refine lv_iload_n hx hb dX6_tellDrawn_3 rfl (lv_at hl 3 rfl) ?_
  refine lv_istore (lv' := [(6, .int a2), (5, .int a2), (0, va_rf (some t)), (1, .int a1), (2, .int a2), (3, .int a3), (4, .int a4)]) hx hb dX6_tellDrawn_4 hl (by decide) rfl (fun ls hl => ?_)
  exact B6 hm_fu (some t) a1 a3 a4 a2 a2 h0 hf _ _ _ hI (lv_sub hl [2, 3, 5, 6, 1, 0] rfl)
/-! ==== X6_tellRow: BlitBoardModel.tellRow(III)V ==== -/
def fX6_tellRow_120 (K3 : Option Nat → Int32 → Int32 → Int32 → Int32 → hm_H → Option hm_H) (x0 : Option Nat) (x1 : Int32) (x2 : Int32) (x3 : Int32) (x5 : Int32) (h : hm_H) : Option hm_H :=
  K3 x0 x1 x2 x3 x5 h
def fX6_tellRow_80 (K3 : Option Nat → Int32 → Int32 → Int32 → Int32 → hm_H → Option hm_H) (x0 : Option Nat) (x1 : Int32) (x2 : Int32) (x3 : Int32) (x4 : Int32) (x5 : Int32) (x6 : Int32) (h : hm_H) : Option hm_H :=
  if x6 = 0 then
    hm_b (hm_gq 6 2 h x0) fun v13 =>
    hm_b (hm_ai 0 h v13 x1) fun v14 =>
    if v14 ≤ x5 then
      fX6_tellRow_120 K3 x0 x1 x2 x3 x5 h
    else
      hm_b (hm_rc 6 h x0) fun b16 =>
      hm_b (fX6_tellStretch b16 (0 : Int32) x1 x4 x5 x3 h) fun h15 =>
      fX6_tellRow_120 K3 x0 x1 x2 x3 x5 h15
  else
    hm_b (hm_rc 6 h x0) fun b18 =>
    hm_b (fX6_tellDrawn b18 x1 x4 x5 x3 h) fun h17 =>
    fX6_tellRow_120 K3 x0 x1 x2 x3 x5 h17
def fX6_tellRow_69 (K3 : Option Nat → Int32 → Int32 → Int32 → Int32 → hm_H → Option hm_H) (K39 : Option Nat → Int32 → Int32 → Int32 → Int32 → Int32 → Int32 → hm_H → Option hm_H) (x0 : Option Nat) (x1 : Int32) (x2 : Int32) (x3 : Int32) (x4 : Int32) (x5 : Int32) (x6 : Int32) (s0 : Int32) (h : hm_H) : Option hm_H :=
  if s0 = x6 then
    K39 x0 x1 x2 x3 x4 (x5 + (1 : Int32)) x6 h
  else
    fX6_tellRow_80 K3 x0 x1 x2 x3 x4 x5 x6 h
def fX6_tellRow_39 (K3 : Option Nat → Int32 → Int32 → Int32 → Int32 → hm_H → Option hm_H) (K39 : Option Nat → Int32 → Int32 → Int32 → Int32 → Int32 → Int32 → hm_H → Option hm_H) (x0 : Option Nat) (x1 : Int32) (x2 : Int32) (x3 : Int32) (x4 : Int32) (x5 : Int32) (x6 : Int32) (h : hm_H) : Option hm_H :=
  hm_b (hm_gq 6 2 h x0) fun v8 =>
  hm_b (hm_ai 0 h v8 x1) fun v9 =>
  if v9 ≤ x5 then
    fX6_tellRow_80 K3 x0 x1 x2 x3 x4 x5 x6 h
  else
    hm_b (hm_rc 6 h x0) fun b11 =>
    hm_b2 (fX6_dot b11 x1 ((x5).toInt64) ((x3).toInt64) h) fun v12 h10 =>
    if v12 = x2 then
      fX6_tellRow_69 K3 K39 x0 x1 x2 x3 x4 x5 x6 (0 : Int32) h10
    else
      fX6_tellRow_69 K3 K39 x0 x1 x2 x3 x4 x5 x6 (1 : Int32) h10
def fX6_tellRow_37 (K3 : Option Nat → Int32 → Int32 → Int32 → Int32 → hm_H → Option hm_H) (x0 : Option Nat) (x1 : Int32) (x2 : Int32) (x3 : Int32) (x4 : Int32) (x5 : Int32) (s0 : Int32) (h : hm_H) : Option hm_H :=
  hm_loop (fun _ _ _ _ _ _ _ _ => none) (fX6_tellRow_39 K3) hm_fu x0 x1 x2 x3 x4 x5 s0 h
def fX6_tellRow_3 (K3 : Option Nat → Int32 → Int32 → Int32 → Int32 → hm_H → Option hm_H) (x0 : Option Nat) (x1 : Int32) (x2 : Int32) (x3 : Int32) (x4 : Int32) (h : hm_H) : Option hm_H :=
  hm_b (hm_gq 6 2 h x0) fun v1 =>
  hm_b (hm_ai 0 h v1 x1) fun v2 =>
  if v2 ≤ x4 then
    hm_b (hm_rc 6 h x0) fun b4 =>
    hm_b (fX6_put b4 (0 : Int32) h) fun h3 =>
    some h3
  else
    hm_b (hm_rc 6 h x0) fun b6 =>
    hm_b2 (fX6_dot b6 x1 ((x4).toInt64) ((x3).toInt64) h) fun v7 h5 =>
    if v7 = x2 then
      fX6_tellRow_37 K3 x0 x1 x2 x3 x4 x4 (0 : Int32) h5
    else
      fX6_tellRow_37 K3 x0 x1 x2 x3 x4 x4 (1 : Int32) h5
def fX6_tellRow (t : Nat) (a1 : Int32) (a2 : Int32) (a3 : Int32) (h0 : hm_H) : Option hm_H :=
  hm_loop (fun _ _ _ _ _ _ => none) (fX6_tellRow_3) hm_fu (some t) a1 a2 a3 (0 : Int32) h0
set_option maxRecDepth 100000 in
set_option maxHeartbeats 8000000 in
theorem kX6_tellRow (l : Launch) (D : va_G) (kA : Nat → ClassId) (t : Nat) (a1 : Int32) (a2 : Int32) (a3 : Int32) (h0 h' : hm_H) (hf : fX6_tellRow t a1 a2 a3 h0 = some h') : hm_C l yX6_tellRow wsX6_tellRow { frames := 4, cells := 0, slots := 0, locals := 105 } D vwCl kA (hm_ty kA) [.ref t, .int a1, .int a2, .int a3] h0 none h' 0 0 := by
  refine Met.ofW (cc := cX6_tellRow) (maxL := 7) (ret := none) (by decide) rfl ?_
  intro p e s m args below meth c s₁ B hml hv
  obtain ⟨hargs, hB⟩ := hv
  have hx := B.exec
  have hb := B.bytes
  have hr := B.returns
  have hts := atoms_spec (ws := wsX6_tellRow) B.pre
  have hown : s.vm.findClass RX6 = some m.cls := findClass_of_methodNamed B.named
  have hlocks := B.notSynchronized
  have hK := hB.2
  have hI := hm_start hB
  have w1 := hts (.fieldLink RX6 13 "BlitBoardModel" "wides" "[I") (by decide +kernel)
  have hiX6 : ∀ w ∈ wsX60, w ∈ wsX6_tellRow := by decide +kernel
  have B3 : ∀ (fu : Nat) (x0 : Option Nat) (x1 : Int32) (x2 : Int32) (x3 : Int32) (x4 : Int32) (h : hm_H), hm_loop (fun _ _ _ _ _ _ => none) (fX6_tellRow_3) fu x0 x1 x2 x3 x4 h = some h' → ∀ (H : Heap) (locs : List Loc) (ls : Array Slot), hm_I D vwCl kA (hm_A h0) s.heap h H locs → lv_has ls 7 [(0, va_rf x0), (1, .int x1), (2, .int x2), (3, .int x3), (4, .int x4)] → W p l e (headSpec wsX6_tellRow { frames := 4, cells := 0, slots := 0, locals := 105 }).room s m args below meth c H locs 0 0 (MQ below (hm_Q D vwCl kA (hm_ty kA) h0 none h') args s 0 0 (hm_A h0)) (F0 m 3 ls []) := by
    intro fu
    induction fu with
    | zero => intro x0 x1 x2 x3 x4 h hf; cases hf
    | succ fu ih3 =>
      rw [hm_loop_s]
      generalize hm_loop (fun _ _ _ _ _ _ => none) (fX6_tellRow_3) fu = K3 at ih3 ⊢
      have B120 : ∀ (x0 : Option Nat) (x1 : Int32) (x2 : Int32) (x3 : Int32) (x5 : Int32) (h : hm_H), fX6_tellRow_120 K3 x0 x1 x2 x3 x5 h = some h' → ∀ (H : Heap) (locs : List Loc) (ls : Array Slot), hm_I D vwCl kA (hm_A h0) s.heap h H locs → lv_has ls 7 [(0, va_rf x0), (1, .int x1), (2, .int x2), (3, .int x3), (5, .int x5)] → W p l e (headSpec wsX6_tellRow { frames := 4, cells := 0, slots := 0, locals := 105 }).room s m args below meth c H locs 0 0 (MQ below (hm_Q D vwCl kA (hm_ty kA) h0 none h') args s 0 0 (hm_A h0)) (F0 m 120 ls []) := by
        intro x0 x1 x2 x3 x5 h hf H locs ls hI hl
        unfold fX6_tellRow_120 at hf
        refine lv_iload hx hb dX6_tellRow_120 (lv_at hl 4 rfl) ?_
        refine lv_istore (lv' := [(4, .int x5), (0, va_rf x0), (1, .int x1), (2, .int x2), (3, .int x3), (5, .int x5)]) hx hb dX6_tellRow_122 hl (by decide) rfl (fun ls hl => ?_)
        refine lv_goto (tgt := 3) hx hb dX6_tellRow_124 (by decide) ?_
        exact ih3 x0 x1 x2 x3 x5 h hf _ _ _ hI (lv_sub hl [1, 2, 3, 4, 0] rfl)
      have B80 : ∀ (x0 : Option Nat) (x1 : Int32) (x2 : Int32) (x3 : Int32) (x4 : Int32) (x5 : Int32) (x6 : Int32) (h : hm_H), fX6_tellRow_80 K3 x0 x1 x2 x3 x4 x5 x6 h = some h' → ∀ (H : Heap) (locs : List Loc) (ls : Array Slot), hm_I D vwCl kA (hm_A h0) s.heap h H locs → lv_has ls 7 [(0, va_rf x0), (1, .int x1), (2, .int x2), (3, .int x3), (4, .int x4), (5, .int x5), (6, .int x6)] → W p l e (headSpec wsX6_tellRow { frames := 4, cells := 0, slots := 0, locals := 105 }).room s m args below meth c H locs 0 0 (MQ below (hm_Q D vwCl kA (hm_ty kA) h0 none h') args s 0 0 (hm_A h0)) (F0 m 80 ls []) := by
        intro x0 x1 x2 x3 x4 x5 x6 h hf H locs ls hI hl
        unfold fX6_tellRow_80 at hf
        refine lv_iload hx hb dX6_tellRow_80 (lv_at hl 6 rfl) ?_
        refine lv_if_eq (tgt := 98) hx hb dX6_tellRow_82 (by decide) (fun c => ?_) (fun c => ?_)
        · rw [if_pos c] at hf
          refine lv_iload hx hb dX6_tellRow_98 (lv_at hl 5 rfl) ?_
          refine hm_aload_n hx hb dX6_tellRow_100 rfl (lv_at hl 0 rfl) ?_
          obtain ⟨v13, ev13, hf⟩ := hm_b_s hf
          refine hm_get (ci := 6) (k := 2) (C := RX6) (T := TX6) (N := 16) hx hb hts hiX6 hown hK hI rfl (by decide) w1 (hm_gq_s ev13) dX6_tellRow_101 ?_
          refine lv_iload_n hx hb dX6_tellRow_104 rfl (lv_at hl 1 rfl) ?_
          obtain ⟨v14, ev14, hf⟩ := hm_b_s hf
          refine hm_iald (kd := 0) (t0 := 0) hx hb hK hI rfl ev14 dX6_tellRow_105 ?_
          refine lv_icmp_ge (tgt := 120) hx hb dX6_tellRow_106 (by decide) (fun c => ?_) (fun c => ?_)
          · rw [if_pos c] at hf
            exact B120 x0 x1 x2 x3 x5 h hf _ _ _ hI (lv_sub hl [0, 1, 2, 3, 5] rfl)
          · rw [if_neg c] at hf
            refine hm_aload_n hx hb dX6_tellRow_109 rfl (lv_at hl 0 rfl) ?_
            refine lv_iconst (v := (0 : Int32)) hx hb dX6_tellRow_110 (by decide) ?_
            refine lv_iload_n hx hb dX6_tellRow_111 rfl (lv_at hl 1 rfl) ?_
            refine lv_iload hx hb dX6_tellRow_112 (lv_at hl 4 rfl) ?_
            refine lv_iload hx hb dX6_tellRow_114 (lv_at hl 5 rfl) ?_
            refine lv_iload_n hx hb dX6_tellRow_116 rfl (lv_at hl 3 rfl) ?_
            obtain ⟨b16, eb16, hf⟩ := hm_b_s hf
            obtain ⟨h15, eh15, hf⟩ := hm_b_s hf
            refine hm_cV (As := [.int (0 : Int32), .int x1, .int x4, .int x5, .int x3]) (rest := []) ⟨hx, hb, hml, hown, hts⟩ hK hI eb16 rfl rfl (kX6_tellStretch l D kA b16 (0 : Int32) x1 x4 x5 x3 h h15 eh15) (cwV 5 hts gX6_tellRow_X6_tellStretch rfl rfl rfl (by decide +kernel) ⟨Nat.le_of_ble_eq_true rfl, Nat.le_of_ble_eq_true rfl⟩) rfl hl.1 rfl (by first | exact Nat.le_of_ble_eq_true rfl | (simp only [List.map, hm_rf_cat, hm_ci, hm_cl, List.sum_cons, List.sum_nil] <;> decide)) dX6_tellRow_117 ⟨Nat.le_of_ble_eq_true rfl, Nat.le_of_ble_eq_true rfl⟩ (fun H locs hI => ?_)
            refine W.eq (g2 := F0 m 120 ls []) rfl ?_
            exact B120 x0 x1 x2 x3 x5 h15 hf _ _ _ hI (lv_sub hl [0, 1, 2, 3, 5] rfl)
        · rw [if_neg c] at hf
          refine hm_aload_n hx hb dX6_tellRow_85 rfl (lv_at hl 0 rfl) ?_
          refine lv_iload_n hx hb dX6_tellRow_86 rfl (lv_at hl 1 rfl) ?_
          refine lv_iload hx hb dX6_tellRow_87 (lv_at hl 4 rfl) ?_
          refine lv_iload hx hb dX6_tellRow_89 (lv_at hl 5 rfl) ?_
          refine lv_iload_n hx hb dX6_tellRow_91 rfl (lv_at hl 3 rfl) ?_
          obtain ⟨b18, eb18, hf⟩ := hm_b_s hf
          obtain ⟨h17, eh17, hf⟩ := hm_b_s hf
          refine hm_cV (As := [.int x1, .int x4, .int x5, .int x3]) (rest := []) ⟨hx, hb, hml, hown, hts⟩ hK hI eb18 rfl rfl (kX6_tellDrawn l D kA b18 x1 x4 x5 x3 h h17 eh17) (cwV 4 hts gX6_tellRow_X6_tellDrawn rfl rfl rfl (by decide +kernel) ⟨Nat.le_of_ble_eq_true rfl, Nat.le_of_ble_eq_true rfl⟩) rfl hl.1 rfl (by first | exact Nat.le_of_ble_eq_true rfl | (simp only [List.map, hm_rf_cat, hm_ci, hm_cl, List.sum_cons, List.sum_nil] <;> decide)) dX6_tellRow_92 ⟨Nat.le_of_ble_eq_true rfl, Nat.le_of_ble_eq_true rfl⟩ (fun H locs hI => ?_)
          refine W.eq (g2 := F0 m 95 ls []) rfl ?_
          refine lv_goto (tgt := 120) hx hb dX6_tellRow_95 (by decide) ?_
          exact B120 x0 x1 x2 x3 x5 h17 hf _ _ _ hI (lv_sub hl [0, 1, 2, 3, 5] rfl)
      have B39 : ∀ (fu : Nat) (x0 : Option Nat) (x1 : Int32) (x2 : Int32) (x3 : Int32) (x4 : Int32) (x5 : Int32) (x6 : Int32) (h : hm_H), hm_loop (fun _ _ _ _ _ _ _ _ => none) (fX6_tellRow_39 K3) fu x0 x1 x2 x3 x4 x5 x6 h = some h' → ∀ (H : Heap) (locs : List Loc) (ls : Array Slot), hm_I D vwCl kA (hm_A h0) s.heap h H locs → lv_has ls 7 [(0, va_rf x0), (1, .int x1), (2, .int x2), (3, .int x3), (4, .int x4), (5, .int x5), (6, .int x6)] → W p l e (headSpec wsX6_tellRow { frames := 4, cells := 0, slots := 0, locals := 105 }).room s m args below meth c H locs 0 0 (MQ below (hm_Q D vwCl kA (hm_ty kA) h0 none h') args s 0 0 (hm_A h0)) (F0 m 39 ls []) := by
        intro fu
        induction fu with
        | zero => intro x0 x1 x2 x3 x4 x5 x6 h hf; cases hf
        | succ fu ih39 =>
          rw [hm_loop_s]
          generalize hm_loop (fun _ _ _ _ _ _ _ _ => none) (fX6_tellRow_39 K3) fu = K39 at ih39 ⊢
          have B69 : ∀ (x0 : Option Nat) (x1 : Int32) (x2 : Int32) (x3 : Int32) (x4 : Int32) (x5 : Int32) (x6 : Int32) (s0 : Int32) (h : hm_H), fX6_tellRow_69 K3 K39 x0 x1 x2 x3 x4 x5 x6 s0 h = some h' → ∀ (H : Heap) (locs : List Loc) (ls : Array Slot), hm_I D vwCl kA (hm_A h0) s.heap h H locs → lv_has ls 7 [(0, va_rf x0), (1, .int x1), (2, .int x2), (3, .int x3), (4, .int x4), (5, .int x5), (6, .int x6)] → W p l e (headSpec wsX6_tellRow { frames := 4, cells := 0, slots := 0, locals := 105 }).room s m args below meth c H locs 0 0 (MQ below (hm_Q D vwCl kA (hm_ty kA) h0 none h') args s 0 0 (hm_A h0)) (F0 m 69 ls [.int s0]) := by
            intro x0 x1 x2 x3 x4 x5 x6 s0 h hf H locs ls hI hl
            unfold fX6_tellRow_69 at hf
            refine lv_iload hx hb dX6_tellRow_69 (lv_at hl 6 rfl) ?_
            refine lv_icmp_ne (tgt := 80) hx hb dX6_tellRow_71 (by decide) (fun c => ?_) (fun c => ?_)
            · rw [if_neg c] at hf
              exact B80 x0 x1 x2 x3 x4 x5 x6 h hf _ _ _ hI (lv_sub hl [0, 1, 2, 3, 4, 5, 6] rfl)
            · rw [if_pos c] at hf
              refine lv_iinc (v := x5 + (1 : Int32)) (lv' := [(5, .int (x5 + (1 : Int32))), (0, va_rf x0), (1, .int x1), (2, .int x2), (3, .int x3), (4, .int x4), (6, .int x6)]) hx hb dX6_tellRow_74 hl (k := 5) rfl rfl (by decide) rfl (fun ls hl => ?_)
              refine lv_goto (tgt := 39) hx hb dX6_tellRow_77 (by decide) ?_
              exact ih39 x0 x1 x2 x3 x4 (x5 + (1 : Int32)) x6 h hf _ _ _ hI (lv_sub hl [1, 2, 3, 4, 5, 0, 6] rfl)
          intro x0 x1 x2 x3 x4 x5 x6 h hf H locs ls hI hl
          unfold fX6_tellRow_39 at hf
          refine lv_iload hx hb dX6_tellRow_39 (lv_at hl 5 rfl) ?_
          refine hm_aload_n hx hb dX6_tellRow_41 rfl (lv_at hl 0 rfl) ?_
          obtain ⟨v8, ev8, hf⟩ := hm_b_s hf
          refine hm_get (ci := 6) (k := 2) (C := RX6) (T := TX6) (N := 16) hx hb hts hiX6 hown hK hI rfl (by decide) w1 (hm_gq_s ev8) dX6_tellRow_42 ?_
          refine lv_iload_n hx hb dX6_tellRow_45 rfl (lv_at hl 1 rfl) ?_
          obtain ⟨v9, ev9, hf⟩ := hm_b_s hf
          refine hm_iald (kd := 0) (t0 := 0) hx hb hK hI rfl ev9 dX6_tellRow_46 ?_
          refine lv_icmp_ge (tgt := 80) hx hb dX6_tellRow_47 (by decide) (fun c => ?_) (fun c => ?_)
          · rw [if_pos c] at hf
            exact B80 x0 x1 x2 x3 x4 x5 x6 h hf _ _ _ hI (lv_sub hl [0, 1, 2, 3, 4, 5, 6] rfl)
          · rw [if_neg c] at hf
            refine hm_aload_n hx hb dX6_tellRow_50 rfl (lv_at hl 0 rfl) ?_
            refine lv_iload_n hx hb dX6_tellRow_51 rfl (lv_at hl 1 rfl) ?_
            refine lv_iload hx hb dX6_tellRow_52 (lv_at hl 5 rfl) ?_
            refine lv_i2l (v := (x5).toInt64) hx hb dX6_tellRow_54 rfl ?_
            refine lv_iload_n hx hb dX6_tellRow_55 rfl (lv_at hl 3 rfl) ?_
            refine lv_i2l (v := (x3).toInt64) hx hb dX6_tellRow_56 rfl ?_
            obtain ⟨b11, eb11, hf⟩ := hm_b_s hf
            obtain ⟨v12, h10, eh10, hf⟩ := hm_b2_s hf
            refine hm_cV (As := [.int x1, .long ((x5).toInt64), .long ((x3).toInt64)]) (rest := []) ⟨hx, hb, hml, hown, hts⟩ hK hI eb11 rfl rfl (kX6_dot l D kA b11 x1 ((x5).toInt64) ((x3).toInt64) h h10 v12 eh10) (cwV 3 hts gX6_tellRow_X6_dot rfl rfl rfl (by decide +kernel) ⟨Nat.le_of_ble_eq_true rfl, Nat.le_of_ble_eq_true rfl⟩) rfl hl.1 rfl (by first | exact Nat.le_of_ble_eq_true rfl | (simp only [List.map, hm_rf_cat, hm_ci, hm_cl, List.sum_cons, List.sum_nil] <;> decide)) dX6_tellRow_57 ⟨Nat.le_of_ble_eq_true rfl, Nat.le_of_ble_eq_true rfl⟩ (fun H locs hI => ?_)
            refine lv_iload_n hx hb dX6_tellRow_60 rfl (lv_at hl 2 rfl) ?_
            refine lv_icmp_eq (tgt := 68) hx hb dX6_tellRow_61 (by decide) (fun c => ?_) (fun c => ?_)
            · rw [if_pos c] at hf
              refine lv_iconst (v := (0 : Int32)) hx hb dX6_tellRow_68 (by decide) ?_
              exact B69 x0 x1 x2 x3 x4 x5 x6 (0 : Int32) h10 hf _ _ _ hI (lv_sub hl [0, 1, 2, 3, 4, 5, 6] rfl)
            · rw [if_neg c] at hf
              refine lv_iconst (v := (1 : Int32)) hx hb dX6_tellRow_64 (by decide) ?_
              refine lv_goto (tgt := 69) hx hb dX6_tellRow_65 (by decide) ?_
              exact B69 x0 x1 x2 x3 x4 x5 x6 (1 : Int32) h10 hf _ _ _ hI (lv_sub hl [0, 1, 2, 3, 4, 5, 6] rfl)
      have B37 : ∀ (x0 : Option Nat) (x1 : Int32) (x2 : Int32) (x3 : Int32) (x4 : Int32) (x5 : Int32) (s0 : Int32) (h : hm_H), fX6_tellRow_37 K3 x0 x1 x2 x3 x4 x5 s0 h = some h' → ∀ (H : Heap) (locs : List Loc) (ls : Array Slot), hm_I D vwCl kA (hm_A h0) s.heap h H locs → lv_has ls 7 [(0, va_rf x0), (1, .int x1), (2, .int x2), (3, .int x3), (4, .int x4), (5, .int x5)] → W p l e (headSpec wsX6_tellRow { frames := 4, cells := 0, slots := 0, locals := 105 }).room s m args below meth c H locs 0 0 (MQ below (hm_Q D vwCl kA (hm_ty kA) h0 none h') args s 0 0 (hm_A h0)) (F0 m 37 ls [.int s0]) := by
        intro x0 x1 x2 x3 x4 x5 s0 h hf H locs ls hI hl
        unfold fX6_tellRow_37 at hf
        refine lv_istore (lv' := [(6, .int s0), (0, va_rf x0), (1, .int x1), (2, .int x2), (3, .int x3), (4, .int x4), (5, .int x5)]) hx hb dX6_tellRow_37 hl (by decide) rfl (fun ls hl => ?_)
        exact B39 hm_fu x0 x1 x2 x3 x4 x5 s0 h hf _ _ _ hI (lv_sub hl [1, 2, 3, 4, 5, 6, 0] rfl)
      intro x0 x1 x2 x3 x4 h hf H locs ls hI hl
      unfold fX6_tellRow_3 at hf
      refine lv_iload hx hb dX6_tellRow_3 (lv_at hl 4 rfl) ?_
      refine hm_aload_n hx hb dX6_tellRow_5 rfl (lv_at hl 0 rfl) ?_
      obtain ⟨v1, ev1, hf⟩ := hm_b_s hf
      refine hm_get (ci := 6) (k := 2) (C := RX6) (T := TX6) (N := 16) hx hb hts hiX6 hown hK hI rfl (by decide) w1 (hm_gq_s ev1) dX6_tellRow_6 ?_
      refine lv_iload_n hx hb dX6_tellRow_9 rfl (lv_at hl 1 rfl) ?_
      obtain ⟨v2, ev2, hf⟩ := hm_b_s hf
      refine hm_iald (kd := 0) (t0 := 0) hx hb hK hI rfl ev2 dX6_tellRow_10 ?_
      refine lv_icmp_ge (tgt := 127) hx hb dX6_tellRow_11 (by decide) (fun c => ?_) (fun c => ?_)
      · rw [if_pos c] at hf
        refine hm_aload_n hx hb dX6_tellRow_127 rfl (lv_at hl 0 rfl) ?_
        refine lv_iconst (v := (0 : Int32)) hx hb dX6_tellRow_128 (by decide) ?_
        obtain ⟨b4, eb4, hf⟩ := hm_b_s hf
        obtain ⟨h3, eh3, hf⟩ := hm_b_s hf
        refine hm_cV (As := [.int (0 : Int32)]) (rest := []) ⟨hx, hb, hml, hown, hts⟩ hK hI eb4 rfl rfl (kX6_put l D kA b4 (0 : Int32) h h3 eh3) (cwV 1 hts gX6_tellRow_X6_put rfl rfl rfl (by decide +kernel) ⟨Nat.le_of_ble_eq_true rfl, Nat.le_of_ble_eq_true rfl⟩) rfl hl.1 rfl (by first | exact Nat.le_of_ble_eq_true rfl | (simp only [List.map, hm_rf_cat, hm_ci, hm_cl, List.sum_cons, List.sum_nil] <;> decide)) dX6_tellRow_129 ⟨Nat.le_of_ble_eq_true rfl, Nat.le_of_ble_eq_true rfl⟩ (fun H locs hI => ?_)
        refine W.eq (g2 := F0 m 132 ls []) rfl ?_
        exact hm_vret_e hf hx hb hr hlocks hK hI (Nat.le_of_ble_eq_true rfl) (Nat.le_of_ble_eq_true rfl) dX6_tellRow_132
      · rw [if_neg c] at hf
        refine lv_iload hx hb dX6_tellRow_14 (lv_at hl 4 rfl) ?_
        refine lv_istore (lv' := [(5, .int x4), (0, va_rf x0), (1, .int x1), (2, .int x2), (3, .int x3), (4, .int x4)]) hx hb dX6_tellRow_16 hl (by decide) rfl (fun ls hl => ?_)
        refine hm_aload_n hx hb dX6_tellRow_18 rfl (lv_at hl 1 rfl) ?_
        refine lv_iload_n hx hb dX6_tellRow_19 rfl (lv_at hl 2 rfl) ?_
        refine lv_iload hx hb dX6_tellRow_20 (lv_at hl 5 rfl) ?_
        refine lv_i2l (v := (x4).toInt64) hx hb dX6_tellRow_22 rfl ?_
        refine lv_iload_n hx hb dX6_tellRow_23 rfl (lv_at hl 4 rfl) ?_
        refine lv_i2l (v := (x3).toInt64) hx hb dX6_tellRow_24 rfl ?_
        obtain ⟨b6, eb6, hf⟩ := hm_b_s hf
        obtain ⟨v7, h5, eh5, hf⟩ := hm_b2_s hf
        refine hm_cV (As := [.int x1, .long ((x4).toInt64), .long ((x3).toInt64)]) (rest := []) ⟨hx, hb, hml, hown, hts⟩ hK hI eb6 rfl rfl (kX6_dot l D kA b6 x1 ((x4).toInt64) ((x3).toInt64) h h5 v7 eh5) (cwV 3 hts gX6_tellRow_X6_dot rfl rfl rfl (by decide +kernel) ⟨Nat.le_of_ble_eq_true rfl, Nat.le_of_ble_eq_true rfl⟩) rfl hl.1 rfl (by first | exact Nat.le_of_ble_eq_true rfl | (simp only [List.map, hm_rf_cat, hm_ci, hm_cl, List.sum_cons, List.sum_nil] <;> decide)) dX6_tellRow_25 ⟨Nat.le_of_ble_eq_true rfl, Nat.le_of_ble_eq_true rfl⟩ (fun H locs hI => ?_)
        refine lv_iload_n hx hb dX6_tellRow_28 rfl (lv_at hl 3 rfl) ?_
        refine lv_icmp_eq (tgt := 36) hx hb dX6_tellRow_29 (by decide) (fun c => ?_) (fun c => ?_)
        · rw [if_pos c] at hf
          refine lv_iconst (v := (0 : Int32)) hx hb dX6_tellRow_36 (by decide) ?_
          exact B37 x0 x1 x2 x3 x4 x4 (0 : Int32) h5 hf _ _ _ hI (lv_sub hl [1, 2, 3, 4, 5, 0] rfl)
        · rw [if_neg c] at hf
          refine lv_iconst (v := (1 : Int32)) hx hb dX6_tellRow_32 (by decide) ?_
          refine lv_goto (tgt := 37) hx hb dX6_tellRow_33 (by decide) ?_
          exact B37 x0 x1 x2 x3 x4 x4 (1 : Int32) h5 hf _ _ _ hI (lv_sub hl [1, 2, 3, 4, 5, 0] rfl)
  rw [show entryFrame m args 7 = entryFrame m ([.ref t, .int a1, .int a2, .int a3] : List Value).toArray 7 from by rw [hargs]]
  have hl := lv_entry ([.ref t, .int a1, .int a2, .int a3]) (n := 7) (Nat.le_of_ble_eq_true rfl)
  rw [lg_entry_eq]
  generalize (lg_sl ([.ref t, .int a1, .int a2, .int a3]) ++ List.replicate (7 - (lg_sl ([.ref t, .int a1, .int a2, .int a3])).length) Slot.unset).toArray = ls at hl ⊢
  have hl : lv_has ls 7 [(0, va_rf (some t)), (1, .int a1), (2, .int a2), (3, .int a3)] := hl
  unfold fX6_tellRow at hf
  refine lv_iconst (v := (0 : Int32)) hx hb dX6_tellRow_0 (by decide) ?_
  refine lv_istore (lv' := [(4, .int (0 : Int32)), (0, va_rf (some t)), (1, .int a1), (2, .int a2), (3, .int a3)]) hx hb dX6_tellRow_1 hl (by decide) rfl (fun ls hl => ?_)
  exact B3 hm_fu (some t) a1 a2 a3 (0 : Int32) h0 hf _ _ _ hI (lv_sub hl [1, 2, 3, 4, 0] rfl)
