/-! ==== X5_load: BlitBoard.load(IJI)I ==== -/
def fX5_load_47 (K47 : Int64 → Option Nat → Int32 → hm_H → Option (Int32 × hm_H)) (x2 : Int64) (x5 : Option Nat) (x6 : Int32) (h : hm_H) : Option (Int32 × hm_H) :=
  if x6 < 0 then
    hm_b (hm_gi 2 1 h x5) fun v6 =>
    some (v6, h)
  else
    hm_b (hm_rc 2 h x5) fun b8 =>
    hm_b (fX2_append b8 (((((x2).toUInt64 >>> (((8 : Int32) * x6).toInt64.toUInt64 &&& Int64.toUInt64 63)).toInt64).toInt32) &&& (255 : Int32)) h) fun h7 =>
    K47 x2 x5 (x6 + (-1 : Int32)) h7
def fX5_load (t : Nat) (a1 : Int32) (a2 : Int64) (a3 : Int32) (h0 : hm_H) : Option (Int32 × hm_H) :=
  hm_b (hm_rc 5 h0 (some t)) fun b2 =>
  hm_b2 (fX5_spriteAt b2 a1 h0) fun v3 h1 =>
  if v3 = none then
    some ((-1 : Int32), h1)
  else
    if a3 < (1 : Int32) then
      some ((-1 : Int32), h1)
    else
      if (8 : Int32) < a3 then
        some ((-1 : Int32), h1)
      else
        hm_b (hm_gi 2 1 h1 v3) fun v4 =>
        if (v4 + a3) ≤ (5000 : Int32) then
          hm_let (a3 - (1 : Int32)) fun v5 =>
          hm_loop (fun _ _ _ _ => none) (fX5_load_47) hm_fu a2 v3 v5 h1
        else
          some ((-1 : Int32), h1)
set_option maxRecDepth 100000 in
set_option maxHeartbeats 8000000 in
theorem kX5_load (l : Launch) (D : va_G) (kA : Nat → ClassId) (t : Nat) (a1 : Int32) (a2 : Int64) (a3 : Int32) (h0 h' : hm_H) (r : Int32) (hf : fX5_load t a1 a2 a3 h0 = some (r, h')) : hm_C l yX5_load wsX5_load { frames := 1, cells := 0, slots := 0, locals := 21 } D vwCl kA (hm_ty kA) [.ref t, .int a1, .long a2, .int a3] h0 (some (.int r)) h' 0 0 := by
  refine Met.ofW (cc := cX5_load) (maxL := 7) (ret := (some .int)) (by decide) rfl ?_
  intro p e s m args below meth c s₁ B hml hv
  obtain ⟨hargs, hB⟩ := hv
  have hx := B.exec
  have hb := B.bytes
  have hr := B.returns
  have hts := atoms_spec (ws := wsX5_load) B.pre
  have hown : s.vm.findClass RX5 = some m.cls := findClass_of_methodNamed B.named
  have hlocks := B.notSynchronized
  have hK := hB.2
  have hI := hm_start hB
  have w1 := hts (.fieldLink RX5 168 "BlitBoard$Sprite" "size" "I") (by decide +kernel)
  have hiX2 : ∀ w ∈ wsX20, w ∈ wsX5_load := by decide +kernel
  have B47 : ∀ (fu : Nat) (x2 : Int64) (x5 : Option Nat) (x6 : Int32) (h : hm_H), hm_loop (fun _ _ _ _ => none) (fX5_load_47) fu x2 x5 x6 h = some (r, h') → ∀ (H : Heap) (locs : List Loc) (ls : Array Slot), hm_I D vwCl kA (hm_A h0) s.heap h H locs → lv_has ls 7 [(2, .long x2), (5, va_rf x5), (6, .int x6)] → W p l e (headSpec wsX5_load { frames := 1, cells := 0, slots := 0, locals := 21 }).room s m args below meth c H locs 0 0 (MQ below (hm_Q D vwCl kA (hm_ty kA) h0 (some (.int r)) h') args s 0 0 (hm_A h0)) (F0 m 47 ls []) := by
    intro fu
    induction fu with
    | zero => intro x2 x5 x6 h hf; cases hf
    | succ fu ih47 =>
      rw [hm_loop_s]
      generalize hm_loop (fun _ _ _ _ => none) (fX5_load_47) fu = K47 at ih47 ⊢
      intro x2 x5 x6 h hf H locs ls hI hl
      unfold fX5_load_47 at hf
      refine lv_iload hx hb dX5_load_47 (lv_at hl 2 rfl) ?_
      refine lv_if_lt (tgt := 75) hx hb dX5_load_49 (by decide) (fun c => ?_) (fun c => ?_)
      · rw [if_pos c] at hf
        refine hm_aload hx hb dX5_load_75 (lv_at hl 1 rfl) ?_
        obtain ⟨v6, ev6, hf⟩ := hm_b_s hf
        refine hm_get (ci := 2) (k := 1) (C := RX2) (T := TX2) (N := 3) hx hb hts hiX2 hown hK hI rfl (by decide) w1 (hm_gi_s ev6) dX5_load_77 ?_
        exact hm_iret_e hf hx hb hr hlocks hK hI (Nat.le_of_ble_eq_true rfl) (Nat.le_of_ble_eq_true rfl) dX5_load_80
      · rw [if_neg c] at hf
        refine hm_aload hx hb dX5_load_52 (lv_at hl 1 rfl) ?_
        refine lv_lload_n hx hb dX5_load_54 rfl (lv_at hl 0 rfl) ?_
        refine lv_bipush (v := (8 : Int32)) hx hb dX5_load_55 (by decide) ?_
        refine lv_iload hx hb dX5_load_57 (lv_at hl 2 rfl) ?_
        refine lv_imul hx hb dX5_load_59 ?_
        refine lv_lushr (v := ((x2).toUInt64 >>> (((8 : Int32) * x6).toInt64.toUInt64 &&& Int64.toUInt64 63)).toInt64) hx hb dX5_load_60 rfl ?_
        refine lv_l2i (v := (((x2).toUInt64 >>> (((8 : Int32) * x6).toInt64.toUInt64 &&& Int64.toUInt64 63)).toInt64).toInt32) hx hb dX5_load_61 rfl ?_
        refine lv_sipush (v := (255 : Int32)) hx hb dX5_load_62 (by decide) ?_
        refine lv_iand hx hb dX5_load_65 ?_
        obtain ⟨b8, eb8, hf⟩ := hm_b_s hf
        obtain ⟨h7, eh7, hf⟩ := hm_b_s hf
        refine hm_cV (As := [.int (((((x2).toUInt64 >>> (((8 : Int32) * x6).toInt64.toUInt64 &&& Int64.toUInt64 63)).toInt64).toInt32) &&& (255 : Int32))]) (rest := []) ⟨hx, hb, hml, hown, hts⟩ hK hI eb8 rfl rfl (kX2_append l D kA b8 (((((x2).toUInt64 >>> (((8 : Int32) * x6).toInt64.toUInt64 &&& Int64.toUInt64 63)).toInt64).toInt32) &&& (255 : Int32)) h h7 eh7) (cwV 1 hts gX5_load_X2_append rfl rfl rfl (by decide +kernel) ⟨Nat.le_of_ble_eq_true rfl, Nat.le_of_ble_eq_true rfl⟩) rfl hl.1 rfl (by first | exact Nat.le_of_ble_eq_true rfl | (simp only [List.map, hm_rf_cat, hm_ci, hm_cl, List.sum_cons, List.sum_nil] <;> decide)) dX5_load_66 ⟨Nat.le_of_ble_eq_true rfl, Nat.le_of_ble_eq_true rfl⟩ (fun H locs hI => ?_)
        refine W.eq (g2 := F0 m 69 ls []) rfl ?_
        refine lv_iinc (v := x6 + (-1 : Int32)) (lv' := [(6, .int (x6 + (-1 : Int32))), (2, .long x2), (5, va_rf x5)]) hx hb dX5_load_69 hl (k := 2) rfl rfl (by decide) (by simp only [List.filter, hm_cat2, Bool.and_false, Bool.not_false] <;> rfl) (fun ls hl => ?_)
        refine lv_goto (tgt := 47) hx hb dX5_load_72 (by decide) ?_
        exact ih47 x2 x5 (x6 + (-1 : Int32)) h7 hf _ _ _ hI (lv_sub hl [1, 2, 0] rfl)
  rw [show entryFrame m args 7 = entryFrame m ([.ref t, .int a1, .long a2, .int a3] : List Value).toArray 7 from by rw [hargs]]
  have hl := lv_entry ([.ref t, .int a1, .long a2, .int a3]) (n := 7) (Nat.le_of_ble_eq_true rfl)
  rw [lg_entry_eq]
  generalize (lg_sl ([.ref t, .int a1, .long a2, .int a3]) ++ List.replicate (7 - (lg_sl ([.ref t, .int a1, .long a2, .int a3])).length) Slot.unset).toArray = ls at hl ⊢
  have hl : lv_has ls 7 [(0, va_rf (some t)), (1, .int a1), (2, .long a2), (4, .int a3)] := hl
  unfold fX5_load at hf
  refine hm_aload_n hx hb dX5_load_0 rfl (lv_at hl 0 rfl) ?_
  refine lv_iload_n hx hb dX5_load_1 rfl (lv_at hl 1 rfl) ?_
  obtain ⟨b2, eb2, hf⟩ := hm_b_s hf
  obtain ⟨v3, h1, eh1, hf⟩ := hm_b2_s hf
  refine hm_cV (As := [.int a1]) (rest := []) ⟨hx, hb, hml, hown, hts⟩ hK hI eb2 rfl rfl (kX5_spriteAt l D kA b2 a1 h0 h1 v3 eh1) (cwV 1 hts gX5_load_X5_spriteAt rfl rfl rfl (by decide +kernel) ⟨Nat.le_of_ble_eq_true rfl, Nat.le_of_ble_eq_true rfl⟩) rfl hl.1 rfl (by first | exact Nat.le_of_ble_eq_true rfl | (simp only [List.map, hm_rf_cat, hm_ci, hm_cl, List.sum_cons, List.sum_nil] <;> decide)) dX5_load_2 ⟨Nat.le_of_ble_eq_true rfl, Nat.le_of_ble_eq_true rfl⟩ (fun H locs hI => ?_)
  refine hm_astore (lv' := [(5, va_rf v3), (0, va_rf (some t)), (1, .int a1), (2, .long a2), (4, .int a3)]) hx hb dX5_load_5 hl (by decide) rfl (fun ls hl => ?_)
  refine hm_aload hx hb dX5_load_7 (lv_at hl 0 rfl) ?_
  refine hm_ifnull (tgt := 39) hx hb dX5_load_9 (by decide) (fun c => ?_) (fun c => ?_)
  · rw [if_pos c] at hf
    refine lv_iconst (v := (-1 : Int32)) hx hb dX5_load_39 (by decide) ?_
    exact hm_iret_e hf hx hb hr hlocks hK hI (Nat.le_of_ble_eq_true rfl) (Nat.le_of_ble_eq_true rfl) dX5_load_40
  · rw [if_neg c] at hf
    refine lv_iload hx hb dX5_load_12 (lv_at hl 4 rfl) ?_
    refine lv_iconst (v := (1 : Int32)) hx hb dX5_load_14 (by decide) ?_
    refine lv_icmp_lt (tgt := 39) hx hb dX5_load_15 (by decide) (fun c => ?_) (fun c => ?_)
    · rw [if_pos c] at hf
      refine lv_iconst (v := (-1 : Int32)) hx hb dX5_load_39 (by decide) ?_
      exact hm_iret_e hf hx hb hr hlocks hK hI (Nat.le_of_ble_eq_true rfl) (Nat.le_of_ble_eq_true rfl) dX5_load_40
    · rw [if_neg c] at hf
      refine lv_iload hx hb dX5_load_18 (lv_at hl 4 rfl) ?_
      refine lv_bipush (v := (8 : Int32)) hx hb dX5_load_20 (by decide) ?_
      refine lv_icmp_gt (tgt := 39) hx hb dX5_load_22 (by decide) (fun c => ?_) (fun c => ?_)
      · rw [if_pos c] at hf
        refine lv_iconst (v := (-1 : Int32)) hx hb dX5_load_39 (by decide) ?_
        exact hm_iret_e hf hx hb hr hlocks hK hI (Nat.le_of_ble_eq_true rfl) (Nat.le_of_ble_eq_true rfl) dX5_load_40
      · rw [if_neg c] at hf
        refine hm_aload hx hb dX5_load_25 (lv_at hl 0 rfl) ?_
        obtain ⟨v4, ev4, hf⟩ := hm_b_s hf
        refine hm_get (ci := 2) (k := 1) (C := RX2) (T := TX2) (N := 3) hx hb hts hiX2 hown hK hI rfl (by decide) w1 (hm_gi_s ev4) dX5_load_27 ?_
        refine lv_iload hx hb dX5_load_30 (lv_at hl 4 rfl) ?_
        refine lv_iadd hx hb dX5_load_32 ?_
        refine lv_sipush (v := (5000 : Int32)) hx hb dX5_load_33 (by decide) ?_
        refine lv_icmp_le (tgt := 41) hx hb dX5_load_36 (by decide) (fun c => ?_) (fun c => ?_)
        · rw [if_pos c] at hf
          refine lv_iload hx hb dX5_load_41 (lv_at hl 4 rfl) ?_
          refine lv_iconst (v := (1 : Int32)) hx hb dX5_load_43 (by decide) ?_
          refine lv_isub hx hb dX5_load_44 ?_
          obtain ⟨v5, ev5, hf⟩ := hm_let_s hf
          refine hm_ti ev5 ?_
          refine lv_istore (lv' := [(6, .int v5), (5, va_rf v3), (0, va_rf (some t)), (1, .int a1), (2, .long a2), (4, .int a3)]) hx hb dX5_load_45 hl (by decide) (by simp only [List.filter, hm_cat2, Bool.and_false, Bool.not_false] <;> rfl) (fun ls hl => ?_)
          exact B47 hm_fu a2 v3 v5 h1 hf _ _ _ hI (lv_sub hl [4, 1, 0] rfl)
        · rw [if_neg c] at hf
          refine lv_iconst (v := (-1 : Int32)) hx hb dX5_load_39 (by decide) ?_
          exact hm_iret_e hf hx hb hr hlocks hK hI (Nat.le_of_ble_eq_true rfl) (Nat.le_of_ble_eq_true rfl) dX5_load_40
/-! ==== X5_forget: BlitBoard.forget(I)I ==== -/
def fX5_forget (t : Nat) (a1 : Int32) (h0 : hm_H) : Option (Int32 × hm_H) :=
  hm_b (hm_rc 5 h0 (some t)) fun b2 =>
  hm_b2 (fX5_spriteAt b2 a1 h0) fun v3 h1 =>
  if v3 = none then
    some ((-1 : Int32), h1)
  else
    hm_b (hm_gi 2 1 h1 v3) fun v4 =>
    hm_b (hm_rc 2 h1 v3) fun b6 =>
    hm_b (fX2_empty b6 h1) fun h5 =>
    some (v4, h5)
set_option maxRecDepth 100000 in
set_option maxHeartbeats 8000000 in
theorem kX5_forget (l : Launch) (D : va_G) (kA : Nat → ClassId) (t : Nat) (a1 : Int32) (h0 h' : hm_H) (r : Int32) (hf : fX5_forget t a1 h0 = some (r, h')) : hm_C l yX5_forget wsX5_forget { frames := 1, cells := 0, slots := 0, locals := 21 } D vwCl kA (hm_ty kA) [.ref t, .int a1] h0 (some (.int r)) h' 0 0 := by
  refine Met.ofW (cc := cX5_forget) (maxL := 4) (ret := (some .int)) (by decide) rfl ?_
  intro p e s m args below meth c s₁ B hml hv
  obtain ⟨hargs, hB⟩ := hv
  have hx := B.exec
  have hb := B.bytes
  have hr := B.returns
  have hts := atoms_spec (ws := wsX5_forget) B.pre
  have hown : s.vm.findClass RX5 = some m.cls := findClass_of_methodNamed B.named
  have hlocks := B.notSynchronized
  have hK := hB.2
  have hI := hm_start hB
  have w1 := hts (.fieldLink RX5 168 "BlitBoard$Sprite" "size" "I") (by decide +kernel)
  have hiX2 : ∀ w ∈ wsX20, w ∈ wsX5_forget := by decide +kernel
  rw [show entryFrame m args 4 = entryFrame m ([.ref t, .int a1] : List Value).toArray 4 from by rw [hargs]]
  have hl := lv_entry ([.ref t, .int a1]) (n := 4) (Nat.le_of_ble_eq_true rfl)
  rw [lg_entry_eq]
  generalize (lg_sl ([.ref t, .int a1]) ++ List.replicate (4 - (lg_sl ([.ref t, .int a1])).length) Slot.unset).toArray = ls at hl ⊢
  have hl : lv_has ls 4 [(0, va_rf (some t)), (1, .int a1)] := hl
  unfold fX5_forget at hf
  refine hm_aload_n hx hb dX5_forget_0 rfl (lv_at hl 0 rfl) ?_
  refine lv_iload_n hx hb dX5_forget_1 rfl (lv_at hl 1 rfl) ?_
  obtain ⟨b2, eb2, hf⟩ := hm_b_s hf
  obtain ⟨v3, h1, eh1, hf⟩ := hm_b2_s hf
  refine hm_cV (As := [.int a1]) (rest := []) ⟨hx, hb, hml, hown, hts⟩ hK hI eb2 rfl rfl (kX5_spriteAt l D kA b2 a1 h0 h1 v3 eh1) (cwV 1 hts gX5_forget_X5_spriteAt rfl rfl rfl (by decide +kernel) ⟨Nat.le_of_ble_eq_true rfl, Nat.le_of_ble_eq_true rfl⟩) rfl hl.1 rfl (by first | exact Nat.le_of_ble_eq_true rfl | (simp only [List.map, hm_rf_cat, hm_ci, hm_cl, List.sum_cons, List.sum_nil] <;> decide)) dX5_forget_2 ⟨Nat.le_of_ble_eq_true rfl, Nat.le_of_ble_eq_true rfl⟩ (fun H locs hI => ?_)
  refine hm_astore_n (lv' := [(2, va_rf v3), (0, va_rf (some t)), (1, .int a1)]) hx hb dX5_forget_5 rfl hl (by decide) rfl (fun ls hl => ?_)
  refine hm_aload_n hx hb dX5_forget_6 rfl (lv_at hl 0 rfl) ?_
  refine hm_ifnonnull (tgt := 12) hx hb dX5_forget_7 (by decide) (fun c => ?_) (fun c => ?_)
  · rw [if_neg c] at hf
    refine hm_aload_n hx hb dX5_forget_12 rfl (lv_at hl 0 rfl) ?_
    obtain ⟨v4, ev4, hf⟩ := hm_b_s hf
    refine hm_get (ci := 2) (k := 1) (C := RX2) (T := TX2) (N := 3) hx hb hts hiX2 hown hK hI rfl (by decide) w1 (hm_gi_s ev4) dX5_forget_13 ?_
    refine lv_istore_n (lv' := [(3, .int v4), (2, va_rf v3), (0, va_rf (some t)), (1, .int a1)]) hx hb dX5_forget_16 rfl hl (by decide) (by simp only [List.filter, hm_cat2, Bool.and_false, Bool.not_false] <;> rfl) (fun ls hl => ?_)
    refine hm_aload_n hx hb dX5_forget_17 rfl (lv_at hl 1 rfl) ?_
    obtain ⟨b6, eb6, hf⟩ := hm_b_s hf
    obtain ⟨h5, eh5, hf⟩ := hm_b_s hf
    refine hm_cV (As := []) (rest := []) ⟨hx, hb, hml, hown, hts⟩ hK hI eb6 rfl rfl (kX2_empty l D kA b6 h1 h5 eh5) (cwV 0 hts gX5_forget_X2_empty rfl rfl rfl (by decide +kernel) ⟨Nat.le_of_ble_eq_true rfl, Nat.le_of_ble_eq_true rfl⟩) rfl hl.1 rfl (by first | exact Nat.le_of_ble_eq_true rfl | (simp only [List.map, hm_rf_cat, hm_ci, hm_cl, List.sum_cons, List.sum_nil] <;> decide)) dX5_forget_18 ⟨Nat.le_of_ble_eq_true rfl, Nat.le_of_ble_eq_true rfl⟩ (fun H locs hI => ?_)
    refine W.eq (g2 := F0 m 21 ls []) rfl ?_
    refine lv_iload_n hx hb dX5_forget_21 rfl (lv_at hl 0 rfl) ?_
    exact hm_iret_e hf hx hb hr hlocks hK hI (Nat.le_of_ble_eq_true rfl) (Nat.le_of_ble_eq_true rfl) dX5_forget_22
  · rw [if_pos c] at hf
    refine lv_iconst (v := (-1 : Int32)) hx hb dX5_forget_10 (by decide) ?_
    exact hm_iret_e hf hx hb hr hlocks hK hI (Nat.le_of_ble_eq_true rfl) (Nat.le_of_ble_eq_true rfl) dX5_forget_11
/-! ==== X5_part: BlitBoard.part(II)I ==== -/
def fX5_part (t : Nat) (a1 : Int32) (a2 : Int32) (h0 : hm_H) : Option (Int32 × hm_H) :=
  hm_b (hm_rc 5 h0 (some t)) fun b2 =>
  hm_b2 (fX5_spriteAt b2 a1 h0) fun v3 h1 =>
  if v3 = none then
    some ((-1 : Int32), h1)
  else
    if a2 < 0 then
      some ((-1 : Int32), h1)
    else
      hm_b (hm_gi 2 1 h1 v3) fun v4 =>
      if a2 < v4 then
        hm_b (hm_gq 2 0 h1 v3) fun v5 =>
        hm_b (hm_ai 0 h1 v5 a2) fun v6 =>
        some (v6, h1)
      else
        some ((-1 : Int32), h1)
set_option maxRecDepth 100000 in
set_option maxHeartbeats 8000000 in
theorem kX5_part (l : Launch) (D : va_G) (kA : Nat → ClassId) (t : Nat) (a1 : Int32) (a2 : Int32) (h0 h' : hm_H) (r : Int32) (hf : fX5_part t a1 a2 h0 = some (r, h')) : hm_C l yX5_part wsX5_part { frames := 1, cells := 0, slots := 0, locals := 21 } D vwCl kA (hm_ty kA) [.ref t, .int a1, .int a2] h0 (some (.int r)) h' 0 0 := by
  refine Met.ofW (cc := cX5_part) (maxL := 4) (ret := (some .int)) (by decide) rfl ?_
  intro p e s m args below meth c s₁ B hml hv
  obtain ⟨hargs, hB⟩ := hv
  have hx := B.exec
  have hb := B.bytes
  have hr := B.returns
  have hts := atoms_spec (ws := wsX5_part) B.pre
  have hown : s.vm.findClass RX5 = some m.cls := findClass_of_methodNamed B.named
  have hlocks := B.notSynchronized
  have hK := hB.2
  have hI := hm_start hB
  have w1 := hts (.fieldLink RX5 168 "BlitBoard$Sprite" "size" "I") (by decide +kernel)
  have w2 := hts (.fieldLink RX5 174 "BlitBoard$Sprite" "bytes" "[I") (by decide +kernel)
  have hiX2 : ∀ w ∈ wsX20, w ∈ wsX5_part := by decide +kernel
  rw [show entryFrame m args 4 = entryFrame m ([.ref t, .int a1, .int a2] : List Value).toArray 4 from by rw [hargs]]
  have hl := lv_entry ([.ref t, .int a1, .int a2]) (n := 4) (Nat.le_of_ble_eq_true rfl)
  rw [lg_entry_eq]
  generalize (lg_sl ([.ref t, .int a1, .int a2]) ++ List.replicate (4 - (lg_sl ([.ref t, .int a1, .int a2])).length) Slot.unset).toArray = ls at hl ⊢
  have hl : lv_has ls 4 [(0, va_rf (some t)), (1, .int a1), (2, .int a2)] := hl
  unfold fX5_part at hf
  refine hm_aload_n hx hb dX5_part_0 rfl (lv_at hl 0 rfl) ?_
  refine lv_iload_n hx hb dX5_part_1 rfl (lv_at hl 1 rfl) ?_
  obtain ⟨b2, eb2, hf⟩ := hm_b_s hf
  obtain ⟨v3, h1, eh1, hf⟩ := hm_b2_s hf
  refine hm_cV (As := [.int a1]) (rest := []) ⟨hx, hb, hml, hown, hts⟩ hK hI eb2 rfl rfl (kX5_spriteAt l D kA b2 a1 h0 h1 v3 eh1) (cwV 1 hts gX5_part_X5_spriteAt rfl rfl rfl (by decide +kernel) ⟨Nat.le_of_ble_eq_true rfl, Nat.le_of_ble_eq_true rfl⟩) rfl hl.1 rfl (by first | exact Nat.le_of_ble_eq_true rfl | (simp only [List.map, hm_rf_cat, hm_ci, hm_cl, List.sum_cons, List.sum_nil] <;> decide)) dX5_part_2 ⟨Nat.le_of_ble_eq_true rfl, Nat.le_of_ble_eq_true rfl⟩ (fun H locs hI => ?_)
  refine hm_astore_n (lv' := [(3, va_rf v3), (0, va_rf (some t)), (1, .int a1), (2, .int a2)]) hx hb dX5_part_5 rfl hl (by decide) rfl (fun ls hl => ?_)
  refine hm_aload_n hx hb dX5_part_6 rfl (lv_at hl 0 rfl) ?_
  refine hm_ifnull (tgt := 22) hx hb dX5_part_7 (by decide) (fun c => ?_) (fun c => ?_)
  · rw [if_pos c] at hf
    refine lv_iconst (v := (-1 : Int32)) hx hb dX5_part_22 (by decide) ?_
    exact hm_iret_e hf hx hb hr hlocks hK hI (Nat.le_of_ble_eq_true rfl) (Nat.le_of_ble_eq_true rfl) dX5_part_23
  · rw [if_neg c] at hf
    refine lv_iload_n hx hb dX5_part_10 rfl (lv_at hl 3 rfl) ?_
    refine lv_if_lt (tgt := 22) hx hb dX5_part_11 (by decide) (fun c => ?_) (fun c => ?_)
    · rw [if_pos c] at hf
      refine lv_iconst (v := (-1 : Int32)) hx hb dX5_part_22 (by decide) ?_
      exact hm_iret_e hf hx hb hr hlocks hK hI (Nat.le_of_ble_eq_true rfl) (Nat.le_of_ble_eq_true rfl) dX5_part_23
    · rw [if_neg c] at hf
      refine lv_iload_n hx hb dX5_part_14 rfl (lv_at hl 3 rfl) ?_
      refine hm_aload_n hx hb dX5_part_15 rfl (lv_at hl 0 rfl) ?_
      obtain ⟨v4, ev4, hf⟩ := hm_b_s hf
      refine hm_get (ci := 2) (k := 1) (C := RX2) (T := TX2) (N := 3) hx hb hts hiX2 hown hK hI rfl (by decide) w1 (hm_gi_s ev4) dX5_part_16 ?_
      refine lv_icmp_lt (tgt := 24) hx hb dX5_part_19 (by decide) (fun c => ?_) (fun c => ?_)
      · rw [if_pos c] at hf
        refine hm_aload_n hx hb dX5_part_24 rfl (lv_at hl 0 rfl) ?_
        obtain ⟨v5, ev5, hf⟩ := hm_b_s hf
        refine hm_get (ci := 2) (k := 0) (C := RX2) (T := TX2) (N := 3) hx hb hts hiX2 hown hK hI rfl (by decide) w2 (hm_gq_s ev5) dX5_part_25 ?_
        refine lv_iload_n hx hb dX5_part_28 rfl (lv_at hl 3 rfl) ?_
        obtain ⟨v6, ev6, hf⟩ := hm_b_s hf
        refine hm_iald (kd := 0) (t0 := 0) hx hb hK hI rfl ev6 dX5_part_29 ?_
        exact hm_iret_e hf hx hb hr hlocks hK hI (Nat.le_of_ble_eq_true rfl) (Nat.le_of_ble_eq_true rfl) dX5_part_30
      · rw [if_neg c] at hf
        refine lv_iconst (v := (-1 : Int32)) hx hb dX5_part_22 (by decide) ?_
        exact hm_iret_e hf hx hb hr hlocks hK hI (Nat.le_of_ble_eq_true rfl) (Nat.le_of_ble_eq_true rfl) dX5_part_23
/-! ==== X5_draw: BlitBoard.draw(IIII)I ==== -/
def fX5_draw (t : Nat) (a1 : Int32) (a2 : Int32) (a3 : Int32) (a4 : Int32) (h0 : hm_H) : Option (Int32 × hm_H) :=
  hm_b (hm_rc 5 h0 (some t)) fun b2 =>
  hm_b2 (fX5_spriteAt b2 a1 h0) fun v3 h1 =>
  hm_b (hm_rc 5 h1 (some t)) fun b5 =>
  hm_b2 (fX5_surfaceAt b5 a2 h1) fun v6 h4 =>
  if v3 = none then
    some ((-1 : Int32), h4)
  else
    if v6 = none then
      some ((-1 : Int32), h4)
    else
      hm_b (hm_gi 3 1 h4 v6) fun v7 =>
      hm_b (hm_rc 2 h4 v3) fun b9 =>
      hm_b2 (fX2_firstWrong b9 v7 h4) fun v10 h8 =>
      if v10 = 0 then
        hm_b (hm_rc 2 h8 v3) fun b12 =>
        hm_b (fX2_paint b12 v6 a3 a4 h8) fun h11 =>
        some (v10, h11)
      else
        some (v10, h8)
set_option maxRecDepth 100000 in
set_option maxHeartbeats 8000000 in
theorem kX5_draw (l : Launch) (D : va_G) (kA : Nat → ClassId) (t : Nat) (a1 : Int32) (a2 : Int32) (a3 : Int32) (a4 : Int32) (h0 h' : hm_H) (r : Int32) (hf : fX5_draw t a1 a2 a3 a4 h0 = some (r, h')) : hm_C l yX5_draw wsX5_draw { frames := 4, cells := 0, slots := 0, locals := 105 } D vwCl kA (hm_ty kA) [.ref t, .int a1, .int a2, .int a3, .int a4] h0 (some (.int r)) h' 0 0 := by
  refine Met.ofW (cc := cX5_draw) (maxL := 8) (ret := (some .int)) (by decide) rfl ?_
  intro p e s m args below meth c s₁ B hml hv
  obtain ⟨hargs, hB⟩ := hv
  have hx := B.exec
  have hb := B.bytes
  have hr := B.returns
  have hts := atoms_spec (ws := wsX5_draw) B.pre
  have hown : s.vm.findClass RX5 = some m.cls := findClass_of_methodNamed B.named
  have hlocks := B.notSynchronized
  have hK := hB.2
  have hI := hm_start hB
  have w1 := hts (.fieldLink RX5 177 "BlitBoard$Surface" "largest" "I") (by decide +kernel)
  have hiX3 : ∀ w ∈ wsX30, w ∈ wsX5_draw := by decide +kernel
  rw [show entryFrame m args 8 = entryFrame m ([.ref t, .int a1, .int a2, .int a3, .int a4] : List Value).toArray 8 from by rw [hargs]]
  have hl := lv_entry ([.ref t, .int a1, .int a2, .int a3, .int a4]) (n := 8) (Nat.le_of_ble_eq_true rfl)
  rw [lg_entry_eq]
  generalize (lg_sl ([.ref t, .int a1, .int a2, .int a3, .int a4]) ++ List.replicate (8 - (lg_sl ([.ref t, .int a1, .int a2, .int a3, .int a4])).length) Slot.unset).toArray = ls at hl ⊢
  have hl : lv_has ls 8 [(0, va_rf (some t)), (1, .int a1), (2, .int a2), (3, .int a3), (4, .int a4)] := hl
  unfold fX5_draw at hf
  refine hm_aload_n hx hb dX5_draw_0 rfl (lv_at hl 0 rfl) ?_
  refine lv_iload_n hx hb dX5_draw_1 rfl (lv_at hl 1 rfl) ?_
  obtain ⟨b2, eb2, hf⟩ := hm_b_s hf
  obtain ⟨v3, h1, eh1, hf⟩ := hm_b2_s hf
  refine hm_cV (As := [.int a1]) (rest := []) ⟨hx, hb, hml, hown, hts⟩ hK hI eb2 rfl rfl (kX5_spriteAt l D kA b2 a1 h0 h1 v3 eh1) (cwV 1 hts gX5_draw_X5_spriteAt rfl rfl rfl (by decide +kernel) ⟨Nat.le_of_ble_eq_true rfl, Nat.le_of_ble_eq_true rfl⟩) rfl hl.1 rfl (by first | exact Nat.le_of_ble_eq_true rfl | (simp only [List.map, hm_rf_cat, hm_ci, hm_cl, List.sum_cons, List.sum_nil] <;> decide)) dX5_draw_2 ⟨Nat.le_of_ble_eq_true rfl, Nat.le_of_ble_eq_true rfl⟩ (fun H locs hI => ?_)
  refine hm_astore (lv' := [(5, va_rf v3), (0, va_rf (some t)), (1, .int a1), (2, .int a2), (3, .int a3), (4, .int a4)]) hx hb dX5_draw_5 hl (by decide) rfl (fun ls hl => ?_)
  refine hm_aload_n hx hb dX5_draw_7 rfl (lv_at hl 1 rfl) ?_
  refine lv_iload_n hx hb dX5_draw_8 rfl (lv_at hl 3 rfl) ?_
  obtain ⟨b5, eb5, hf⟩ := hm_b_s hf
  obtain ⟨v6, h4, eh4, hf⟩ := hm_b2_s hf
  refine hm_cV (As := [.int a2]) (rest := []) ⟨hx, hb, hml, hown, hts⟩ hK hI eb5 rfl rfl (kX5_surfaceAt l D kA b5 a2 h1 h4 v6 eh4) (cwV 1 hts gX5_draw_X5_surfaceAt rfl rfl rfl (by decide +kernel) ⟨Nat.le_of_ble_eq_true rfl, Nat.le_of_ble_eq_true rfl⟩) rfl hl.1 rfl (by first | exact Nat.le_of_ble_eq_true rfl | (simp only [List.map, hm_rf_cat, hm_ci, hm_cl, List.sum_cons, List.sum_nil] <;> decide)) dX5_draw_9 ⟨Nat.le_of_ble_eq_true rfl, Nat.le_of_ble_eq_true rfl⟩ (fun H locs hI => ?_)
  refine hm_astore (lv' := [(6, va_rf v6), (5, va_rf v3), (0, va_rf (some t)), (1, .int a1), (2, .int a2), (3, .int a3), (4, .int a4)]) hx hb dX5_draw_12 hl (by decide) (by simp only [List.filter, hm_cat2, Bool.and_false, Bool.not_false] <;> rfl) (fun ls hl => ?_)
  refine hm_aload hx hb dX5_draw_14 (lv_at hl 1 rfl) ?_
  refine hm_ifnull (tgt := 24) hx hb dX5_draw_16 (by decide) (fun c => ?_) (fun c => ?_)
  · rw [if_pos c] at hf
    refine lv_iconst (v := (-1 : Int32)) hx hb dX5_draw_24 (by decide) ?_
    exact hm_iret_e hf hx hb hr hlocks hK hI (Nat.le_of_ble_eq_true rfl) (Nat.le_of_ble_eq_true rfl) dX5_draw_25
  · rw [if_neg c] at hf
    refine hm_aload hx hb dX5_draw_19 (lv_at hl 0 rfl) ?_
    refine hm_ifnonnull (tgt := 26) hx hb dX5_draw_21 (by decide) (fun c => ?_) (fun c => ?_)
    · rw [if_neg c] at hf
      refine hm_aload hx hb dX5_draw_26 (lv_at hl 1 rfl) ?_
      refine hm_aload hx hb dX5_draw_28 (lv_at hl 0 rfl) ?_
      obtain ⟨v7, ev7, hf⟩ := hm_b_s hf
      refine hm_get (ci := 3) (k := 1) (C := RX3) (T := TX3) (N := 5) hx hb hts hiX3 hown hK hI rfl (by decide) w1 (hm_gi_s ev7) dX5_draw_30 ?_
      obtain ⟨b9, eb9, hf⟩ := hm_b_s hf
      obtain ⟨v10, h8, eh8, hf⟩ := hm_b2_s hf
      refine hm_cV (As := [.int v7]) (rest := []) ⟨hx, hb, hml, hown, hts⟩ hK hI eb9 rfl rfl (kX2_firstWrong l D kA b9 v7 h4 h8 v10 eh8) (cwV 1 hts gX5_draw_X2_firstWrong rfl rfl rfl (by decide +kernel) ⟨Nat.le_of_ble_eq_true rfl, Nat.le_of_ble_eq_true rfl⟩) rfl hl.1 rfl (by first | exact Nat.le_of_ble_eq_true rfl | (simp only [List.map, hm_rf_cat, hm_ci, hm_cl, List.sum_cons, List.sum_nil] <;> decide)) dX5_draw_33 ⟨Nat.le_of_ble_eq_true rfl, Nat.le_of_ble_eq_true rfl⟩ (fun H locs hI => ?_)
      refine lv_istore (lv' := [(7, .int v10), (6, va_rf v6), (5, va_rf v3), (0, va_rf (some t)), (1, .int a1), (2, .int a2), (3, .int a3), (4, .int a4)]) hx hb dX5_draw_36 hl (by decide) (by simp only [List.filter, hm_cat2, Bool.and_false, Bool.not_false] <;> rfl) (fun ls hl => ?_)
      refine lv_iload hx hb dX5_draw_38 (lv_at hl 0 rfl) ?_
      refine lv_if_ne (tgt := 53) hx hb dX5_draw_40 (by decide) (fun c => ?_) (fun c => ?_)
      · rw [if_neg c] at hf
        refine lv_iload hx hb dX5_draw_53 (lv_at hl 0 rfl) ?_
        exact hm_iret_e hf hx hb hr hlocks hK hI (Nat.le_of_ble_eq_true rfl) (Nat.le_of_ble_eq_true rfl) dX5_draw_55
      · rw [if_pos c] at hf
        refine hm_aload hx hb dX5_draw_43 (lv_at hl 2 rfl) ?_
        refine hm_aload hx hb dX5_draw_45 (lv_at hl 1 rfl) ?_
        refine lv_iload_n hx hb dX5_draw_47 rfl (lv_at hl 6 rfl) ?_
        refine lv_iload hx hb dX5_draw_48 (lv_at hl 7 rfl) ?_
        obtain ⟨b12, eb12, hf⟩ := hm_b_s hf
        obtain ⟨h11, eh11, hf⟩ := hm_b_s hf
        refine hm_cV (As := [va_rf v6, .int a3, .int a4]) (rest := []) ⟨hx, hb, hml, hown, hts⟩ hK hI eb12 rfl rfl (kX2_paint l D kA b12 v6 a3 a4 h8 h11 eh11) (cwV 3 hts gX5_draw_X2_paint rfl rfl rfl (by decide +kernel) ⟨Nat.le_of_ble_eq_true rfl, Nat.le_of_ble_eq_true rfl⟩) rfl hl.1 rfl (by first | exact Nat.le_of_ble_eq_true rfl | (simp only [List.map, hm_rf_cat, hm_ci, hm_cl, List.sum_cons, List.sum_nil] <;> decide)) dX5_draw_50 ⟨Nat.le_of_ble_eq_true rfl, Nat.le_of_ble_eq_true rfl⟩ (fun H locs hI => ?_)
        refine W.eq (g2 := F0 m 53 ls []) rfl ?_
        refine lv_iload hx hb dX5_draw_53 (lv_at hl 0 rfl) ?_
        exact hm_iret_e hf hx hb hr hlocks hK hI (Nat.le_of_ble_eq_true rfl) (Nat.le_of_ble_eq_true rfl) dX5_draw_55
    · rw [if_pos c] at hf
      refine lv_iconst (v := (-1 : Int32)) hx hb dX5_draw_24 (by decide) ?_
      exact hm_iret_e hf hx hb hr hlocks hK hI (Nat.le_of_ble_eq_true rfl) (Nat.le_of_ble_eq_true rfl) dX5_draw_25
/-! ==== X5_check: BlitBoard.check()I ==== -/
def fX5_check_2 (K2 : Option Nat → Int32 → hm_H → Option (Int32 × hm_H)) (x0 : Option Nat) (x1 : Int32) (h : hm_H) : Option (Int32 × hm_H) :=
  hm_b (hm_gi 5 1 h x0) fun v1 =>
  if v1 ≤ x1 then
    some ((1 : Int32), h)
  else
    hm_b (hm_gq 5 0 h x0) fun v2 =>
    hm_b (hm_aq 3 h v2 x1) fun v3 =>
    hm_b (hm_rc 3 h v3) fun b5 =>
    hm_b2 (fX3_isSound b5 h) fun v6 h4 =>
    if v6 = 0 then
      some ((0 : Int32), h4)
    else
      K2 x0 (x1 + (1 : Int32)) h4
def fX5_check (t : Nat) (h0 : hm_H) : Option (Int32 × hm_H) :=
  hm_loop (fun _ _ _ => none) (fX5_check_2) hm_fu (some t) (0 : Int32) h0
set_option maxRecDepth 100000 in
set_option maxHeartbeats 8000000 in
theorem kX5_check (l : Launch) (D : va_G) (kA : Nat → ClassId) (t : Nat) (h0 h' : hm_H) (r : Int32) (hf : fX5_check t h0 = some (r, h')) : hm_C l yX5_check wsX5_check { frames := 2, cells := 0, slots := 0, locals := 45 } D vwCl kA (hm_ty kA) [.ref t] h0 (some (.int r)) h' 0 0 := by
  refine Met.ofW (cc := cX5_check) (maxL := 2) (ret := (some .int)) (by decide) rfl ?_
  intro p e s m args below meth c s₁ B hml hv
  obtain ⟨hargs, hB⟩ := hv
  have hx := B.exec
  have hb := B.bytes
  have hr := B.returns
  have hts := atoms_spec (ws := wsX5_check) B.pre
  have hown : s.vm.findClass RX5 = some m.cls := findClass_of_methodNamed B.named
  have hlocks := B.notSynchronized
  have hK := hB.2
  have hI := hm_start hB
  have w1 := hts (.fieldLink RX5 15 "BlitBoard" "surfaceCount" "I") (by decide +kernel)
  have w2 := hts (.fieldLink RX5 11 "BlitBoard" "surfaces" "[LBlitBoard$Surface;") (by decide +kernel)
  have hiX5 : ∀ w ∈ wsX50, w ∈ wsX5_check := by decide +kernel
  have B2 : ∀ (fu : Nat) (x0 : Option Nat) (x1 : Int32) (h : hm_H), hm_loop (fun _ _ _ => none) (fX5_check_2) fu x0 x1 h = some (r, h') → ∀ (H : Heap) (locs : List Loc) (ls : Array Slot), hm_I D vwCl kA (hm_A h0) s.heap h H locs → lv_has ls 2 [(0, va_rf x0), (1, .int x1)] → W p l e (headSpec wsX5_check { frames := 2, cells := 0, slots := 0, locals := 45 }).room s m args below meth c H locs 0 0 (MQ below (hm_Q D vwCl kA (hm_ty kA) h0 (some (.int r)) h') args s 0 0 (hm_A h0)) (F0 m 2 ls []) := by
    intro fu
    induction fu with
    | zero => intro x0 x1 h hf; cases hf
    | succ fu ih2 =>
      rw [hm_loop_s]
      generalize hm_loop (fun _ _ _ => none) (fX5_check_2) fu = K2 at ih2 ⊢
      intro x0 x1 h hf H locs ls hI hl
      unfold fX5_check_2 at hf
      refine lv_iload_n hx hb dX5_check_2 rfl (lv_at hl 1 rfl) ?_
      refine hm_aload_n hx hb dX5_check_3 rfl (lv_at hl 0 rfl) ?_
      obtain ⟨v1, ev1, hf⟩ := hm_b_s hf
      refine hm_get (ci := 5) (k := 1) (C := RX5) (T := TX5) (N := 5) hx hb hts hiX5 hown hK hI rfl (by decide) w1 (hm_gi_s ev1) dX5_check_4 ?_
      refine lv_icmp_ge (tgt := 30) hx hb dX5_check_7 (by decide) (fun c => ?_) (fun c => ?_)
      · rw [if_pos c] at hf
        refine lv_iconst (v := (1 : Int32)) hx hb dX5_check_30 (by decide) ?_
        exact hm_iret_e hf hx hb hr hlocks hK hI (Nat.le_of_ble_eq_true rfl) (Nat.le_of_ble_eq_true rfl) dX5_check_31
      · rw [if_neg c] at hf
        refine hm_aload_n hx hb dX5_check_10 rfl (lv_at hl 0 rfl) ?_
        obtain ⟨v2, ev2, hf⟩ := hm_b_s hf
        refine hm_get (ci := 5) (k := 0) (C := RX5) (T := TX5) (N := 5) hx hb hts hiX5 hown hK hI rfl (by decide) w2 (hm_gq_s ev2) dX5_check_11 ?_
        refine lv_iload_n hx hb dX5_check_14 rfl (lv_at hl 1 rfl) ?_
        obtain ⟨v3, ev3, hf⟩ := hm_b_s hf
        refine hm_aald (kd := 3) (t0 := 3) hx hb hK hI rfl ev3 dX5_check_15 ?_
        obtain ⟨b5, eb5, hf⟩ := hm_b_s hf
        obtain ⟨v6, h4, eh4, hf⟩ := hm_b2_s hf
        refine hm_cV (As := []) (rest := []) ⟨hx, hb, hml, hown, hts⟩ hK hI eb5 rfl rfl (kX3_isSound l D kA b5 h h4 v6 eh4) (cwV 0 hts gX5_check_X3_isSound rfl rfl rfl (by decide +kernel) ⟨Nat.le_of_ble_eq_true rfl, Nat.le_of_ble_eq_true rfl⟩) rfl hl.1 rfl (by first | exact Nat.le_of_ble_eq_true rfl | (simp only [List.map, hm_rf_cat, hm_ci, hm_cl, List.sum_cons, List.sum_nil] <;> decide)) dX5_check_16 ⟨Nat.le_of_ble_eq_true rfl, Nat.le_of_ble_eq_true rfl⟩ (fun H locs hI => ?_)
        refine lv_if_ne (tgt := 24) hx hb dX5_check_19 (by decide) (fun c => ?_) (fun c => ?_)
        · rw [if_neg c] at hf
          refine lv_iinc (v := x1 + (1 : Int32)) (lv' := [(1, .int (x1 + (1 : Int32))), (0, va_rf x0)]) hx hb dX5_check_24 hl (k := 1) rfl rfl (by decide) (by simp only [List.filter, hm_cat2, Bool.and_false, Bool.not_false] <;> rfl) (fun ls hl => ?_)
          refine lv_goto (tgt := 2) hx hb dX5_check_27 (by decide) ?_
          exact ih2 x0 (x1 + (1 : Int32)) h4 hf _ _ _ hI (lv_sub hl [1, 0] rfl)
        · rw [if_pos c] at hf
          refine lv_iconst (v := (0 : Int32)) hx hb dX5_check_22 (by decide) ?_
          exact hm_iret_e hf hx hb hr hlocks hK hI (Nat.le_of_ble_eq_true rfl) (Nat.le_of_ble_eq_true rfl) dX5_check_23
  rw [show entryFrame m args 2 = entryFrame m ([.ref t] : List Value).toArray 2 from by rw [hargs]]
  have hl := lv_entry ([.ref t]) (n := 2) (Nat.le_of_ble_eq_true rfl)
  rw [lg_entry_eq]
  generalize (lg_sl ([.ref t]) ++ List.replicate (2 - (lg_sl ([.ref t])).length) Slot.unset).toArray = ls at hl ⊢
  have hl : lv_has ls 2 [(0, va_rf (some t))] := hl
  unfold fX5_check at hf
  refine lv_iconst (v := (0 : Int32)) hx hb dX5_check_0 (by decide) ?_
  refine lv_istore_n (lv' := [(1, .int (0 : Int32)), (0, va_rf (some t))]) hx hb dX5_check_1 rfl hl (by decide) (by simp only [List.filter, hm_cat2, Bool.and_false, Bool.not_false] <;> rfl) (fun ls hl => ?_)
  exact B2 hm_fu (some t) (0 : Int32) h0 hf _ _ _ hI (lv_sub hl [1, 0] rfl)
/-! ==== X6_init: BlitBoardModel.<init>()V ==== -/
def fX6_init (t : Nat) (h0 : hm_H) : Option hm_H :=
  hm_b (hm_ni 0 8 (8 : Int32) h0) fun h1 =>
  hm_b (hm_p 6 1 (va_rf (some h0.2)) h1 (some t)) fun h2 =>
  hm_b (hm_ni 0 8 (8 : Int32) h2) fun h3 =>
  hm_b (hm_p 6 2 (va_rf (some h2.2)) h3 (some t)) fun h4 =>
  hm_b (hm_ni 0 8 (8 : Int32) h4) fun h5 =>
  hm_b (hm_p 6 3 (va_rf (some h4.2)) h5 (some t)) fun h6 =>
  hm_b (hm_ni 0 32 (32 : Int32) h6) fun h7 =>
  hm_b (hm_p 6 4 (va_rf (some h6.2)) h7 (some t)) fun h8 =>
  hm_b (hm_ni 0 32768 (32768 : Int32) h8) fun h9 =>
  hm_b (hm_p 6 5 (va_rf (some h8.2)) h9 (some t)) fun h10 =>
  hm_b (hm_ni 0 4096 (4096 : Int32) h10) fun h11 =>
  hm_b (hm_p 6 6 (va_rf (some h10.2)) h11 (some t)) fun h12 =>
  hm_b (hm_ni 1 4096 (4096 : Int32) h12) fun h13 =>
  hm_b (hm_p 6 7 (va_rf (some h12.2)) h13 (some t)) fun h14 =>
  hm_b (hm_ni 0 4 (4 : Int32) h14) fun h15 =>
  hm_b (hm_p 6 8 (va_rf (some h14.2)) h15 (some t)) fun h16 =>
  hm_b (hm_ni 0 20000 (20000 : Int32) h16) fun h17 =>
  hm_b (hm_p 6 9 (va_rf (some h16.2)) h17 (some t)) fun h18 =>
  hm_b (hm_ni 0 7000 (7000 : Int32) h18) fun h19 =>
  hm_b (hm_p 6 10 (va_rf (some h18.2)) h19 (some t)) fun h20 =>
  hm_b (hm_ni 0 4096 (4096 : Int32) h20) fun h21 =>
  hm_b (hm_p 6 13 (va_rf (some h20.2)) h21 (some t)) fun h22 =>
  hm_b (hm_ni 0 4096 (4096 : Int32) h22) fun h23 =>
  hm_b (hm_p 6 14 (va_rf (some h22.2)) h23 (some t)) fun h24 =>
  hm_b (hm_ni 0 4096 (4096 : Int32) h24) fun h25 =>
  hm_b (hm_p 6 15 (va_rf (some h24.2)) h25 (some t)) fun h26 =>
  some h26
set_option maxRecDepth 100000 in
set_option maxHeartbeats 8000000 in
theorem kX6_init (l : Launch) (D : va_G) (kA : Nat → ClassId) (t : Nat) (h0 h' : hm_H) (hf : fX6_init t h0 = some h') : hm_C l yX6_init wsX6_init { frames := 1, cells := 13, slots := 80308, locals := 20 } D vwCl kA (hm_ty kA) [.ref t] h0 none h' 13 80308 := by
  refine Met.ofW (cc := cX6_init) (maxL := 1) (ret := none) (by decide) rfl ?_
  intro p e s m args below meth c s₁ B hml hv
  obtain ⟨hargs, hB⟩ := hv
  have hx := B.exec
  have hb := B.bytes
  have hr := B.returns
  have hts := atoms_spec (ws := wsX6_init) B.pre
  have hown : s.vm.findClass RX6 = some m.cls := findClass_of_methodNamed B.named
  have hlocks := B.notSynchronized
  have hin : meth.name = "<init>" := (name_of_methodNamed B.named B.method).1
  have hK := hB.2
  have hI := hm_start hB
  have w1 := hts (.methodLink RX6 1 objectInit) (by decide +kernel)
  have w2 := hts (.instanceMethod objectInit) (by decide +kernel)
  have w3 := hts (.code objectInit ⟨#[0xb1]⟩ 1 none) (by decide +kernel)
  have w4 := hts (.arrayClass .int) (by decide +kernel)
  have w5 := hts (.fieldLink RX6 7 "BlitBoardModel" "depths" "[I") (by decide +kernel)
  have w6 := hts (.fieldLink RX6 13 "BlitBoardModel" "wides" "[I") (by decide +kernel)
  have w7 := hts (.fieldLink RX6 16 "BlitBoardModel" "highs" "[I") (by decide +kernel)
  have w8 := hts (.fieldLink RX6 19 "BlitBoardModel" "clips" "[I") (by decide +kernel)
  have w9 := hts (.constant RX6 22 (32768)) (by decide +kernel)
  have w10 := hts (.fieldLink RX6 23 "BlitBoardModel" "dots" "[I") (by decide +kernel)
  have w11 := hts (.fieldLink RX6 26 "BlitBoardModel" "fresh" "[I") (by decide +kernel)
  have w12 := hts (.arrayClass .boolean) (by decide +kernel)
  have w13 := hts (.fieldLink RX6 29 "BlitBoardModel" "comes" "[Z") (by decide +kernel)
  have w14 := hts (.fieldLink RX6 33 "BlitBoardModel" "sizes" "[I") (by decide +kernel)
  have w15 := hts (.fieldLink RX6 36 "BlitBoardModel" "bytes" "[I") (by decide +kernel)
  have w16 := hts (.fieldLink RX6 39 "BlitBoardModel" "made" "[I") (by decide +kernel)
  have w17 := hts (.fieldLink RX6 42 "BlitBoardModel" "columns" "[I") (by decide +kernel)
  have w18 := hts (.fieldLink RX6 45 "BlitBoardModel" "rows" "[I") (by decide +kernel)
  have w19 := hts (.fieldLink RX6 48 "BlitBoardModel" "numbers" "[I") (by decide +kernel)
  have hiX6 : ∀ w ∈ wsX60, w ∈ wsX6_init := by decide +kernel
  rw [show entryFrame m args 1 = entryFrame m ([.ref t] : List Value).toArray 1 from by rw [hargs]]
  have hl := lv_entry ([.ref t]) (n := 1) (Nat.le_of_ble_eq_true rfl)
  rw [lg_entry_eq]
  generalize (lg_sl ([.ref t]) ++ List.replicate (1 - (lg_sl ([.ref t])).length) Slot.unset).toArray = ls at hl ⊢
  have hl : lv_has ls 1 [(0, va_rf (some t))] := hl
  unfold fX6_init at hf
  refine hm_aload_n hx hb dX6_init_0 rfl (lv_at hl 0 rfl) ?_
  refine W.objInit hx hb hown w1 w2 w3 rfl (by rw [hml]; exact hl.1) rfl dX6_init_1 (Nat.le_of_ble_eq_true rfl) (Nat.le_of_ble_eq_true rfl) ?_
  refine W.eq (g2 := F0 m 4 ls []) rfl ?_
  refine hm_aload_n hx hb dX6_init_4 rfl (lv_at hl 0 rfl) ?_
  refine lv_bipush (v := (8 : Int32)) hx hb dX6_init_5 (by decide) ?_
  obtain ⟨h1, eh1, hf⟩ := hm_b_s hf
  refine hm_newi (kd := 0) (t0 := 0) (B := 8) (ty := .int) hx hb w4 rfl rfl (by decide) hK hI rfl (fun z => z) eh1 (Nat.le_of_ble_eq_true rfl) (Nat.le_of_ble_eq_true rfl) dX6_init_7 (fun H hI => ?_)
  refine W.cs (cells' := 1) (slots' := 8) rfl rfl ?_
  obtain ⟨h2, eh2, hf⟩ := hm_b_s hf
  refine hm_putF (ci := 6) (k := 1) (C := RX6) (T := TX6) (N := 16) hx hb hts hiX6 tyX6 tyX6_ok nmX6 hown hK hI rfl (by decide) w5 rfl hin rfl eh2 hm_nqa hm_fqa dX6_init_9 (fun H locs hI => ?_)
  refine hm_aload_n hx hb dX6_init_12 rfl (lv_at hl 0 rfl) ?_
  refine lv_bipush (v := (8 : Int32)) hx hb dX6_init_13 (by decide) ?_
  obtain ⟨h3, eh3, hf⟩ := hm_b_s hf
  refine hm_newi (kd := 0) (t0 := 0) (B := 8) (ty := .int) hx hb w4 rfl rfl (by decide) hK hI rfl (fun z => z) eh3 (Nat.le_of_ble_eq_true rfl) (Nat.le_of_ble_eq_true rfl) dX6_init_15 (fun H hI => ?_)
  refine W.cs (cells' := 2) (slots' := 16) rfl rfl ?_
  obtain ⟨h4, eh4, hf⟩ := hm_b_s hf
  refine hm_putF (ci := 6) (k := 2) (C := RX6) (T := TX6) (N := 16) hx hb hts hiX6 tyX6 tyX6_ok nmX6 hown hK hI rfl (by decide) w6 rfl hin rfl eh4 hm_nqa hm_fqa dX6_init_17 (fun H locs hI => ?_)
  refine hm_aload_n hx hb dX6_init_20 rfl (lv_at hl 0 rfl) ?_
  refine lv_bipush (v := (8 : Int32)) hx hb dX6_init_21 (by decide) ?_
  obtain ⟨h5, eh5, hf⟩ := hm_b_s hf
  refine hm_newi (kd := 0) (t0 := 0) (B := 8) (ty := .int) hx hb w4 rfl rfl (by decide) hK hI rfl (fun z => z) eh5 (Nat.le_of_ble_eq_true rfl) (Nat.le_of_ble_eq_true rfl) dX6_init_23 (fun H hI => ?_)
  refine W.cs (cells' := 3) (slots' := 24) rfl rfl ?_
  obtain ⟨h6, eh6, hf⟩ := hm_b_s hf
  refine hm_putF (ci := 6) (k := 3) (C := RX6) (T := TX6) (N := 16) hx hb hts hiX6 tyX6 tyX6_ok nmX6 hown hK hI rfl (by decide) w7 rfl hin rfl eh6 hm_nqa hm_fqa dX6_init_25 (fun H locs hI => ?_)
  refine hm_aload_n hx hb dX6_init_28 rfl (lv_at hl 0 rfl) ?_
  refine lv_bipush (v := (32 : Int32)) hx hb dX6_init_29 (by decide) ?_
  obtain ⟨h7, eh7, hf⟩ := hm_b_s hf
  refine hm_newi (kd := 0) (t0 := 0) (B := 32) (ty := .int) hx hb w4 rfl rfl (by decide) hK hI rfl (fun z => z) eh7 (Nat.le_of_ble_eq_true rfl) (Nat.le_of_ble_eq_true rfl) dX6_init_31 (fun H hI => ?_)
  refine W.cs (cells' := 4) (slots' := 56) rfl rfl ?_
  obtain ⟨h8, eh8, hf⟩ := hm_b_s hf
  refine hm_putF (ci := 6) (k := 4) (C := RX6) (T := TX6) (N := 16) hx hb hts hiX6 tyX6 tyX6_ok nmX6 hown hK hI rfl (by decide) w8 rfl hin rfl eh8 hm_nqa hm_fqa dX6_init_33 (fun H locs hI => ?_)
  refine hm_aload_n hx hb dX6_init_36 rfl (lv_at hl 0 rfl) ?_
  refine lv_ldc (v := (32768 : Int32)) hx hb hown w9 dX6_init_37 ?_
  obtain ⟨h9, eh9, hf⟩ := hm_b_s hf
  refine hm_newi (kd := 0) (t0 := 0) (B := 32768) (ty := .int) hx hb w4 rfl rfl (by decide) hK hI rfl (fun z => z) eh9 (Nat.le_of_ble_eq_true rfl) (Nat.le_of_ble_eq_true rfl) dX6_init_39 (fun H hI => ?_)
  refine W.cs (cells' := 5) (slots' := 32824) rfl rfl ?_
  obtain ⟨h10, eh10, hf⟩ := hm_b_s hf
  refine hm_putF (ci := 6) (k := 5) (C := RX6) (T := TX6) (N := 16) hx hb hts hiX6 tyX6 tyX6_ok nmX6 hown hK hI rfl (by decide) w10 rfl hin rfl eh10 hm_nqa hm_fqa dX6_init_41 (fun H locs hI => ?_)
  refine hm_aload_n hx hb dX6_init_44 rfl (lv_at hl 0 rfl) ?_
  refine lv_sipush (v := (4096 : Int32)) hx hb dX6_init_45 (by decide) ?_
  obtain ⟨h11, eh11, hf⟩ := hm_b_s hf
  refine hm_newi (kd := 0) (t0 := 0) (B := 4096) (ty := .int) hx hb w4 rfl rfl (by decide) hK hI rfl (fun z => z) eh11 (Nat.le_of_ble_eq_true rfl) (Nat.le_of_ble_eq_true rfl) dX6_init_48 (fun H hI => ?_)
  refine W.cs (cells' := 6) (slots' := 36920) rfl rfl ?_
  obtain ⟨h12, eh12, hf⟩ := hm_b_s hf
  refine hm_putF (ci := 6) (k := 6) (C := RX6) (T := TX6) (N := 16) hx hb hts hiX6 tyX6 tyX6_ok nmX6 hown hK hI rfl (by decide) w11 rfl hin rfl eh12 hm_nqa hm_fqa dX6_init_50 (fun H locs hI => ?_)
  refine hm_aload_n hx hb dX6_init_53 rfl (lv_at hl 0 rfl) ?_
  refine lv_sipush (v := (4096 : Int32)) hx hb dX6_init_54 (by decide) ?_
  obtain ⟨h13, eh13, hf⟩ := hm_b_s hf
  refine hm_newi (kd := 1) (t0 := 1) (B := 4096) (ty := .boolean) hx hb w12 rfl rfl (by decide) hK hI rfl (fun z => z) eh13 (Nat.le_of_ble_eq_true rfl) (Nat.le_of_ble_eq_true rfl) dX6_init_57 (fun H hI => ?_)
  refine W.cs (cells' := 7) (slots' := 41016) rfl rfl ?_
  obtain ⟨h14, eh14, hf⟩ := hm_b_s hf
  refine hm_putF (ci := 6) (k := 7) (C := RX6) (T := TX6) (N := 16) hx hb hts hiX6 tyX6 tyX6_ok nmX6 hown hK hI rfl (by decide) w13 rfl hin rfl eh14 hm_nqa hm_fqa dX6_init_59 (fun H locs hI => ?_)
  refine hm_aload_n hx hb dX6_init_62 rfl (lv_at hl 0 rfl) ?_
  refine lv_iconst (v := (4 : Int32)) hx hb dX6_init_63 (by decide) ?_
  obtain ⟨h15, eh15, hf⟩ := hm_b_s hf
  refine hm_newi (kd := 0) (t0 := 0) (B := 4) (ty := .int) hx hb w4 rfl rfl (by decide) hK hI rfl (fun z => z) eh15 (Nat.le_of_ble_eq_true rfl) (Nat.le_of_ble_eq_true rfl) dX6_init_64 (fun H hI => ?_)
  refine W.cs (cells' := 8) (slots' := 41020) rfl rfl ?_
  obtain ⟨h16, eh16, hf⟩ := hm_b_s hf
  refine hm_putF (ci := 6) (k := 8) (C := RX6) (T := TX6) (N := 16) hx hb hts hiX6 tyX6 tyX6_ok nmX6 hown hK hI rfl (by decide) w14 rfl hin rfl eh16 hm_nqa hm_fqa dX6_init_66 (fun H locs hI => ?_)
  refine hm_aload_n hx hb dX6_init_69 rfl (lv_at hl 0 rfl) ?_
  refine lv_sipush (v := (20000 : Int32)) hx hb dX6_init_70 (by decide) ?_
  obtain ⟨h17, eh17, hf⟩ := hm_b_s hf
  refine hm_newi (kd := 0) (t0 := 0) (B := 20000) (ty := .int) hx hb w4 rfl rfl (by decide) hK hI rfl (fun z => z) eh17 (Nat.le_of_ble_eq_true rfl) (Nat.le_of_ble_eq_true rfl) dX6_init_73 (fun H hI => ?_)
  refine W.cs (cells' := 9) (slots' := 61020) rfl rfl ?_
  obtain ⟨h18, eh18, hf⟩ := hm_b_s hf
  refine hm_putF (ci := 6) (k := 9) (C := RX6) (T := TX6) (N := 16) hx hb hts hiX6 tyX6 tyX6_ok nmX6 hown hK hI rfl (by decide) w15 rfl hin rfl eh18 hm_nqa hm_fqa dX6_init_75 (fun H locs hI => ?_)
  refine hm_aload_n hx hb dX6_init_78 rfl (lv_at hl 0 rfl) ?_
  refine lv_sipush (v := (7000 : Int32)) hx hb dX6_init_79 (by decide) ?_
  obtain ⟨h19, eh19, hf⟩ := hm_b_s hf
  refine hm_newi (kd := 0) (t0 := 0) (B := 7000) (ty := .int) hx hb w4 rfl rfl (by decide) hK hI rfl (fun z => z) eh19 (Nat.le_of_ble_eq_true rfl) (Nat.le_of_ble_eq_true rfl) dX6_init_82 (fun H hI => ?_)
  refine W.cs (cells' := 10) (slots' := 68020) rfl rfl ?_
  obtain ⟨h20, eh20, hf⟩ := hm_b_s hf
  refine hm_putF (ci := 6) (k := 10) (C := RX6) (T := TX6) (N := 16) hx hb hts hiX6 tyX6 tyX6_ok nmX6 hown hK hI rfl (by decide) w16 rfl hin rfl eh20 hm_nqa hm_fqa dX6_init_84 (fun H locs hI => ?_)
  refine hm_aload_n hx hb dX6_init_87 rfl (lv_at hl 0 rfl) ?_
  refine lv_sipush (v := (4096 : Int32)) hx hb dX6_init_88 (by decide) ?_
  obtain ⟨h21, eh21, hf⟩ := hm_b_s hf
  refine hm_newi (kd := 0) (t0 := 0) (B := 4096) (ty := .int) hx hb w4 rfl rfl (by decide) hK hI rfl (fun z => z) eh21 (Nat.le_of_ble_eq_true rfl) (Nat.le_of_ble_eq_true rfl) dX6_init_91 (fun H hI => ?_)
  refine W.cs (cells' := 11) (slots' := 72116) rfl rfl ?_
  obtain ⟨h22, eh22, hf⟩ := hm_b_s hf
  refine hm_putF (ci := 6) (k := 13) (C := RX6) (T := TX6) (N := 16) hx hb hts hiX6 tyX6 tyX6_ok nmX6 hown hK hI rfl (by decide) w17 rfl hin rfl eh22 hm_nqa hm_fqa dX6_init_93 (fun H locs hI => ?_)
  refine hm_aload_n hx hb dX6_init_96 rfl (lv_at hl 0 rfl) ?_
  refine lv_sipush (v := (4096 : Int32)) hx hb dX6_init_97 (by decide) ?_
  obtain ⟨h23, eh23, hf⟩ := hm_b_s hf
  refine hm_newi (kd := 0) (t0 := 0) (B := 4096) (ty := .int) hx hb w4 rfl rfl (by decide) hK hI rfl (fun z => z) eh23 (Nat.le_of_ble_eq_true rfl) (Nat.le_of_ble_eq_true rfl) dX6_init_100 (fun H hI => ?_)
  refine W.cs (cells' := 12) (slots' := 76212) rfl rfl ?_
  obtain ⟨h24, eh24, hf⟩ := hm_b_s hf
  refine hm_putF (ci := 6) (k := 14) (C := RX6) (T := TX6) (N := 16) hx hb hts hiX6 tyX6 tyX6_ok nmX6 hown hK hI rfl (by decide) w18 rfl hin rfl eh24 hm_nqa hm_fqa dX6_init_102 (fun H locs hI => ?_)
  refine hm_aload_n hx hb dX6_init_105 rfl (lv_at hl 0 rfl) ?_
  refine lv_sipush (v := (4096 : Int32)) hx hb dX6_init_106 (by decide) ?_
  obtain ⟨h25, eh25, hf⟩ := hm_b_s hf
  refine hm_newi (kd := 0) (t0 := 0) (B := 4096) (ty := .int) hx hb w4 rfl rfl (by decide) hK hI rfl (fun z => z) eh25 (Nat.le_of_ble_eq_true rfl) (Nat.le_of_ble_eq_true rfl) dX6_init_109 (fun H hI => ?_)
  refine W.cs (cells' := 13) (slots' := 80308) rfl rfl ?_
  obtain ⟨h26, eh26, hf⟩ := hm_b_s hf
  refine hm_putF (ci := 6) (k := 15) (C := RX6) (T := TX6) (N := 16) hx hb hts hiX6 tyX6 tyX6_ok nmX6 hown hK hI rfl (by decide) w19 rfl hin rfl eh26 hm_nqa hm_fqa dX6_init_111 (fun H locs hI => ?_)
  exact hm_vret_e hf hx hb hr hlocks hK hI (Nat.le_of_ble_eq_true rfl) (Nat.le_of_ble_eq_true rfl) dX6_init_114
/-! ==== X6_isSurface: BlitBoardModel.isSurface(I)Z ==== -/
def fX6_isSurface (t : Nat) (a1 : Int32) (h0 : hm_H) : Option (Int32 × hm_H) :=
  if a1 < 0 then
    some ((0 : Int32), h0)
  else
    hm_b (hm_gi 6 0 h0 (some t)) fun v1 =>
    if v1 ≤ a1 then
      some ((0 : Int32), h0)
    else
      some ((1 : Int32), h0)
set_option maxRecDepth 100000 in
set_option maxHeartbeats 8000000 in
theorem kX6_isSurface (l : Launch) (D : va_G) (kA : Nat → ClassId) (t : Nat) (a1 : Int32) (h0 h' : hm_H) (r : Int32) (hf : fX6_isSurface t a1 h0 = some (r, h')) : hm_C l yX6_isSurface wsX6_isSurface { frames := 0, cells := 0, slots := 0, locals := 0 } D vwCl kA (hm_ty kA) [.ref t, .int a1] h0 (some (.int r)) h' 0 0 := by
  refine Met.ofW (cc := cX6_isSurface) (maxL := 2) (ret := (some .boolean)) (by decide) rfl ?_
  intro p e s m args below meth c s₁ B hml hv
  obtain ⟨hargs, hB⟩ := hv
  have hx := B.exec
  have hb := B.bytes
  have hr := B.returns
  have hts := atoms_spec (ws := wsX6_isSurface) B.pre
  have hown : s.vm.findClass RX6 = some m.cls := findClass_of_methodNamed B.named
  have hlocks := B.notSynchronized
  have hK := hB.2
  have hI := hm_start hB
  have w1 := hts (.fieldLink RX6 51 "BlitBoardModel" "surfaces" "I") (by decide +kernel)
  have hiX6 : ∀ w ∈ wsX60, w ∈ wsX6_isSurface := by decide +kernel
  rw [show entryFrame m args 2 = entryFrame m ([.ref t, .int a1] : List Value).toArray 2 from by rw [hargs]]
  have hl := lv_entry ([.ref t, .int a1]) (n := 2) (Nat.le_of_ble_eq_true rfl)
  rw [lg_entry_eq]
  generalize (lg_sl ([.ref t, .int a1]) ++ List.replicate (2 - (lg_sl ([.ref t, .int a1])).length) Slot.unset).toArray = ls at hl ⊢
  have hl : lv_has ls 2 [(0, va_rf (some t)), (1, .int a1)] := hl
  unfold fX6_isSurface at hf
  refine lv_iload_n hx hb dX6_isSurface_0 rfl (lv_at hl 1 rfl) ?_
  refine lv_if_lt (tgt := 16) hx hb dX6_isSurface_1 (by decide) (fun c => ?_) (fun c => ?_)
  · rw [if_pos c] at hf
    refine lv_iconst (v := (0 : Int32)) hx hb dX6_isSurface_16 (by decide) ?_
    exact hm_zret_e hf hx hb hr hlocks hK hI (Nat.le_of_ble_eq_true rfl) (Nat.le_of_ble_eq_true rfl) rfl dX6_isSurface_17
  · rw [if_neg c] at hf
    refine lv_iload_n hx hb dX6_isSurface_4 rfl (lv_at hl 1 rfl) ?_
    refine hm_aload_n hx hb dX6_isSurface_5 rfl (lv_at hl 0 rfl) ?_
    obtain ⟨v1, ev1, hf⟩ := hm_b_s hf
    refine hm_get (ci := 6) (k := 0) (C := RX6) (T := TX6) (N := 16) hx hb hts hiX6 hown hK hI rfl (by decide) w1 (hm_gi_s ev1) dX6_isSurface_6 ?_
    refine lv_icmp_ge (tgt := 16) hx hb dX6_isSurface_9 (by decide) (fun c => ?_) (fun c => ?_)
    · rw [if_pos c] at hf
      refine lv_iconst (v := (0 : Int32)) hx hb dX6_isSurface_16 (by decide) ?_
      exact hm_zret_e hf hx hb hr hlocks hK hI (Nat.le_of_ble_eq_true rfl) (Nat.le_of_ble_eq_true rfl) rfl dX6_isSurface_17
    · rw [if_neg c] at hf
      refine lv_iconst (v := (1 : Int32)) hx hb dX6_isSurface_12 (by decide) ?_
      refine lv_goto (tgt := 17) hx hb dX6_isSurface_13 (by decide) ?_
      exact hm_zret_e hf hx hb hr hlocks hK hI (Nat.le_of_ble_eq_true rfl) (Nat.le_of_ble_eq_true rfl) rfl dX6_isSurface_17
/-! ==== X6_isSpan: BlitBoardModel.isSpan(I)Z ==== -/
def fX6_isSpan (a1 : Int32) (h0 : hm_H) : Option (Int32 × hm_H) :=
  if a1 < 0 then
    some ((0 : Int32), h0)
  else
    if (64 : Int32) < a1 then
      some ((0 : Int32), h0)
    else
      some ((1 : Int32), h0)
set_option maxRecDepth 100000 in
set_option maxHeartbeats 8000000 in
theorem kX6_isSpan (l : Launch) (D : va_G) (kA : Nat → ClassId) (a1 : Int32) (h0 h' : hm_H) (r : Int32) (hf : fX6_isSpan a1 h0 = some (r, h')) : hm_C l yX6_isSpan wsX6_isSpan { frames := 0, cells := 0, slots := 0, locals := 0 } D vwCl kA (hm_ty kA) [.int a1] h0 (some (.int r)) h' 0 0 := by
  refine Met.ofW (cc := cX6_isSpan) (maxL := 1) (ret := (some .boolean)) (by decide) rfl ?_
  intro p e s m args below meth c s₁ B hml hv
  obtain ⟨hargs, hB⟩ := hv
  have hx := B.exec
  have hb := B.bytes
  have hr := B.returns
  have hts := atoms_spec (ws := wsX6_isSpan) B.pre
  have hown : s.vm.findClass RX6 = some m.cls := findClass_of_methodNamed B.named
  have hlocks := B.notSynchronized
  have hK := hB.2
  have hI := hm_start hB
  rw [show entryFrame m args 1 = entryFrame m ([.int a1] : List Value).toArray 1 from by rw [hargs]]
  have hl := lv_entry ([.int a1]) (n := 1) (Nat.le_of_ble_eq_true rfl)
  rw [lg_entry_eq]
  generalize (lg_sl ([.int a1]) ++ List.replicate (1 - (lg_sl ([.int a1])).length) Slot.unset).toArray = ls at hl ⊢
  have hl : lv_has ls 1 [(0, .int a1)] := hl
  unfold fX6_isSpan at hf
  refine lv_iload_n hx hb dX6_isSpan_0 rfl (lv_at hl 0 rfl) ?_
  refine lv_if_lt (tgt := 14) hx hb dX6_isSpan_1 (by decide) (fun c => ?_) (fun c => ?_)
  · rw [if_pos c] at hf
    refine lv_iconst (v := (0 : Int32)) hx hb dX6_isSpan_14 (by decide) ?_
    exact hm_zret_e hf hx hb hr hlocks hK hI (Nat.le_of_ble_eq_true rfl) (Nat.le_of_ble_eq_true rfl) rfl dX6_isSpan_15
  · rw [if_neg c] at hf
    refine lv_iload_n hx hb dX6_isSpan_4 rfl (lv_at hl 0 rfl) ?_
    refine lv_bipush (v := (64 : Int32)) hx hb dX6_isSpan_5 (by decide) ?_
    refine lv_icmp_gt (tgt := 14) hx hb dX6_isSpan_7 (by decide) (fun c => ?_) (fun c => ?_)
    · rw [if_pos c] at hf
      refine lv_iconst (v := (0 : Int32)) hx hb dX6_isSpan_14 (by decide) ?_
      exact hm_zret_e hf hx hb hr hlocks hK hI (Nat.le_of_ble_eq_true rfl) (Nat.le_of_ble_eq_true rfl) rfl dX6_isSpan_15
    · rw [if_neg c] at hf
      refine lv_iconst (v := (1 : Int32)) hx hb dX6_isSpan_10 (by decide) ?_
      refine lv_goto (tgt := 15) hx hb dX6_isSpan_11 (by decide) ?_
      exact hm_zret_e hf hx hb hr hlocks hK hI (Nat.le_of_ble_eq_true rfl) (Nat.le_of_ble_eq_true rfl) rfl dX6_isSpan_15
/-! ==== X6_isPlace: BlitBoardModel.isPlace(IJJ)Z ==== -/
def fX6_isPlace (t : Nat) (a1 : Int32) (a2 : Int64) (a3 : Int64) (h0 : hm_H) : Option (Int32 × hm_H) :=
  if (lg_cmp a2 (0 : Int64)) < 0 then
    some ((0 : Int32), h0)
  else
    hm_b (hm_gq 6 2 h0 (some t)) fun v1 =>
    hm_b (hm_ai 0 h0 v1 a1) fun v2 =>
    if 0 ≤ (lg_cmp a2 ((v2).toInt64)) then
      some ((0 : Int32), h0)
    else
      if (lg_cmp a3 (0 : Int64)) < 0 then
        some ((0 : Int32), h0)
      else
        hm_b (hm_gq 6 3 h0 (some t)) fun v3 =>
        hm_b (hm_ai 0 h0 v3 a1) fun v4 =>
        if 0 ≤ (lg_cmp a3 ((v4).toInt64)) then
          some ((0 : Int32), h0)
        else
          some ((1 : Int32), h0)
set_option maxRecDepth 100000 in
set_option maxHeartbeats 8000000 in
theorem kX6_isPlace (l : Launch) (D : va_G) (kA : Nat → ClassId) (t : Nat) (a1 : Int32) (a2 : Int64) (a3 : Int64) (h0 h' : hm_H) (r : Int32) (hf : fX6_isPlace t a1 a2 a3 h0 = some (r, h')) : hm_C l yX6_isPlace wsX6_isPlace { frames := 0, cells := 0, slots := 0, locals := 0 } D vwCl kA (hm_ty kA) [.ref t, .int a1, .long a2, .long a3] h0 (some (.int r)) h' 0 0 := by
  refine Met.ofW (cc := cX6_isPlace) (maxL := 6) (ret := (some .boolean)) (by decide) rfl ?_
  intro p e s m args below meth c s₁ B hml hv
  obtain ⟨hargs, hB⟩ := hv
  have hx := B.exec
  have hb := B.bytes
  have hr := B.returns
  have hts := atoms_spec (ws := wsX6_isPlace) B.pre
  have hown : s.vm.findClass RX6 = some m.cls := findClass_of_methodNamed B.named
  have hlocks := B.notSynchronized
  have hK := hB.2
  have hI := hm_start hB
  have w1 := hts (.fieldLink RX6 13 "BlitBoardModel" "wides" "[I") (by decide +kernel)
  have w2 := hts (.fieldLink RX6 16 "BlitBoardModel" "highs" "[I") (by decide +kernel)
  have hiX6 : ∀ w ∈ wsX60, w ∈ wsX6_isPlace := by decide +kernel
  rw [show entryFrame m args 6 = entryFrame m ([.ref t, .int a1, .long a2, .long a3] : List Value).toArray 6 from by rw [hargs]]
  have hl := lv_entry ([.ref t, .int a1, .long a2, .long a3]) (n := 6) (Nat.le_of_ble_eq_true rfl)
  rw [lg_entry_eq]
  generalize (lg_sl ([.ref t, .int a1, .long a2, .long a3]) ++ List.replicate (6 - (lg_sl ([.ref t, .int a1, .long a2, .long a3])).length) Slot.unset).toArray = ls at hl ⊢
  have hl : lv_has ls 6 [(0, va_rf (some t)), (1, .int a1), (2, .long a2), (4, .long a3)] := hl
  unfold fX6_isPlace at hf
  refine lv_lload_n hx hb dX6_isPlace_0 rfl (lv_at hl 2 rfl) ?_
  refine lv_lconst (v := (0 : Int64)) hx hb dX6_isPlace_1 (by decide) ?_
  refine W.lcmp hx hb dX6_isPlace_2 ?_
  refine lv_if_lt (tgt := 42) hx hb dX6_isPlace_3 (by decide) (fun c => ?_) (fun c => ?_)
  · rw [if_pos c] at hf
    refine lv_iconst (v := (0 : Int32)) hx hb dX6_isPlace_42 (by decide) ?_
    exact hm_zret_e hf hx hb hr hlocks hK hI (Nat.le_of_ble_eq_true rfl) (Nat.le_of_ble_eq_true rfl) rfl dX6_isPlace_43
  · rw [if_neg c] at hf
    refine lv_lload_n hx hb dX6_isPlace_6 rfl (lv_at hl 2 rfl) ?_
    refine hm_aload_n hx hb dX6_isPlace_7 rfl (lv_at hl 0 rfl) ?_
    obtain ⟨v1, ev1, hf⟩ := hm_b_s hf
    refine hm_get (ci := 6) (k := 2) (C := RX6) (T := TX6) (N := 16) hx hb hts hiX6 hown hK hI rfl (by decide) w1 (hm_gq_s ev1) dX6_isPlace_8 ?_
    refine lv_iload_n hx hb dX6_isPlace_11 rfl (lv_at hl 1 rfl) ?_
    obtain ⟨v2, ev2, hf⟩ := hm_b_s hf
    refine hm_iald (kd := 0) (t0 := 0) hx hb hK hI rfl ev2 dX6_isPlace_12 ?_
    refine lv_i2l (v := (v2).toInt64) hx hb dX6_isPlace_13 rfl ?_
    refine W.lcmp hx hb dX6_isPlace_14 ?_
    refine lv_if_ge (tgt := 42) hx hb dX6_isPlace_15 (by decide) (fun c => ?_) (fun c => ?_)
    · rw [if_pos c] at hf
      refine lv_iconst (v := (0 : Int32)) hx hb dX6_isPlace_42 (by decide) ?_
      exact hm_zret_e hf hx hb hr hlocks hK hI (Nat.le_of_ble_eq_true rfl) (Nat.le_of_ble_eq_true rfl) rfl dX6_isPlace_43
    · rw [if_neg c] at hf
      refine lv_lload hx hb dX6_isPlace_18 (lv_at hl 3 rfl) ?_
      refine lv_lconst (v := (0 : Int64)) hx hb dX6_isPlace_20 (by decide) ?_
      refine W.lcmp hx hb dX6_isPlace_21 ?_
      refine lv_if_lt (tgt := 42) hx hb dX6_isPlace_22 (by decide) (fun c => ?_) (fun c => ?_)
      · rw [if_pos c] at hf
        refine lv_iconst (v := (0 : Int32)) hx hb dX6_isPlace_42 (by decide) ?_
        exact hm_zret_e hf hx hb hr hlocks hK hI (Nat.le_of_ble_eq_true rfl) (Nat.le_of_ble_eq_true rfl) rfl dX6_isPlace_43
      · rw [if_neg c] at hf
        refine lv_lload hx hb dX6_isPlace_25 (lv_at hl 3 rfl) ?_
        refine hm_aload_n hx hb dX6_isPlace_27 rfl (lv_at hl 0 rfl) ?_
        obtain ⟨v3, ev3, hf⟩ := hm_b_s hf
        refine hm_get (ci := 6) (k := 3) (C := RX6) (T := TX6) (N := 16) hx hb hts hiX6 hown hK hI rfl (by decide) w2 (hm_gq_s ev3) dX6_isPlace_28 ?_
        refine lv_iload_n hx hb dX6_isPlace_31 rfl (lv_at hl 1 rfl) ?_
        obtain ⟨v4, ev4, hf⟩ := hm_b_s hf
        refine hm_iald (kd := 0) (t0 := 0) hx hb hK hI rfl ev4 dX6_isPlace_32 ?_
        refine lv_i2l (v := (v4).toInt64) hx hb dX6_isPlace_33 rfl ?_
        refine W.lcmp hx hb dX6_isPlace_34 ?_
        refine lv_if_ge (tgt := 42) hx hb dX6_isPlace_35 (by decide) (fun c => ?_) (fun c => ?_)
        · rw [if_pos c] at hf
          refine lv_iconst (v := (0 : Int32)) hx hb dX6_isPlace_42 (by decide) ?_
          exact hm_zret_e hf hx hb hr hlocks hK hI (Nat.le_of_ble_eq_true rfl) (Nat.le_of_ble_eq_true rfl) rfl dX6_isPlace_43
        · rw [if_neg c] at hf
          refine lv_iconst (v := (1 : Int32)) hx hb dX6_isPlace_38 (by decide) ?_
          refine lv_goto (tgt := 43) hx hb dX6_isPlace_39 (by decide) ?_
          exact hm_zret_e hf hx hb hr hlocks hK hI (Nat.le_of_ble_eq_true rfl) (Nat.le_of_ble_eq_true rfl) rfl dX6_isPlace_43
/-! ==== X6_isInClip: BlitBoardModel.isInClip(IJJ)Z ==== -/
def fX6_isInClip (t : Nat) (a1 : Int32) (a2 : Int64) (a3 : Int64) (h0 : hm_H) : Option (Int32 × hm_H) :=
  hm_let ((4 : Int32) * a1) fun v1 =>
  hm_b (hm_gq 6 4 h0 (some t)) fun v2 =>
  hm_b (hm_ai 0 h0 v2 v1) fun v3 =>
  if (lg_cmp a2 ((v3).toInt64)) < 0 then
    some ((0 : Int32), h0)
  else
    hm_b (hm_gq 6 4 h0 (some t)) fun v4 =>
    hm_b (hm_ai 0 h0 v4 v1) fun v5 =>
    hm_b (hm_gq 6 4 h0 (some t)) fun v6 =>
    hm_b (hm_ai 0 h0 v6 (v1 + (2 : Int32))) fun v7 =>
    if 0 ≤ (lg_cmp a2 ((v5 + v7).toInt64)) then
      some ((0 : Int32), h0)
    else
      hm_b (hm_gq 6 4 h0 (some t)) fun v8 =>
      hm_b (hm_ai 0 h0 v8 (v1 + (1 : Int32))) fun v9 =>
      if (lg_cmp a3 ((v9).toInt64)) < 0 then
        some ((0 : Int32), h0)
      else
        hm_b (hm_gq 6 4 h0 (some t)) fun v10 =>
        hm_b (hm_ai 0 h0 v10 (v1 + (1 : Int32))) fun v11 =>
        hm_b (hm_gq 6 4 h0 (some t)) fun v12 =>
        hm_b (hm_ai 0 h0 v12 (v1 + (3 : Int32))) fun v13 =>
        if 0 ≤ (lg_cmp a3 ((v11 + v13).toInt64)) then
          some ((0 : Int32), h0)
        else
          some ((1 : Int32), h0)
set_option maxRecDepth 100000 in
set_option maxHeartbeats 8000000 in
theorem kX6_isInClip (l : Launch) (D : va_G) (kA : Nat → ClassId) (t : Nat) (a1 : Int32) (a2 : Int64) (a3 : Int64) (h0 h' : hm_H) (r : Int32) (hf : fX6_isInClip t a1 a2 a3 h0 = some (r, h')) : hm_C l yX6_isInClip wsX6_isInClip { frames := 0, cells := 0, slots := 0, locals := 0 } D vwCl kA (hm_ty kA) [.ref t, .int a1, .long a2, .long a3] h0 (some (.int r)) h' 0 0 := by
  refine Met.ofW (cc := cX6_isInClip) (maxL := 7) (ret := (some .boolean)) (by decide) rfl ?_
  intro p e s m args below meth c s₁ B hml hv
  obtain ⟨hargs, hB⟩ := hv
  have hx := B.exec
  have hb := B.bytes
  have hr := B.returns
  have hts := atoms_spec (ws := wsX6_isInClip) B.pre
  have hown : s.vm.findClass RX6 = some m.cls := findClass_of_methodNamed B.named
  have hlocks := B.notSynchronized
  have hK := hB.2
  have hI := hm_start hB
  have w1 := hts (.fieldLink RX6 19 "BlitBoardModel" "clips" "[I") (by decide +kernel)
  have hiX6 : ∀ w ∈ wsX60, w ∈ wsX6_isInClip := by decide +kernel
  rw [show entryFrame m args 7 = entryFrame m ([.ref t, .int a1, .long a2, .long a3] : List Value).toArray 7 from by rw [hargs]]
  have hl := lv_entry ([.ref t, .int a1, .long a2, .long a3]) (n := 7) (Nat.le_of_ble_eq_true rfl)
  rw [lg_entry_eq]
  generalize (lg_sl ([.ref t, .int a1, .long a2, .long a3]) ++ List.replicate (7 - (lg_sl ([.ref t, .int a1, .long a2, .long a3])).length) Slot.unset).toArray = ls at hl ⊢
  have hl : lv_has ls 7 [(0, va_rf (some t)), (1, .int a1), (2, .long a2), (4, .long a3)] := hl
  unfold fX6_isInClip at hf
  refine lv_iconst (v := (4 : Int32)) hx hb dX6_isInClip_0 (by decide) ?_
  refine lv_iload_n hx hb dX6_isInClip_1 rfl (lv_at hl 1 rfl) ?_
  refine lv_imul hx hb dX6_isInClip_2 ?_
  obtain ⟨v1, ev1, hf⟩ := hm_let_s hf
  refine hm_ti ev1 ?_
  refine lv_istore (lv' := [(6, .int v1), (0, va_rf (some t)), (1, .int a1), (2, .long a2), (4, .long a3)]) hx hb dX6_isInClip_3 hl (by decide) rfl (fun ls hl => ?_)
  refine lv_lload_n hx hb dX6_isInClip_5 rfl (lv_at hl 3 rfl) ?_
  refine hm_aload_n hx hb dX6_isInClip_6 rfl (lv_at hl 1 rfl) ?_
  obtain ⟨v2, ev2, hf⟩ := hm_b_s hf
  refine hm_get (ci := 6) (k := 4) (C := RX6) (T := TX6) (N := 16) hx hb hts hiX6 hown hK hI rfl (by decide) w1 (hm_gq_s ev2) dX6_isInClip_7 ?_
  refine lv_iload hx hb dX6_isInClip_10 (lv_at hl 0 rfl) ?_
  obtain ⟨v3, ev3, hf⟩ := hm_b_s hf
  refine hm_iald (kd := 0) (t0 := 0) hx hb hK hI rfl ev3 dX6_isInClip_12 ?_
  refine lv_i2l (v := (v3).toInt64) hx hb dX6_isInClip_13 rfl ?_
  refine W.lcmp hx hb dX6_isInClip_14 ?_
  refine lv_if_lt (tgt := 87) hx hb dX6_isInClip_15 (by decide) (fun c => ?_) (fun c => ?_)
  · rw [if_pos c] at hf
    refine lv_iconst (v := (0 : Int32)) hx hb dX6_isInClip_87 (by decide) ?_
    exact hm_zret_e hf hx hb hr hlocks hK hI (Nat.le_of_ble_eq_true rfl) (Nat.le_of_ble_eq_true rfl) rfl dX6_isInClip_88
  · rw [if_neg c] at hf
    refine lv_lload_n hx hb dX6_isInClip_18 rfl (lv_at hl 3 rfl) ?_
    refine hm_aload_n hx hb dX6_isInClip_19 rfl (lv_at hl 1 rfl) ?_
    obtain ⟨v4, ev4, hf⟩ := hm_b_s hf
    refine hm_get (ci := 6) (k := 4) (C := RX6) (T := TX6) (N := 16) hx hb hts hiX6 hown hK hI rfl (by decide) w1 (hm_gq_s ev4) dX6_isInClip_20 ?_
    refine lv_iload hx hb dX6_isInClip_23 (lv_at hl 0 rfl) ?_
    obtain ⟨v5, ev5, hf⟩ := hm_b_s hf
    refine hm_iald (kd := 0) (t0 := 0) hx hb hK hI rfl ev5 dX6_isInClip_25 ?_
    refine hm_aload_n hx hb dX6_isInClip_26 rfl (lv_at hl 1 rfl) ?_
    obtain ⟨v6, ev6, hf⟩ := hm_b_s hf
    refine hm_get (ci := 6) (k := 4) (C := RX6) (T := TX6) (N := 16) hx hb hts hiX6 hown hK hI rfl (by decide) w1 (hm_gq_s ev6) dX6_isInClip_27 ?_
    refine lv_iload hx hb dX6_isInClip_30 (lv_at hl 0 rfl) ?_
    refine lv_iconst (v := (2 : Int32)) hx hb dX6_isInClip_32 (by decide) ?_
    refine lv_iadd hx hb dX6_isInClip_33 ?_
    obtain ⟨v7, ev7, hf⟩ := hm_b_s hf
    refine hm_iald (kd := 0) (t0 := 0) hx hb hK hI rfl ev7 dX6_isInClip_34 ?_
    refine lv_iadd hx hb dX6_isInClip_35 ?_
    refine lv_i2l (v := (v5 + v7).toInt64) hx hb dX6_isInClip_36 rfl ?_
    refine W.lcmp hx hb dX6_isInClip_37 ?_
    refine lv_if_ge (tgt := 87) hx hb dX6_isInClip_38 (by decide) (fun c => ?_) (fun c => ?_)
    · rw [if_pos c] at hf
      refine lv_iconst (v := (0 : Int32)) hx hb dX6_isInClip_87 (by decide) ?_
      exact hm_zret_e hf hx hb hr hlocks hK hI (Nat.le_of_ble_eq_true rfl) (Nat.le_of_ble_eq_true rfl) rfl dX6_isInClip_88
    · rw [if_neg c] at hf
      refine lv_lload hx hb dX6_isInClip_41 (lv_at hl 4 rfl) ?_
      refine hm_aload_n hx hb dX6_isInClip_43 rfl (lv_at hl 1 rfl) ?_
      obtain ⟨v8, ev8, hf⟩ := hm_b_s hf
      refine hm_get (ci := 6) (k := 4) (C := RX6) (T := TX6) (N := 16) hx hb hts hiX6 hown hK hI rfl (by decide) w1 (hm_gq_s ev8) dX6_isInClip_44 ?_
      refine lv_iload hx hb dX6_isInClip_47 (lv_at hl 0 rfl) ?_
      refine lv_iconst (v := (1 : Int32)) hx hb dX6_isInClip_49 (by decide) ?_
      refine lv_iadd hx hb dX6_isInClip_50 ?_
      obtain ⟨v9, ev9, hf⟩ := hm_b_s hf
      refine hm_iald (kd := 0) (t0 := 0) hx hb hK hI rfl ev9 dX6_isInClip_51 ?_
      refine lv_i2l (v := (v9).toInt64) hx hb dX6_isInClip_52 rfl ?_
      refine W.lcmp hx hb dX6_isInClip_53 ?_
      refine lv_if_lt (tgt := 87) hx hb dX6_isInClip_54 (by decide) (fun c => ?_) (fun c => ?_)
      · rw [if_pos c] at hf
        refine lv_iconst (v := (0 : Int32)) hx hb dX6_isInClip_87 (by decide) ?_
        exact hm_zret_e hf hx hb hr hlocks hK hI (Nat.le_of_ble_eq_true rfl) (Nat.le_of_ble_eq_true rfl) rfl dX6_isInClip_88
      · rw [if_neg c] at hf
        refine lv_lload hx hb dX6_isInClip_57 (lv_at hl 4 rfl) ?_
        refine hm_aload_n hx hb dX6_isInClip_59 rfl (lv_at hl 1 rfl) ?_
        obtain ⟨v10, ev10, hf⟩ := hm_b_s hf
        refine hm_get (ci := 6) (k := 4) (C := RX6) (T := TX6) (N := 16) hx hb hts hiX6 hown hK hI rfl (by decide) w1 (hm_gq_s ev10) dX6_isInClip_60 ?_
        refine lv_iload hx hb dX6_isInClip_63 (lv_at hl 0 rfl) ?_
        refine lv_iconst (v := (1 : Int32)) hx hb dX6_isInClip_65 (by decide) ?_
        refine lv_iadd hx hb dX6_isInClip_66 ?_
        obtain ⟨v11, ev11, hf⟩ := hm_b_s hf
        refine hm_iald (kd := 0) (t0 := 0) hx hb hK hI rfl ev11 dX6_isInClip_67 ?_
        refine hm_aload_n hx hb dX6_isInClip_68 rfl (lv_at hl 1 rfl) ?_
        obtain ⟨v12, ev12, hf⟩ := hm_b_s hf
        refine hm_get (ci := 6) (k := 4) (C := RX6) (T := TX6) (N := 16) hx hb hts hiX6 hown hK hI rfl (by decide) w1 (hm_gq_s ev12) dX6_isInClip_69 ?_
        refine lv_iload hx hb dX6_isInClip_72 (lv_at hl 0 rfl) ?_
        refine lv_iconst (v := (3 : Int32)) hx hb dX6_isInClip_74 (by decide) ?_
        refine lv_iadd hx hb dX6_isInClip_75 ?_
        obtain ⟨v13, ev13, hf⟩ := hm_b_s hf
        refine hm_iald (kd := 0) (t0 := 0) hx hb hK hI rfl ev13 dX6_isInClip_76 ?_
        refine lv_iadd hx hb dX6_isInClip_77 ?_
        refine lv_i2l (v := (v11 + v13).toInt64) hx hb dX6_isInClip_78 rfl ?_
        refine W.lcmp hx hb dX6_isInClip_79 ?_
        refine lv_if_ge (tgt := 87) hx hb dX6_isInClip_80 (by decide) (fun c => ?_) (fun c => ?_)
        · rw [if_pos c] at hf
          refine lv_iconst (v := (0 : Int32)) hx hb dX6_isInClip_87 (by decide) ?_
          exact hm_zret_e hf hx hb hr hlocks hK hI (Nat.le_of_ble_eq_true rfl) (Nat.le_of_ble_eq_true rfl) rfl dX6_isInClip_88
        · rw [if_neg c] at hf
          refine lv_iconst (v := (1 : Int32)) hx hb dX6_isInClip_83 (by decide) ?_
          refine lv_goto (tgt := 88) hx hb dX6_isInClip_84 (by decide) ?_
          exact hm_zret_e hf hx hb hr hlocks hK hI (Nat.le_of_ble_eq_true rfl) (Nat.le_of_ble_eq_true rfl) rfl dX6_isInClip_88
/-! ==== X6_fits: BlitBoardModel.fits(II)Z ==== -/
def fX6_fits (t : Nat) (a1 : Int32) (a2 : Int32) (h0 : hm_H) : Option (Int32 × hm_H) :=
  if a2 < 0 then
    some ((0 : Int32), h0)
  else
    hm_b (hm_gq 6 1 h0 (some t)) fun v1 =>
    hm_b (hm_ai 0 h0 v1 a1) fun v2 =>
    if ((1 : Int32) <<< (v2 &&& 31)) ≤ a2 then
      some ((0 : Int32), h0)
    else
      some ((1 : Int32), h0)
set_option maxRecDepth 100000 in
set_option maxHeartbeats 8000000 in
theorem kX6_fits (l : Launch) (D : va_G) (kA : Nat → ClassId) (t : Nat) (a1 : Int32) (a2 : Int32) (h0 h' : hm_H) (r : Int32) (hf : fX6_fits t a1 a2 h0 = some (r, h')) : hm_C l yX6_fits wsX6_fits { frames := 0, cells := 0, slots := 0, locals := 0 } D vwCl kA (hm_ty kA) [.ref t, .int a1, .int a2] h0 (some (.int r)) h' 0 0 := by
  refine Met.ofW (cc := cX6_fits) (maxL := 3) (ret := (some .boolean)) (by decide) rfl ?_
  intro p e s m args below meth c s₁ B hml hv
  obtain ⟨hargs, hB⟩ := hv
  have hx := B.exec
  have hb := B.bytes
  have hr := B.returns
  have hts := atoms_spec (ws := wsX6_fits) B.pre
  have hown : s.vm.findClass RX6 = some m.cls := findClass_of_methodNamed B.named
  have hlocks := B.notSynchronized
  have hK := hB.2
  have hI := hm_start hB
  have w1 := hts (.fieldLink RX6 7 "BlitBoardModel" "depths" "[I") (by decide +kernel)
  have hiX6 : ∀ w ∈ wsX60, w ∈ wsX6_fits := by decide +kernel
  rw [show entryFrame m args 3 = entryFrame m ([.ref t, .int a1, .int a2] : List Value).toArray 3 from by rw [hargs]]
  have hl := lv_entry ([.ref t, .int a1, .int a2]) (n := 3) (Nat.le_of_ble_eq_true rfl)
  rw [lg_entry_eq]
  generalize (lg_sl ([.ref t, .int a1, .int a2]) ++ List.replicate (3 - (lg_sl ([.ref t, .int a1, .int a2])).length) Slot.unset).toArray = ls at hl ⊢
  have hl : lv_has ls 3 [(0, va_rf (some t)), (1, .int a1), (2, .int a2)] := hl
  unfold fX6_fits at hf
  refine lv_iload_n hx hb dX6_fits_0 rfl (lv_at hl 2 rfl) ?_
  refine lv_if_lt (tgt := 20) hx hb dX6_fits_1 (by decide) (fun c => ?_) (fun c => ?_)
  · rw [if_pos c] at hf
    refine lv_iconst (v := (0 : Int32)) hx hb dX6_fits_20 (by decide) ?_
    exact hm_zret_e hf hx hb hr hlocks hK hI (Nat.le_of_ble_eq_true rfl) (Nat.le_of_ble_eq_true rfl) rfl dX6_fits_21
  · rw [if_neg c] at hf
    refine lv_iload_n hx hb dX6_fits_4 rfl (lv_at hl 2 rfl) ?_
    refine lv_iconst (v := (1 : Int32)) hx hb dX6_fits_5 (by decide) ?_
    refine hm_aload_n hx hb dX6_fits_6 rfl (lv_at hl 0 rfl) ?_
    obtain ⟨v1, ev1, hf⟩ := hm_b_s hf
    refine hm_get (ci := 6) (k := 1) (C := RX6) (T := TX6) (N := 16) hx hb hts hiX6 hown hK hI rfl (by decide) w1 (hm_gq_s ev1) dX6_fits_7 ?_
    refine lv_iload_n hx hb dX6_fits_10 rfl (lv_at hl 1 rfl) ?_
    obtain ⟨v2, ev2, hf⟩ := hm_b_s hf
    refine hm_iald (kd := 0) (t0 := 0) hx hb hK hI rfl ev2 dX6_fits_11 ?_
    refine lv_ishl hx hb dX6_fits_12 ?_
    refine lv_icmp_ge (tgt := 20) hx hb dX6_fits_13 (by decide) (fun c => ?_) (fun c => ?_)
    · rw [if_pos c] at hf
      refine lv_iconst (v := (0 : Int32)) hx hb dX6_fits_20 (by decide) ?_
      exact hm_zret_e hf hx hb hr hlocks hK hI (Nat.le_of_ble_eq_true rfl) (Nat.le_of_ble_eq_true rfl) rfl dX6_fits_21
    · rw [if_neg c] at hf
      refine lv_iconst (v := (1 : Int32)) hx hb dX6_fits_16 (by decide) ?_
      refine lv_goto (tgt := 21) hx hb dX6_fits_17 (by decide) ?_
      exact hm_zret_e hf hx hb hr hlocks hK hI (Nat.le_of_ble_eq_true rfl) (Nat.le_of_ble_eq_true rfl) rfl dX6_fits_21
/-! ==== X6_dot: BlitBoardModel.dot(IJJ)I ==== -/
def fX6_dot (t : Nat) (a1 : Int32) (a2 : Int64) (a3 : Int64) (h0 : hm_H) : Option (Int32 × hm_H) :=
  hm_b (hm_rc 6 h0 (some t)) fun b2 =>
  hm_b2 (fX6_isPlace b2 a1 a2 a3 h0) fun v3 h1 =>
  if v3 = 0 then
    some ((0 : Int32), h1)
  else
    hm_b (hm_gq 6 5 h1 (some t)) fun v4 =>
    hm_b (hm_ai 0 h1 v4 ((((4096 : Int32) * a1) + ((64 : Int32) * ((a3).toInt32))) + ((a2).toInt32))) fun v5 =>
    some (v5, h1)
set_option maxRecDepth 100000 in
set_option maxHeartbeats 8000000 in
theorem kX6_dot (l : Launch) (D : va_G) (kA : Nat → ClassId) (t : Nat) (a1 : Int32) (a2 : Int64) (a3 : Int64) (h0 h' : hm_H) (r : Int32) (hf : fX6_dot t a1 a2 a3 h0 = some (r, h')) : hm_C l yX6_dot wsX6_dot { frames := 1, cells := 0, slots := 0, locals := 25 } D vwCl kA (hm_ty kA) [.ref t, .int a1, .long a2, .long a3] h0 (some (.int r)) h' 0 0 := by
  refine Met.ofW (cc := cX6_dot) (maxL := 6) (ret := (some .int)) (by decide) rfl ?_
  intro p e s m args below meth c s₁ B hml hv
  obtain ⟨hargs, hB⟩ := hv
  have hx := B.exec
  have hb := B.bytes
  have hr := B.returns
  have hts := atoms_spec (ws := wsX6_dot) B.pre
  have hown : s.vm.findClass RX6 = some m.cls := findClass_of_methodNamed B.named
  have hlocks := B.notSynchronized
  have hK := hB.2
  have hI := hm_start hB
  have w1 := hts (.fieldLink RX6 23 "BlitBoardModel" "dots" "[I") (by decide +kernel)
  have hiX6 : ∀ w ∈ wsX60, w ∈ wsX6_dot := by decide +kernel
  rw [show entryFrame m args 6 = entryFrame m ([.ref t, .int a1, .long a2, .long a3] : List Value).toArray 6 from by rw [hargs]]
  have hl := lv_entry ([.ref t, .int a1, .long a2, .long a3]) (n := 6) (Nat.le_of_ble_eq_true rfl)
  rw [lg_entry_eq]
  generalize (lg_sl ([.ref t, .int a1, .long a2, .long a3]) ++ List.replicate (6 - (lg_sl ([.ref t, .int a1, .long a2, .long a3])).length) Slot.unset).toArray = ls at hl ⊢
  have hl : lv_has ls 6 [(0, va_rf (some t)), (1, .int a1), (2, .long a2), (4, .long a3)] := hl
  unfold fX6_dot at hf
  refine hm_aload_n hx hb dX6_dot_0 rfl (lv_at hl 0 rfl) ?_
  refine lv_iload_n hx hb dX6_dot_1 rfl (lv_at hl 1 rfl) ?_
  refine lv_lload_n hx hb dX6_dot_2 rfl (lv_at hl 2 rfl) ?_
  refine lv_lload hx hb dX6_dot_3 (lv_at hl 3 rfl) ?_
  obtain ⟨b2, eb2, hf⟩ := hm_b_s hf
  obtain ⟨v3, h1, eh1, hf⟩ := hm_b2_s hf
  refine hm_cV (As := [.int a1, .long a2, .long a3]) (rest := []) ⟨hx, hb, hml, hown, hts⟩ hK hI eb2 rfl rfl (kX6_isPlace l D kA b2 a1 a2 a3 h0 h1 v3 eh1) (cwV 3 hts gX6_dot_X6_isPlace rfl rfl rfl (by decide +kernel) ⟨Nat.le_of_ble_eq_true rfl, Nat.le_of_ble_eq_true rfl⟩) rfl hl.1 rfl (by first | exact Nat.le_of_ble_eq_true rfl | (simp only [List.map, hm_rf_cat, hm_ci, hm_cl, List.sum_cons, List.sum_nil] <;> decide)) dX6_dot_5 ⟨Nat.le_of_ble_eq_true rfl, Nat.le_of_ble_eq_true rfl⟩ (fun H locs hI => ?_)
  refine lv_if_eq (tgt := 34) hx hb dX6_dot_8 (by decide) (fun c => ?_) (fun c => ?_)
  · rw [if_pos c] at hf
    refine lv_iconst (v := (0 : Int32)) hx hb dX6_dot_34 (by decide) ?_
    exact hm_iret_e hf hx hb hr hlocks hK hI (Nat.le_of_ble_eq_true rfl) (Nat.le_of_ble_eq_true rfl) dX6_dot_35
  · rw [if_neg c] at hf
    refine hm_aload_n hx hb dX6_dot_11 rfl (lv_at hl 0 rfl) ?_
    obtain ⟨v4, ev4, hf⟩ := hm_b_s hf
    refine hm_get (ci := 6) (k := 5) (C := RX6) (T := TX6) (N := 16) hx hb hts hiX6 hown hK hI rfl (by decide) w1 (hm_gq_s ev4) dX6_dot_12 ?_
    refine lv_sipush (v := (4096 : Int32)) hx hb dX6_dot_15 (by decide) ?_
    refine lv_iload_n hx hb dX6_dot_18 rfl (lv_at hl 1 rfl) ?_
    refine lv_imul hx hb dX6_dot_19 ?_
    refine lv_bipush (v := (64 : Int32)) hx hb dX6_dot_20 (by decide) ?_
    refine lv_lload hx hb dX6_dot_22 (lv_at hl 3 rfl) ?_
    refine lv_l2i (v := (a3).toInt32) hx hb dX6_dot_24 rfl ?_
    refine lv_imul hx hb dX6_dot_25 ?_
    refine lv_iadd hx hb dX6_dot_26 ?_
    refine lv_lload_n hx hb dX6_dot_27 rfl (lv_at hl 2 rfl) ?_
    refine lv_l2i (v := (a2).toInt32) hx hb dX6_dot_28 rfl ?_
    refine lv_iadd hx hb dX6_dot_29 ?_
    obtain ⟨v5, ev5, hf⟩ := hm_b_s hf
    refine hm_iald (kd := 0) (t0 := 0) hx hb hK hI rfl ev5 dX6_dot_30 ?_
    refine lv_goto (tgt := 35) hx hb dX6_dot_31 (by decide) ?_
    exact hm_iret_e hf hx hb hr hlocks hK hI (Nat.le_of_ble_eq_true rfl) (Nat.le_of_ble_eq_true rfl) dX6_dot_35
/-! ==== X6_make: BlitBoardModel.make(III)I ==== -/
def fX6_make_21 (x0 : Option Nat) (x1 : Int32) (x2 : Int32) (x3 : Int32) (s0 : Int32) (h : hm_H) : Option (Int32 × hm_H) :=
  if s0 = 0 then
    some ((-1 : Int32), h)
  else
    if x2 < (1 : Int32) then
      some ((-1 : Int32), h)
    else
      if (64 : Int32) < x2 then
        some ((-1 : Int32), h)
      else
        if x3 < (1 : Int32) then
          some ((-1 : Int32), h)
        else
          if (64 : Int32) < x3 then
            some ((-1 : Int32), h)
          else
            hm_b (hm_gi 6 0 h x0) fun v1 =>
            if v1 = (8 : Int32) then
              some ((-1 : Int32), h)
            else
              hm_b (hm_gq 6 1 h x0) fun v2 =>
              hm_b (hm_gi 6 0 h x0) fun v3 =>
              hm_b (hm_si 0 h v2 v3 x1) fun h4 =>
              hm_b (hm_gq 6 2 h4 x0) fun v5 =>
              hm_b (hm_gi 6 0 h4 x0) fun v6 =>
              hm_b (hm_si 0 h4 v5 v6 x2) fun h7 =>
              hm_b (hm_gq 6 3 h7 x0) fun v8 =>
              hm_b (hm_gi 6 0 h7 x0) fun v9 =>
              hm_b (hm_si 0 h7 v8 v9 x3) fun h10 =>
              hm_b (hm_gq 6 4 h10 x0) fun v11 =>
              hm_b (hm_gi 6 0 h10 x0) fun v12 =>
              hm_b (hm_si 0 h10 v11 ((4 : Int32) * v12) (0 : Int32)) fun h13 =>
              hm_b (hm_gq 6 4 h13 x0) fun v14 =>
              hm_b (hm_gi 6 0 h13 x0) fun v15 =>
              hm_b (hm_si 0 h13 v14 (((4 : Int32) * v15) + (1 : Int32)) (0 : Int32)) fun h16 =>
              hm_b (hm_gq 6 4 h16 x0) fun v17 =>
              hm_b (hm_gi 6 0 h16 x0) fun v18 =>
              hm_b (hm_si 0 h16 v17 (((4 : Int32) * v18) + (2 : Int32)) x2) fun h19 =>
              hm_b (hm_gq 6 4 h19 x0) fun v20 =>
              hm_b (hm_gi 6 0 h19 x0) fun v21 =>
              hm_b (hm_si 0 h19 v20 (((4 : Int32) * v21) + (3 : Int32)) x3) fun h22 =>
              hm_b (hm_gi 6 0 h22 x0) fun v23 =>
              hm_b (hm_p 6 0 (.int (v23 + (1 : Int32))) h22 x0) fun h24 =>
              hm_b (hm_gi 6 0 h24 x0) fun v25 =>
              some (v25 - (1 : Int32), h24)
def fX6_make_16 (x0 : Option Nat) (x1 : Int32) (x2 : Int32) (x3 : Int32) (h : hm_H) : Option (Int32 × hm_H) :=
  fX6_make_21 x0 x1 x2 x3 (1 : Int32) h
def fX6_make (t : Nat) (a1 : Int32) (a2 : Int32) (a3 : Int32) (h0 : hm_H) : Option (Int32 × hm_H) :=
  if a1 = (1 : Int32) then
    fX6_make_16 (some t) a1 a2 a3 h0
  else
    if a1 = (4 : Int32) then
      fX6_make_16 (some t) a1 a2 a3 h0
    else
      if a1 = (8 : Int32) then
        fX6_make_16 (some t) a1 a2 a3 h0
      else
        fX6_make_21 (some t) a1 a2 a3 (0 : Int32) h0
set_option maxRecDepth 100000 in
set_option maxHeartbeats 8000000 in
theorem kX6_make (l : Launch) (D : va_G) (kA : Nat → ClassId) (t : Nat) (a1 : Int32) (a2 : Int32) (a3 : Int32) (h0 h' : hm_H) (r : Int32) (hf : fX6_make t a1 a2 a3 h0 = some (r, h')) : hm_C l yX6_make wsX6_make { frames := 0, cells := 0, slots := 0, locals := 0 } D vwCl kA (hm_ty kA) [.ref t, .int a1, .int a2, .int a3] h0 (some (.int r)) h' 0 0 := by
  refine Met.ofW (cc := cX6_make) (maxL := 5) (ret := (some .int)) (by decide) rfl ?_
  intro p e s m args below meth c s₁ B hml hv
  obtain ⟨hargs, hB⟩ := hv
  have hx := B.exec
  have hb := B.bytes
  have hr := B.returns
  have hts := atoms_spec (ws := wsX6_make) B.pre
  have hown : s.vm.findClass RX6 = some m.cls := findClass_of_methodNamed B.named
  have hlocks := B.notSynchronized
  have hK := hB.2
  have hI := hm_start hB
  have w1 := hts (.fieldLink RX6 51 "BlitBoardModel" "surfaces" "I") (by decide +kernel)
  have w2 := hts (.fieldLink RX6 7 "BlitBoardModel" "depths" "[I") (by decide +kernel)
  have w3 := hts (.fieldLink RX6 13 "BlitBoardModel" "wides" "[I") (by decide +kernel)
  have w4 := hts (.fieldLink RX6 16 "BlitBoardModel" "highs" "[I") (by decide +kernel)
  have w5 := hts (.fieldLink RX6 19 "BlitBoardModel" "clips" "[I") (by decide +kernel)
  have hiX6 : ∀ w ∈ wsX60, w ∈ wsX6_make := by decide +kernel
  have B21 : ∀ (x0 : Option Nat) (x1 : Int32) (x2 : Int32) (x3 : Int32) (s0 : Int32) (h : hm_H), fX6_make_21 x0 x1 x2 x3 s0 h = some (r, h') → ∀ (H : Heap) (locs : List Loc) (ls : Array Slot), hm_I D vwCl kA (hm_A h0) s.heap h H locs → lv_has ls 5 [(0, va_rf x0), (1, .int x1), (2, .int x2), (3, .int x3)] → W p l e (headSpec wsX6_make { frames := 0, cells := 0, slots := 0, locals := 0 }).room s m args below meth c H locs 0 0 (MQ below (hm_Q D vwCl kA (hm_ty kA) h0 (some (.int r)) h') args s 0 0 (hm_A h0)) (F0 m 21 ls [.int s0]) := by
    intro x0 x1 x2 x3 s0 h hf H locs ls hI hl
    unfold fX6_make_21 at hf
    refine lv_istore (lv' := [(4, .int s0), (0, va_rf x0), (1, .int x1), (2, .int x2), (3, .int x3)]) hx hb dX6_make_21 hl (by decide) rfl (fun ls hl => ?_)
    refine lv_iload hx hb dX6_make_23 (lv_at hl 0 rfl) ?_
    refine lv_if_eq (tgt := 59) hx hb dX6_make_25 (by decide) (fun c => ?_) (fun c => ?_)
    · rw [if_pos c] at hf
      refine lv_iconst (v := (-1 : Int32)) hx hb dX6_make_59 (by decide) ?_
      exact hm_iret_e hf hx hb hr hlocks hK hI (Nat.le_of_ble_eq_true rfl) (Nat.le_of_ble_eq_true rfl) dX6_make_60
    · rw [if_neg c] at hf
      refine lv_iload_n hx hb dX6_make_28 rfl (lv_at hl 3 rfl) ?_
      refine lv_iconst (v := (1 : Int32)) hx hb dX6_make_29 (by decide) ?_
      refine lv_icmp_lt (tgt := 59) hx hb dX6_make_30 (by decide) (fun c => ?_) (fun c => ?_)
      · rw [if_pos c] at hf
        refine lv_iconst (v := (-1 : Int32)) hx hb dX6_make_59 (by decide) ?_
        exact hm_iret_e hf hx hb hr hlocks hK hI (Nat.le_of_ble_eq_true rfl) (Nat.le_of_ble_eq_true rfl) dX6_make_60
      · rw [if_neg c] at hf
        refine lv_iload_n hx hb dX6_make_33 rfl (lv_at hl 3 rfl) ?_
        refine lv_bipush (v := (64 : Int32)) hx hb dX6_make_34 (by decide) ?_
        refine lv_icmp_gt (tgt := 59) hx hb dX6_make_36 (by decide) (fun c => ?_) (fun c => ?_)
        · rw [if_pos c] at hf
          refine lv_iconst (v := (-1 : Int32)) hx hb dX6_make_59 (by decide) ?_
          exact hm_iret_e hf hx hb hr hlocks hK hI (Nat.le_of_ble_eq_true rfl) (Nat.le_of_ble_eq_true rfl) dX6_make_60
        · rw [if_neg c] at hf
          refine lv_iload_n hx hb dX6_make_39 rfl (lv_at hl 4 rfl) ?_
          refine lv_iconst (v := (1 : Int32)) hx hb dX6_make_40 (by decide) ?_
          refine lv_icmp_lt (tgt := 59) hx hb dX6_make_41 (by decide) (fun c => ?_) (fun c => ?_)
          · rw [if_pos c] at hf
            refine lv_iconst (v := (-1 : Int32)) hx hb dX6_make_59 (by decide) ?_
            exact hm_iret_e hf hx hb hr hlocks hK hI (Nat.le_of_ble_eq_true rfl) (Nat.le_of_ble_eq_true rfl) dX6_make_60
          · rw [if_neg c] at hf
            refine lv_iload_n hx hb dX6_make_44 rfl (lv_at hl 4 rfl) ?_
            refine lv_bipush (v := (64 : Int32)) hx hb dX6_make_45 (by decide) ?_
            refine lv_icmp_gt (tgt := 59) hx hb dX6_make_47 (by decide) (fun c => ?_) (fun c => ?_)
            · rw [if_pos c] at hf
              refine lv_iconst (v := (-1 : Int32)) hx hb dX6_make_59 (by decide) ?_
              exact hm_iret_e hf hx hb hr hlocks hK hI (Nat.le_of_ble_eq_true rfl) (Nat.le_of_ble_eq_true rfl) dX6_make_60
            · rw [if_neg c] at hf
              refine hm_aload_n hx hb dX6_make_50 rfl (lv_at hl 1 rfl) ?_
              obtain ⟨v1, ev1, hf⟩ := hm_b_s hf
              refine hm_get (ci := 6) (k := 0) (C := RX6) (T := TX6) (N := 16) hx hb hts hiX6 hown hK hI rfl (by decide) w1 (hm_gi_s ev1) dX6_make_51 ?_
              refine lv_bipush (v := (8 : Int32)) hx hb dX6_make_54 (by decide) ?_
              refine lv_icmp_ne (tgt := 61) hx hb dX6_make_56 (by decide) (fun c => ?_) (fun c => ?_)
              · rw [if_neg c] at hf
                refine hm_aload_n hx hb dX6_make_61 rfl (lv_at hl 1 rfl) ?_
                obtain ⟨v2, ev2, hf⟩ := hm_b_s hf
                refine hm_get (ci := 6) (k := 1) (C := RX6) (T := TX6) (N := 16) hx hb hts hiX6 hown hK hI rfl (by decide) w2 (hm_gq_s ev2) dX6_make_62 ?_
                refine hm_aload_n hx hb dX6_make_65 rfl (lv_at hl 1 rfl) ?_
                obtain ⟨v3, ev3, hf⟩ := hm_b_s hf
                refine hm_get (ci := 6) (k := 0) (C := RX6) (T := TX6) (N := 16) hx hb hts hiX6 hown hK hI rfl (by decide) w1 (hm_gi_s ev3) dX6_make_66 ?_
                refine lv_iload_n hx hb dX6_make_69 rfl (lv_at hl 2 rfl) ?_
                obtain ⟨h4, eh4, hf⟩ := hm_b_s hf
                refine hm_iast (kd := 0) (t0 := 0) hx hb hK hI rfl eh4 dX6_make_70 (fun H locs hI => ?_)
                refine hm_aload_n hx hb dX6_make_71 rfl (lv_at hl 1 rfl) ?_
                obtain ⟨v5, ev5, hf⟩ := hm_b_s hf
                refine hm_get (ci := 6) (k := 2) (C := RX6) (T := TX6) (N := 16) hx hb hts hiX6 hown hK hI rfl (by decide) w3 (hm_gq_s ev5) dX6_make_72 ?_
                refine hm_aload_n hx hb dX6_make_75 rfl (lv_at hl 1 rfl) ?_
                obtain ⟨v6, ev6, hf⟩ := hm_b_s hf
                refine hm_get (ci := 6) (k := 0) (C := RX6) (T := TX6) (N := 16) hx hb hts hiX6 hown hK hI rfl (by decide) w1 (hm_gi_s ev6) dX6_make_76 ?_
                refine lv_iload_n hx hb dX6_make_79 rfl (lv_at hl 3 rfl) ?_
                obtain ⟨h7, eh7, hf⟩ := hm_b_s hf
                refine hm_iast (kd := 0) (t0 := 0) hx hb hK hI rfl eh7 dX6_make_80 (fun H locs hI => ?_)
                refine hm_aload_n hx hb dX6_make_81 rfl (lv_at hl 1 rfl) ?_
                obtain ⟨v8, ev8, hf⟩ := hm_b_s hf
                refine hm_get (ci := 6) (k := 3) (C := RX6) (T := TX6) (N := 16) hx hb hts hiX6 hown hK hI rfl (by decide) w4 (hm_gq_s ev8) dX6_make_82 ?_
                refine hm_aload_n hx hb dX6_make_85 rfl (lv_at hl 1 rfl) ?_
                obtain ⟨v9, ev9, hf⟩ := hm_b_s hf
                refine hm_get (ci := 6) (k := 0) (C := RX6) (T := TX6) (N := 16) hx hb hts hiX6 hown hK hI rfl (by decide) w1 (hm_gi_s ev9) dX6_make_86 ?_
                refine lv_iload_n hx hb dX6_make_89 rfl (lv_at hl 4 rfl) ?_
                obtain ⟨h10, eh10, hf⟩ := hm_b_s hf
                refine hm_iast (kd := 0) (t0 := 0) hx hb hK hI rfl eh10 dX6_make_90 (fun H locs hI => ?_)
                refine hm_aload_n hx hb dX6_make_91 rfl (lv_at hl 1 rfl) ?_
                obtain ⟨v11, ev11, hf⟩ := hm_b_s hf
                refine hm_get (ci := 6) (k := 4) (C := RX6) (T := TX6) (N := 16) hx hb hts hiX6 hown hK hI rfl (by decide) w5 (hm_gq_s ev11) dX6_make_92 ?_
                refine lv_iconst (v := (4 : Int32)) hx hb dX6_make_95 (by decide) ?_
                refine hm_aload_n hx hb dX6_make_96 rfl (lv_at hl 1 rfl) ?_
                obtain ⟨v12, ev12, hf⟩ := hm_b_s hf
                refine hm_get (ci := 6) (k := 0) (C := RX6) (T := TX6) (N := 16) hx hb hts hiX6 hown hK hI rfl (by decide) w1 (hm_gi_s ev12) dX6_make_97 ?_
                refine lv_imul hx hb dX6_make_100 ?_
                refine lv_iconst (v := (0 : Int32)) hx hb dX6_make_101 (by decide) ?_
                obtain ⟨h13, eh13, hf⟩ := hm_b_s hf
                refine hm_iast (kd := 0) (t0 := 0) hx hb hK hI rfl eh13 dX6_make_102 (fun H locs hI => ?_)
                refine hm_aload_n hx hb dX6_make_103 rfl (lv_at hl 1 rfl) ?_
                obtain ⟨v14, ev14, hf⟩ := hm_b_s hf
                refine hm_get (ci := 6) (k := 4) (C := RX6) (T := TX6) (N := 16) hx hb hts hiX6 hown hK hI rfl (by decide) w5 (hm_gq_s ev14) dX6_make_104 ?_
                refine lv_iconst (v := (4 : Int32)) hx hb dX6_make_107 (by decide) ?_
                refine hm_aload_n hx hb dX6_make_108 rfl (lv_at hl 1 rfl) ?_
                obtain ⟨v15, ev15, hf⟩ := hm_b_s hf
                refine hm_get (ci := 6) (k := 0) (C := RX6) (T := TX6) (N := 16) hx hb hts hiX6 hown hK hI rfl (by decide) w1 (hm_gi_s ev15) dX6_make_109 ?_
                refine lv_imul hx hb dX6_make_112 ?_
                refine lv_iconst (v := (1 : Int32)) hx hb dX6_make_113 (by decide) ?_
                refine lv_iadd hx hb dX6_make_114 ?_
                refine lv_iconst (v := (0 : Int32)) hx hb dX6_make_115 (by decide) ?_
                obtain ⟨h16, eh16, hf⟩ := hm_b_s hf
                refine hm_iast (kd := 0) (t0 := 0) hx hb hK hI rfl eh16 dX6_make_116 (fun H locs hI => ?_)
                refine hm_aload_n hx hb dX6_make_117 rfl (lv_at hl 1 rfl) ?_
                obtain ⟨v17, ev17, hf⟩ := hm_b_s hf
                refine hm_get (ci := 6) (k := 4) (C := RX6) (T := TX6) (N := 16) hx hb hts hiX6 hown hK hI rfl (by decide) w5 (hm_gq_s ev17) dX6_make_118 ?_
                refine lv_iconst (v := (4 : Int32)) hx hb dX6_make_121 (by decide) ?_
                refine hm_aload_n hx hb dX6_make_122 rfl (lv_at hl 1 rfl) ?_
                obtain ⟨v18, ev18, hf⟩ := hm_b_s hf
                refine hm_get (ci := 6) (k := 0) (C := RX6) (T := TX6) (N := 16) hx hb hts hiX6 hown hK hI rfl (by decide) w1 (hm_gi_s ev18) dX6_make_123 ?_
                refine lv_imul hx hb dX6_make_126 ?_
                refine lv_iconst (v := (2 : Int32)) hx hb dX6_make_127 (by decide) ?_
                refine lv_iadd hx hb dX6_make_128 ?_
                refine lv_iload_n hx hb dX6_make_129 rfl (lv_at hl 3 rfl) ?_
                obtain ⟨h19, eh19, hf⟩ := hm_b_s hf
                refine hm_iast (kd := 0) (t0 := 0) hx hb hK hI rfl eh19 dX6_make_130 (fun H locs hI => ?_)
                refine hm_aload_n hx hb dX6_make_131 rfl (lv_at hl 1 rfl) ?_
                obtain ⟨v20, ev20, hf⟩ := hm_b_s hf
                refine hm_get (ci := 6) (k := 4) (C := RX6) (T := TX6) (N := 16) hx hb hts hiX6 hown hK hI rfl (by decide) w5 (hm_gq_s ev20) dX6_make_132 ?_
                refine lv_iconst (v := (4 : Int32)) hx hb dX6_make_135 (by decide) ?_
                refine hm_aload_n hx hb dX6_make_136 rfl (lv_at hl 1 rfl) ?_
                obtain ⟨v21, ev21, hf⟩ := hm_b_s hf
                refine hm_get (ci := 6) (k := 0) (C := RX6) (T := TX6) (N := 16) hx hb hts hiX6 hown hK hI rfl (by decide) w1 (hm_gi_s ev21) dX6_make_137 ?_
                refine lv_imul hx hb dX6_make_140 ?_
                refine lv_iconst (v := (3 : Int32)) hx hb dX6_make_141 (by decide) ?_
                refine lv_iadd hx hb dX6_make_142 ?_
                refine lv_iload_n hx hb dX6_make_143 rfl (lv_at hl 4 rfl) ?_
                obtain ⟨h22, eh22, hf⟩ := hm_b_s hf
                refine hm_iast (kd := 0) (t0 := 0) hx hb hK hI rfl eh22 dX6_make_144 (fun H locs hI => ?_)
                refine hm_aload_n hx hb dX6_make_145 rfl (lv_at hl 1 rfl) ?_
                refine lv_dup hx hb dX6_make_146 (hm_rf_cat _) ?_
                obtain ⟨v23, ev23, hf⟩ := hm_b_s hf
                refine hm_get (ci := 6) (k := 0) (C := RX6) (T := TX6) (N := 16) hx hb hts hiX6 hown hK hI rfl (by decide) w1 (hm_gi_s ev23) dX6_make_147 ?_
                refine lv_iconst (v := (1 : Int32)) hx hb dX6_make_150 (by decide) ?_
                refine lv_iadd hx hb dX6_make_151 ?_
                obtain ⟨h24, eh24, hf⟩ := hm_b_s hf
                refine hm_put (ci := 6) (k := 0) (C := RX6) (T := TX6) (N := 16) hx hb hts hiX6 tyX6 tyX6_ok nmX6 hown hK hI rfl (by decide) w1 rfl eh24 rfl rfl dX6_make_152 (fun H locs hI => ?_)
                refine hm_aload_n hx hb dX6_make_155 rfl (lv_at hl 1 rfl) ?_
                obtain ⟨v25, ev25, hf⟩ := hm_b_s hf
                refine hm_get (ci := 6) (k := 0) (C := RX6) (T := TX6) (N := 16) hx hb hts hiX6 hown hK hI rfl (by decide) w1 (hm_gi_s ev25) dX6_make_156 ?_
                refine lv_iconst (v := (1 : Int32)) hx hb dX6_make_159 (by decide) ?_
                refine lv_isub hx hb dX6_make_160 ?_
                exact hm_iret_e hf hx hb hr hlocks hK hI (Nat.le_of_ble_eq_true rfl) (Nat.le_of_ble_eq_true rfl) dX6_make_161
              · rw [if_pos c] at hf
                refine lv_iconst (v := (-1 : Int32)) hx hb dX6_make_59 (by decide) ?_
                exact hm_iret_e hf hx hb hr hlocks hK hI (Nat.le_of_ble_eq_true rfl) (Nat.le_of_ble_eq_true rfl) dX6_make_60
  have B16 : ∀ (x0 : Option Nat) (x1 : Int32) (x2 : Int32) (x3 : Int32) (h : hm_H), fX6_make_16 x0 x1 x2 x3 h = some (r, h') → ∀ (H : Heap) (locs : List Loc) (ls : Array Slot), hm_I D vwCl kA (hm_A h0) s.heap h H locs → lv_has ls 5 [(0, va_rf x0), (1, .int x1), (2, .int x2), (3, .int x3)] → W p l e (headSpec wsX6_make { frames := 0, cells := 0, slots := 0, locals := 0 }).room s m args below meth c H locs 0 0 (MQ below (hm_Q D vwCl kA (hm_ty kA) h0 (some (.int r)) h') args s 0 0 (hm_A h0)) (F0 m 16 ls []) := by
    intro x0 x1 x2 x3 h hf H locs ls hI hl
    unfold fX6_make_16 at hf
    refine lv_iconst (v := (1 : Int32)) hx hb dX6_make_16 (by decide) ?_
    refine lv_goto (tgt := 21) hx hb dX6_make_17 (by decide) ?_
    exact B21 x0 x1 x2 x3 (1 : Int32) h hf _ _ _ hI (lv_sub hl [0, 1, 2, 3] rfl)
  rw [show entryFrame m args 5 = entryFrame m ([.ref t, .int a1, .int a2, .int a3] : List Value).toArray 5 from by rw [hargs]]
  have hl := lv_entry ([.ref t, .int a1, .int a2, .int a3]) (n := 5) (Nat.le_of_ble_eq_true rfl)
  rw [lg_entry_eq]
  generalize (lg_sl ([.ref t, .int a1, .int a2, .int a3]) ++ List.replicate (5 - (lg_sl ([.ref t, .int a1, .int a2, .int a3])).length) Slot.unset).toArray = ls at hl ⊢
  have hl : lv_has ls 5 [(0, va_rf (some t)), (1, .int a1), (2, .int a2), (3, .int a3)] := hl
  unfold fX6_make at hf
  refine lv_iload_n hx hb dX6_make_0 rfl (lv_at hl 1 rfl) ?_
  refine lv_iconst (v := (1 : Int32)) hx hb dX6_make_1 (by decide) ?_
  refine lv_icmp_eq (tgt := 16) hx hb dX6_make_2 (by decide) (fun c => ?_) (fun c => ?_)
  · rw [if_pos c] at hf
    exact B16 (some t) a1 a2 a3 h0 hf _ _ _ hI (lv_sub hl [0, 1, 2, 3] rfl)
  · rw [if_neg c] at hf
    refine lv_iload_n hx hb dX6_make_5 rfl (lv_at hl 1 rfl) ?_
    refine lv_iconst (v := (4 : Int32)) hx hb dX6_make_6 (by decide) ?_
    refine lv_icmp_eq (tgt := 16) hx hb dX6_make_7 (by decide) (fun c => ?_) (fun c => ?_)
    · rw [if_pos c] at hf
      exact B16 (some t) a1 a2 a3 h0 hf _ _ _ hI (lv_sub hl [0, 1, 2, 3] rfl)
    · rw [if_neg c] at hf
      refine lv_iload_n hx hb dX6_make_10 rfl (lv_at hl 1 rfl) ?_
      refine lv_bipush (v := (8 : Int32)) hx hb dX6_make_11 (by decide) ?_
      refine lv_icmp_ne (tgt := 20) hx hb dX6_make_13 (by decide) (fun c => ?_) (fun c => ?_)
      · rw [if_neg c] at hf
        refine lv_iconst (v := (0 : Int32)) hx hb dX6_make_20 (by decide) ?_
        exact B21 (some t) a1 a2 a3 (0 : Int32) h0 hf _ _ _ hI (lv_sub hl [0, 1, 2, 3] rfl)
      · rw [if_pos c] at hf
        exact B16 (some t) a1 a2 a3 h0 hf _ _ _ hI (lv_sub hl [0, 1, 2, 3] rfl)
/-! ==== X6_lesser: BlitBoardModel.lesser(JJ)J ==== -/
def fX6_lesser (a1 : Int64) (a2 : Int64) (h0 : hm_H) : Option (Int64 × hm_H) :=
  if 0 ≤ (lg_cmp a1 a2) then
    some (a2, h0)
  else
    some (a1, h0)
set_option maxRecDepth 100000 in
set_option maxHeartbeats 8000000 in
theorem kX6_lesser (l : Launch) (D : va_G) (kA : Nat → ClassId) (a1 : Int64) (a2 : Int64) (h0 h' : hm_H) (r : Int64) (hf : fX6_lesser a1 a2 h0 = some (r, h')) : hm_C l yX6_lesser wsX6_lesser { frames := 0, cells := 0, slots := 0, locals := 0 } D vwCl kA (hm_ty kA) [.long a1, .long a2] h0 (some (.long r)) h' 0 0 := by
  refine Met.ofW (cc := cX6_lesser) (maxL := 4) (ret := (some .long)) (by decide) rfl ?_
  intro p e s m args below meth c s₁ B hml hv
  obtain ⟨hargs, hB⟩ := hv
  have hx := B.exec
  have hb := B.bytes
  have hr := B.returns
  have hts := atoms_spec (ws := wsX6_lesser) B.pre
  have hown : s.vm.findClass RX6 = some m.cls := findClass_of_methodNamed B.named
  have hlocks := B.notSynchronized
  have hK := hB.2
  have hI := hm_start hB
  rw [show entryFrame m args 4 = entryFrame m ([.long a1, .long a2] : List Value).toArray 4 from by rw [hargs]]
  have hl := lv_entry ([.long a1, .long a2]) (n := 4) (Nat.le_of_ble_eq_true rfl)
  rw [lg_entry_eq]
  generalize (lg_sl ([.long a1, .long a2]) ++ List.replicate (4 - (lg_sl ([.long a1, .long a2])).length) Slot.unset).toArray = ls at hl ⊢
  have hl : lv_has ls 4 [(0, .long a1), (2, .long a2)] := hl
  unfold fX6_lesser at hf
  refine lv_lload_n hx hb dX6_lesser_0 rfl (lv_at hl 0 rfl) ?_
  refine lv_lload_n hx hb dX6_lesser_1 rfl (lv_at hl 1 rfl) ?_
  refine W.lcmp hx hb dX6_lesser_2 ?_
  refine lv_if_ge (tgt := 10) hx hb dX6_lesser_3 (by decide) (fun c => ?_) (fun c => ?_)
  · rw [if_pos c] at hf
    refine lv_lload_n hx hb dX6_lesser_10 rfl (lv_at hl 1 rfl) ?_
    exact hm_lret_e hf hx hb hr hlocks hK hI (Nat.le_of_ble_eq_true rfl) (Nat.le_of_ble_eq_true rfl) dX6_lesser_11
  · rw [if_neg c] at hf
    refine lv_lload_n hx hb dX6_lesser_6 rfl (lv_at hl 0 rfl) ?_
    refine lv_goto (tgt := 11) hx hb dX6_lesser_7 (by decide) ?_
    exact hm_lret_e hf hx hb hr hlocks hK hI (Nat.le_of_ble_eq_true rfl) (Nat.le_of_ble_eq_true rfl) dX6_lesser_11
/-! ==== X6_clip: BlitBoardModel.clip(IIIII)I ==== -/
def fX6_clip_198 (x0 : Option Nat) (x1 : Int32) (s0 : Int32) (s1 : Int32) (s2 : Option Nat) (h : hm_H) : Option (Int32 × hm_H) :=
  hm_b (hm_si 0 h s2 s1 s0) fun h25 =>
  hm_b (hm_gq 6 4 h25 x0) fun v26 =>
  hm_b (hm_ai 0 h25 v26 (((4 : Int32) * x1) + (2 : Int32))) fun v27 =>
  hm_b (hm_gq 6 4 h25 x0) fun v28 =>
  hm_b (hm_ai 0 h25 v28 (((4 : Int32) * x1) + (3 : Int32))) fun v29 =>
  some (v27 * v29, h25)
def fX6_clip_176 (x0 : Option Nat) (x1 : Int32) (x12 : Int64) (x14 : Int32) (s0 : Int32) (s1 : Int32) (s2 : Option Nat) (h : hm_H) : Option (Int32 × hm_H) :=
  hm_b (hm_si 0 h s2 s1 s0) fun h23 =>
  hm_b (hm_gq 6 4 h23 x0) fun v24 =>
  if x14 = 0 then
    fX6_clip_198 x0 x1 (0 : Int32) (((4 : Int32) * x1) + (3 : Int32)) v24 h23
  else
    fX6_clip_198 x0 x1 ((x12).toInt32) (((4 : Int32) * x1) + (3 : Int32)) v24 h23
def fX6_clip_154 (x0 : Option Nat) (x1 : Int32) (x10 : Int64) (x12 : Int64) (x14 : Int32) (s0 : Int32) (s1 : Int32) (s2 : Option Nat) (h : hm_H) : Option (Int32 × hm_H) :=
  hm_b (hm_si 0 h s2 s1 s0) fun h21 =>
  hm_b (hm_gq 6 4 h21 x0) fun v22 =>
  if x14 = 0 then
    fX6_clip_176 x0 x1 x12 x14 (0 : Int32) (((4 : Int32) * x1) + (2 : Int32)) v22 h21
  else
    fX6_clip_176 x0 x1 x12 x14 ((x10).toInt32) (((4 : Int32) * x1) + (2 : Int32)) v22 h21
def fX6_clip_132 (x0 : Option Nat) (x1 : Int32) (x8 : Int64) (x10 : Int64) (x12 : Int64) (x14 : Int32) (s0 : Int32) (s1 : Int32) (s2 : Option Nat) (h : hm_H) : Option (Int32 × hm_H) :=
  hm_b (hm_si 0 h s2 s1 s0) fun h19 =>
  hm_b (hm_gq 6 4 h19 x0) fun v20 =>
  if x14 = 0 then
    fX6_clip_154 x0 x1 x10 x12 x14 (0 : Int32) (((4 : Int32) * x1) + (1 : Int32)) v20 h19
  else
    fX6_clip_154 x0 x1 x10 x12 x14 ((x8).toInt32) (((4 : Int32) * x1) + (1 : Int32)) v20 h19
def fX6_clip_111 (x0 : Option Nat) (x1 : Int32) (x6 : Int64) (x8 : Int64) (x10 : Int64) (x12 : Int64) (s0 : Int32) (h : hm_H) : Option (Int32 × hm_H) :=
  hm_b (hm_gq 6 4 h x0) fun v18 =>
  if s0 = 0 then
    fX6_clip_132 x0 x1 x8 x10 x12 s0 (0 : Int32) ((4 : Int32) * x1) v18 h
  else
    fX6_clip_132 x0 x1 x8 x10 x12 s0 ((x6).toInt32) ((4 : Int32) * x1) v18 h
def fX6_clip_110 (x0 : Option Nat) (x1 : Int32) (x6 : Int64) (x8 : Int64) (x10 : Int64) (x12 : Int64) (h : hm_H) : Option (Int32 × hm_H) :=
  fX6_clip_111 x0 x1 x6 x8 x10 x12 (0 : Int32) h
def fX6_clip_48 (x0 : Option Nat) (x1 : Int32) (x2 : Int32) (x3 : Int32) (x4 : Int32) (x5 : Int32) (x6 : Int64) (s0 : Int64) (h : hm_H) : Option (Int32 × hm_H) :=
  hm_b (hm_gq 6 2 h x0) fun v8 =>
  hm_b (hm_ai 0 h v8 x1) fun v9 =>
  hm_b2 (fX6_lesser (((x2).toInt64) + ((x4).toInt64)) ((v9).toInt64) h) fun v11 h10 =>
  hm_let (v11 - x6) fun v12 =>
  hm_b (hm_gq 6 3 h10 x0) fun v13 =>
  hm_b (hm_ai 0 h10 v13 x1) fun v14 =>
  hm_b2 (fX6_lesser (((x3).toInt64) + ((x5).toInt64)) ((v14).toInt64) h10) fun v16 h15 =>
  hm_let (v16 - s0) fun v17 =>
  if (lg_cmp v12 (0 : Int64)) ≤ 0 then
    fX6_clip_110 x0 x1 x6 s0 v12 v17 h15
  else
    if (lg_cmp v17 (0 : Int64)) ≤ 0 then
      fX6_clip_110 x0 x1 x6 s0 v12 v17 h15
    else
      fX6_clip_111 x0 x1 x6 s0 v12 v17 (1 : Int32) h15
def fX6_clip_36 (x0 : Option Nat) (x1 : Int32) (x2 : Int32) (x3 : Int32) (x4 : Int32) (x5 : Int32) (s0 : Int64) (h : hm_H) : Option (Int32 × hm_H) :=
  if 0 ≤ x3 then
    fX6_clip_48 x0 x1 x2 x3 x4 x5 s0 ((x3).toInt64) h
  else
    fX6_clip_48 x0 x1 x2 x3 x4 x5 s0 (0 : Int64) h
def fX6_clip (t : Nat) (a1 : Int32) (a2 : Int32) (a3 : Int32) (a4 : Int32) (a5 : Int32) (h0 : hm_H) : Option (Int32 × hm_H) :=
  hm_b (hm_rc 6 h0 (some t)) fun b2 =>
  hm_b2 (fX6_isSurface b2 a1 h0) fun v3 h1 =>
  if v3 = 0 then
    some ((-1 : Int32), h1)
  else
    hm_b2 (fX6_isSpan a4 h1) fun v5 h4 =>
    if v5 = 0 then
      some ((-1 : Int32), h4)
    else
      hm_b2 (fX6_isSpan a5 h4) fun v7 h6 =>
      if v7 = 0 then
        some ((-1 : Int32), h6)
      else
        if 0 ≤ a2 then
          fX6_clip_36 (some t) a1 a2 a3 a4 a5 ((a2).toInt64) h6
        else
          fX6_clip_36 (some t) a1 a2 a3 a4 a5 (0 : Int64) h6
set_option maxRecDepth 100000 in
set_option maxHeartbeats 8000000 in
theorem kX6_clip (l : Launch) (D : va_G) (kA : Nat → ClassId) (t : Nat) (a1 : Int32) (a2 : Int32) (a3 : Int32) (a4 : Int32) (a5 : Int32) (h0 h' : hm_H) (r : Int32) (hf : fX6_clip t a1 a2 a3 a4 a5 h0 = some (r, h')) : hm_C l yX6_clip wsX6_clip { frames := 1, cells := 0, slots := 0, locals := 23 } D vwCl kA (hm_ty kA) [.ref t, .int a1, .int a2, .int a3, .int a4, .int a5] h0 (some (.int r)) h' 0 0 := by
  refine Met.ofW (cc := cX6_clip) (maxL := 15) (ret := (some .int)) (by decide) rfl ?_
  intro p e s m args below meth c s₁ B hml hv
  obtain ⟨hargs, hB⟩ := hv
  have hx := B.exec
  have hb := B.bytes
  have hr := B.returns
  have hts := atoms_spec (ws := wsX6_clip) B.pre
  have hown : s.vm.findClass RX6 = some m.cls := findClass_of_methodNamed B.named
  have hlocks := B.notSynchronized
  have hK := hB.2
  have hI := hm_start hB
  have w1 := hts (.fieldLink RX6 13 "BlitBoardModel" "wides" "[I") (by decide +kernel)
  have w2 := hts (.fieldLink RX6 16 "BlitBoardModel" "highs" "[I") (by decide +kernel)
  have w3 := hts (.fieldLink RX6 19 "BlitBoardModel" "clips" "[I") (by decide +kernel)
  have hiX6 : ∀ w ∈ wsX60, w ∈ wsX6_clip := by decide +kernel
  have B198 : ∀ (x0 : Option Nat) (x1 : Int32) (s0 : Int32) (s1 : Int32) (s2 : Option Nat) (h : hm_H), fX6_clip_198 x0 x1 s0 s1 s2 h = some (r, h') → ∀ (H : Heap) (locs : List Loc) (ls : Array Slot), hm_I D vwCl kA (hm_A h0) s.heap h H locs → lv_has ls 15 [(0, va_rf x0), (1, .int x1)] → W p l e (headSpec wsX6_clip { frames := 1, cells := 0, slots := 0, locals := 23 }).room s m args below meth c H locs 0 0 (MQ below (hm_Q D vwCl kA (hm_ty kA) h0 (some (.int r)) h') args s 0 0 (hm_A h0)) (F0 m 198 ls [.int s0, .int s1, va_rf s2]) := by
    intro x0 x1 s0 s1 s2 h hf H locs ls hI hl
    unfold fX6_clip_198 at hf
    obtain ⟨h25, eh25, hf⟩ := hm_b_s hf
    refine hm_iast (kd := 0) (t0 := 0) hx hb hK hI rfl eh25 dX6_clip_198 (fun H locs hI => ?_)
    refine hm_aload_n hx hb dX6_clip_199 rfl (lv_at hl 0 rfl) ?_
    obtain ⟨v26, ev26, hf⟩ := hm_b_s hf
    refine hm_get (ci := 6) (k := 4) (C := RX6) (T := TX6) (N := 16) hx hb hts hiX6 hown hK hI rfl (by decide) w3 (hm_gq_s ev26) dX6_clip_200 ?_
    refine lv_iconst (v := (4 : Int32)) hx hb dX6_clip_203 (by decide) ?_
    refine lv_iload_n hx hb dX6_clip_204 rfl (lv_at hl 1 rfl) ?_
    refine lv_imul hx hb dX6_clip_205 ?_
    refine lv_iconst (v := (2 : Int32)) hx hb dX6_clip_206 (by decide) ?_
    refine lv_iadd hx hb dX6_clip_207 ?_
    obtain ⟨v27, ev27, hf⟩ := hm_b_s hf
    refine hm_iald (kd := 0) (t0 := 0) hx hb hK hI rfl ev27 dX6_clip_208 ?_
    refine hm_aload_n hx hb dX6_clip_209 rfl (lv_at hl 0 rfl) ?_
    obtain ⟨v28, ev28, hf⟩ := hm_b_s hf
    refine hm_get (ci := 6) (k := 4) (C := RX6) (T := TX6) (N := 16) hx hb hts hiX6 hown hK hI rfl (by decide) w3 (hm_gq_s ev28) dX6_clip_210 ?_
    refine lv_iconst (v := (4 : Int32)) hx hb dX6_clip_213 (by decide) ?_
    refine lv_iload_n hx hb dX6_clip_214 rfl (lv_at hl 1 rfl) ?_
    refine lv_imul hx hb dX6_clip_215 ?_
    refine lv_iconst (v := (3 : Int32)) hx hb dX6_clip_216 (by decide) ?_
    refine lv_iadd hx hb dX6_clip_217 ?_
    obtain ⟨v29, ev29, hf⟩ := hm_b_s hf
    refine hm_iald (kd := 0) (t0 := 0) hx hb hK hI rfl ev29 dX6_clip_218 ?_
    refine lv_imul hx hb dX6_clip_219 ?_
    exact hm_iret_e hf hx hb hr hlocks hK hI (Nat.le_of_ble_eq_true rfl) (Nat.le_of_ble_eq_true rfl) dX6_clip_220
  have B176 : ∀ (x0 : Option Nat) (x1 : Int32) (x12 : Int64) (x14 : Int32) (s0 : Int32) (s1 : Int32) (s2 : Option Nat) (h : hm_H), fX6_clip_176 x0 x1 x12 x14 s0 s1 s2 h = some (r, h') → ∀ (H : Heap) (locs : List Loc) (ls : Array Slot), hm_I D vwCl kA (hm_A h0) s.heap h H locs → lv_has ls 15 [(0, va_rf x0), (1, .int x1), (12, .long x12), (14, .int x14)] → W p l e (headSpec wsX6_clip { frames := 1, cells := 0, slots := 0, locals := 23 }).room s m args below meth c H locs 0 0 (MQ below (hm_Q D vwCl kA (hm_ty kA) h0 (some (.int r)) h') args s 0 0 (hm_A h0)) (F0 m 176 ls [.int s0, .int s1, va_rf s2]) := by
    intro x0 x1 x12 x14 s0 s1 s2 h hf H locs ls hI hl
    unfold fX6_clip_176 at hf
    obtain ⟨h23, eh23, hf⟩ := hm_b_s hf
    refine hm_iast (kd := 0) (t0 := 0) hx hb hK hI rfl eh23 dX6_clip_176 (fun H locs hI => ?_)
    refine hm_aload_n hx hb dX6_clip_177 rfl (lv_at hl 0 rfl) ?_
    obtain ⟨v24, ev24, hf⟩ := hm_b_s hf
    refine hm_get (ci := 6) (k := 4) (C := RX6) (T := TX6) (N := 16) hx hb hts hiX6 hown hK hI rfl (by decide) w3 (hm_gq_s ev24) dX6_clip_178 ?_
    refine lv_iconst (v := (4 : Int32)) hx hb dX6_clip_181 (by decide) ?_
    refine lv_iload_n hx hb dX6_clip_182 rfl (lv_at hl 1 rfl) ?_
    refine lv_imul hx hb dX6_clip_183 ?_
    refine lv_iconst (v := (3 : Int32)) hx hb dX6_clip_184 (by decide) ?_
    refine lv_iadd hx hb dX6_clip_185 ?_
    refine lv_iload hx hb dX6_clip_186 (lv_at hl 3 rfl) ?_
    refine lv_if_eq (tgt := 197) hx hb dX6_clip_188 (by decide) (fun c => ?_) (fun c => ?_)
    · rw [if_pos c] at hf
      refine lv_iconst (v := (0 : Int32)) hx hb dX6_clip_197 (by decide) ?_
      exact B198 x0 x1 (0 : Int32) (((4 : Int32) * x1) + (3 : Int32)) v24 h23 hf _ _ _ hI (lv_sub hl [0, 1] rfl)
    · rw [if_neg c] at hf
      refine lv_lload hx hb dX6_clip_191 (lv_at hl 2 rfl) ?_
      refine lv_l2i (v := (x12).toInt32) hx hb dX6_clip_193 rfl ?_
      refine lv_goto (tgt := 198) hx hb dX6_clip_194 (by decide) ?_
      exact B198 x0 x1 ((x12).toInt32) (((4 : Int32) * x1) + (3 : Int32)) v24 h23 hf _ _ _ hI (lv_sub hl [0, 1] rfl)
  have B154 : ∀ (x0 : Option Nat) (x1 : Int32) (x10 : Int64) (x12 : Int64) (x14 : Int32) (s0 : Int32) (s1 : Int32) (s2 : Option Nat) (h : hm_H), fX6_clip_154 x0 x1 x10 x12 x14 s0 s1 s2 h = some (r, h') → ∀ (H : Heap) (locs : List Loc) (ls : Array Slot), hm_I D vwCl kA (hm_A h0) s.heap h H locs → lv_has ls 15 [(0, va_rf x0), (1, .int x1), (10, .long x10), (12, .long x12), (14, .int x14)] → W p l e (headSpec wsX6_clip { frames := 1, cells := 0, slots := 0, locals := 23 }).room s m args below meth c H locs 0 0 (MQ below (hm_Q D vwCl kA (hm_ty kA) h0 (some (.int r)) h') args s 0 0 (hm_A h0)) (F0 m 154 ls [.int s0, .int s1, va_rf s2]) := by
    intro x0 x1 x10 x12 x14 s0 s1 s2 h hf H locs ls hI hl
    unfold fX6_clip_154 at hf
    obtain ⟨h21, eh21, hf⟩ := hm_b_s hf
    refine hm_iast (kd := 0) (t0 := 0) hx hb hK hI rfl eh21 dX6_clip_154 (fun H locs hI => ?_)
    refine hm_aload_n hx hb dX6_clip_155 rfl (lv_at hl 0 rfl) ?_
    obtain ⟨v22, ev22, hf⟩ := hm_b_s hf
    refine hm_get (ci := 6) (k := 4) (C := RX6) (T := TX6) (N := 16) hx hb hts hiX6 hown hK hI rfl (by decide) w3 (hm_gq_s ev22) dX6_clip_156 ?_
    refine lv_iconst (v := (4 : Int32)) hx hb dX6_clip_159 (by decide) ?_
    refine lv_iload_n hx hb dX6_clip_160 rfl (lv_at hl 1 rfl) ?_
    refine lv_imul hx hb dX6_clip_161 ?_
    refine lv_iconst (v := (2 : Int32)) hx hb dX6_clip_162 (by decide) ?_
    refine lv_iadd hx hb dX6_clip_163 ?_
    refine lv_iload hx hb dX6_clip_164 (lv_at hl 4 rfl) ?_
    refine lv_if_eq (tgt := 175) hx hb dX6_clip_166 (by decide) (fun c => ?_) (fun c => ?_)
    · rw [if_pos c] at hf
      refine lv_iconst (v := (0 : Int32)) hx hb dX6_clip_175 (by decide) ?_
      exact B176 x0 x1 x12 x14 (0 : Int32) (((4 : Int32) * x1) + (2 : Int32)) v22 h21 hf _ _ _ hI (lv_sub hl [0, 1, 3, 4] rfl)
    · rw [if_neg c] at hf
      refine lv_lload hx hb dX6_clip_169 (lv_at hl 2 rfl) ?_
      refine lv_l2i (v := (x10).toInt32) hx hb dX6_clip_171 rfl ?_
      refine lv_goto (tgt := 176) hx hb dX6_clip_172 (by decide) ?_
      exact B176 x0 x1 x12 x14 ((x10).toInt32) (((4 : Int32) * x1) + (2 : Int32)) v22 h21 hf _ _ _ hI (lv_sub hl [0, 1, 3, 4] rfl)
  have B132 : ∀ (x0 : Option Nat) (x1 : Int32) (x8 : Int64) (x10 : Int64) (x12 : Int64) (x14 : Int32) (s0 : Int32) (s1 : Int32) (s2 : Option Nat) (h : hm_H), fX6_clip_132 x0 x1 x8 x10 x12 x14 s0 s1 s2 h = some (r, h') → ∀ (H : Heap) (locs : List Loc) (ls : Array Slot), hm_I D vwCl kA (hm_A h0) s.heap h H locs → lv_has ls 15 [(0, va_rf x0), (1, .int x1), (8, .long x8), (10, .long x10), (12, .long x12), (14, .int x14)] → W p l e (headSpec wsX6_clip { frames := 1, cells := 0, slots := 0, locals := 23 }).room s m args below meth c H locs 0 0 (MQ below (hm_Q D vwCl kA (hm_ty kA) h0 (some (.int r)) h') args s 0 0 (hm_A h0)) (F0 m 132 ls [.int s0, .int s1, va_rf s2]) := by
    intro x0 x1 x8 x10 x12 x14 s0 s1 s2 h hf H locs ls hI hl
    unfold fX6_clip_132 at hf
    obtain ⟨h19, eh19, hf⟩ := hm_b_s hf
    refine hm_iast (kd := 0) (t0 := 0) hx hb hK hI rfl eh19 dX6_clip_132 (fun H locs hI => ?_)
    refine hm_aload_n hx hb dX6_clip_133 rfl (lv_at hl 0 rfl) ?_
    obtain ⟨v20, ev20, hf⟩ := hm_b_s hf
    refine hm_get (ci := 6) (k := 4) (C := RX6) (T := TX6) (N := 16) hx hb hts hiX6 hown hK hI rfl (by decide) w3 (hm_gq_s ev20) dX6_clip_134 ?_
    refine lv_iconst (v := (4 : Int32)) hx hb dX6_clip_137 (by decide) ?_
    refine lv_iload_n hx hb dX6_clip_138 rfl (lv_at hl 1 rfl) ?_
    refine lv_imul hx hb dX6_clip_139 ?_
    refine lv_iconst (v := (1 : Int32)) hx hb dX6_clip_140 (by decide) ?_
    refine lv_iadd hx hb dX6_clip_141 ?_
    refine lv_iload hx hb dX6_clip_142 (lv_at hl 5 rfl) ?_
    refine lv_if_eq (tgt := 153) hx hb dX6_clip_144 (by decide) (fun c => ?_) (fun c => ?_)
    · rw [if_pos c] at hf
      refine lv_iconst (v := (0 : Int32)) hx hb dX6_clip_153 (by decide) ?_
      exact B154 x0 x1 x10 x12 x14 (0 : Int32) (((4 : Int32) * x1) + (1 : Int32)) v20 h19 hf _ _ _ hI (lv_sub hl [0, 1, 3, 4, 5] rfl)
    · rw [if_neg c] at hf
      refine lv_lload hx hb dX6_clip_147 (lv_at hl 2 rfl) ?_
      refine lv_l2i (v := (x8).toInt32) hx hb dX6_clip_149 rfl ?_
      refine lv_goto (tgt := 154) hx hb dX6_clip_150 (by decide) ?_
      exact B154 x0 x1 x10 x12 x14 ((x8).toInt32) (((4 : Int32) * x1) + (1 : Int32)) v20 h19 hf _ _ _ hI (lv_sub hl [0, 1, 3, 4, 5] rfl)
  have B111 : ∀ (x0 : Option Nat) (x1 : Int32) (x6 : Int64) (x8 : Int64) (x10 : Int64) (x12 : Int64) (s0 : Int32) (h : hm_H), fX6_clip_111 x0 x1 x6 x8 x10 x12 s0 h = some (r, h') → ∀ (H : Heap) (locs : List Loc) (ls : Array Slot), hm_I D vwCl kA (hm_A h0) s.heap h H locs → lv_has ls 15 [(0, va_rf x0), (1, .int x1), (6, .long x6), (8, .long x8), (10, .long x10), (12, .long x12)] → W p l e (headSpec wsX6_clip { frames := 1, cells := 0, slots := 0, locals := 23 }).room s m args below meth c H locs 0 0 (MQ below (hm_Q D vwCl kA (hm_ty kA) h0 (some (.int r)) h') args s 0 0 (hm_A h0)) (F0 m 111 ls [.int s0]) := by
    intro x0 x1 x6 x8 x10 x12 s0 h hf H locs ls hI hl
    unfold fX6_clip_111 at hf
    refine lv_istore (lv' := [(14, .int s0), (0, va_rf x0), (1, .int x1), (6, .long x6), (8, .long x8), (10, .long x10), (12, .long x12)]) hx hb dX6_clip_111 hl (by decide) rfl (fun ls hl => ?_)
    refine hm_aload_n hx hb dX6_clip_113 rfl (lv_at hl 1 rfl) ?_
    obtain ⟨v18, ev18, hf⟩ := hm_b_s hf
    refine hm_get (ci := 6) (k := 4) (C := RX6) (T := TX6) (N := 16) hx hb hts hiX6 hown hK hI rfl (by decide) w3 (hm_gq_s ev18) dX6_clip_114 ?_
    refine lv_iconst (v := (4 : Int32)) hx hb dX6_clip_117 (by decide) ?_
    refine lv_iload_n hx hb dX6_clip_118 rfl (lv_at hl 2 rfl) ?_
    refine lv_imul hx hb dX6_clip_119 ?_
    refine lv_iload hx hb dX6_clip_120 (lv_at hl 0 rfl) ?_
    refine lv_if_eq (tgt := 131) hx hb dX6_clip_122 (by decide) (fun c => ?_) (fun c => ?_)
    · rw [if_pos c] at hf
      refine lv_iconst (v := (0 : Int32)) hx hb dX6_clip_131 (by decide) ?_
      exact B132 x0 x1 x8 x10 x12 s0 (0 : Int32) ((4 : Int32) * x1) v18 h hf _ _ _ hI (lv_sub hl [1, 2, 4, 5, 6, 0] rfl)
    · rw [if_neg c] at hf
      refine lv_lload hx hb dX6_clip_125 (lv_at hl 3 rfl) ?_
      refine lv_l2i (v := (x6).toInt32) hx hb dX6_clip_127 rfl ?_
      refine lv_goto (tgt := 132) hx hb dX6_clip_128 (by decide) ?_
      exact B132 x0 x1 x8 x10 x12 s0 ((x6).toInt32) ((4 : Int32) * x1) v18 h hf _ _ _ hI (lv_sub hl [1, 2, 4, 5, 6, 0] rfl)
  have B110 : ∀ (x0 : Option Nat) (x1 : Int32) (x6 : Int64) (x8 : Int64) (x10 : Int64) (x12 : Int64) (h : hm_H), fX6_clip_110 x0 x1 x6 x8 x10 x12 h = some (r, h') → ∀ (H : Heap) (locs : List Loc) (ls : Array Slot), hm_I D vwCl kA (hm_A h0) s.heap h H locs → lv_has ls 15 [(0, va_rf x0), (1, .int x1), (6, .long x6), (8, .long x8), (10, .long x10), (12, .long x12)] → W p l e (headSpec wsX6_clip { frames := 1, cells := 0, slots := 0, locals := 23 }).room s m args below meth c H locs 0 0 (MQ below (hm_Q D vwCl kA (hm_ty kA) h0 (some (.int r)) h') args s 0 0 (hm_A h0)) (F0 m 110 ls []) := by
    intro x0 x1 x6 x8 x10 x12 h hf H locs ls hI hl
    unfold fX6_clip_110 at hf
    refine lv_iconst (v := (0 : Int32)) hx hb dX6_clip_110 (by decide) ?_
    exact B111 x0 x1 x6 x8 x10 x12 (0 : Int32) h hf _ _ _ hI (lv_sub hl [0, 1, 2, 3, 4, 5] rfl)
  have B48 : ∀ (x0 : Option Nat) (x1 : Int32) (x2 : Int32) (x3 : Int32) (x4 : Int32) (x5 : Int32) (x6 : Int64) (s0 : Int64) (h : hm_H), fX6_clip_48 x0 x1 x2 x3 x4 x5 x6 s0 h = some (r, h') → ∀ (H : Heap) (locs : List Loc) (ls : Array Slot), hm_I D vwCl kA (hm_A h0) s.heap h H locs → lv_has ls 15 [(0, va_rf x0), (1, .int x1), (2, .int x2), (3, .int x3), (4, .int x4), (5, .int x5), (6, .long x6)] → W p l e (headSpec wsX6_clip { frames := 1, cells := 0, slots := 0, locals := 23 }).room s m args below meth c H locs 0 0 (MQ below (hm_Q D vwCl kA (hm_ty kA) h0 (some (.int r)) h') args s 0 0 (hm_A h0)) (F0 m 48 ls [.long s0]) := by
    intro x0 x1 x2 x3 x4 x5 x6 s0 h hf H locs ls hI hl
    unfold fX6_clip_48 at hf
    refine lv_lstore (lv' := [(8, .long s0), (0, va_rf x0), (1, .int x1), (2, .int x2), (3, .int x3), (4, .int x4), (5, .int x5), (6, .long x6)]) hx hb dX6_clip_48 hl (by decide) rfl (fun ls hl => ?_)
    refine lv_iload_n hx hb dX6_clip_50 rfl (lv_at hl 3 rfl) ?_
    refine lv_i2l (v := (x2).toInt64) hx hb dX6_clip_51 rfl ?_
    refine lv_iload hx hb dX6_clip_52 (lv_at hl 5 rfl) ?_
    refine lv_i2l (v := (x4).toInt64) hx hb dX6_clip_54 rfl ?_
    refine lv_ladd hx hb dX6_clip_55 ?_
    refine hm_aload_n hx hb dX6_clip_56 rfl (lv_at hl 1 rfl) ?_
    obtain ⟨v8, ev8, hf⟩ := hm_b_s hf
    refine hm_get (ci := 6) (k := 2) (C := RX6) (T := TX6) (N := 16) hx hb hts hiX6 hown hK hI rfl (by decide) w1 (hm_gq_s ev8) dX6_clip_57 ?_
    refine lv_iload_n hx hb dX6_clip_60 rfl (lv_at hl 2 rfl) ?_
    obtain ⟨v9, ev9, hf⟩ := hm_b_s hf
    refine hm_iald (kd := 0) (t0 := 0) hx hb hK hI rfl ev9 dX6_clip_61 ?_
    refine lv_i2l (v := (v9).toInt64) hx hb dX6_clip_62 rfl ?_
    obtain ⟨v11, h10, eh10, hf⟩ := hm_b2_s hf
    refine hm_cS (As := [.long (((x2).toInt64) + ((x4).toInt64)), .long ((v9).toInt64)]) (rest := []) ⟨hx, hb, hml, hown, hts⟩ hK hI (kX6_lesser l D kA (((x2).toInt64) + ((x4).toInt64)) ((v9).toInt64) h h10 v11 eh10) (va_cwS 2 hts gX6_clip_X6_lesser rfl rfl rfl (by decide +kernel) ⟨Nat.le_of_ble_eq_true rfl, Nat.le_of_ble_eq_true rfl⟩) rfl hl.1 rfl (by first | exact Nat.le_of_ble_eq_true rfl | (simp only [List.map, hm_rf_cat, hm_ci, hm_cl, List.sum_cons, List.sum_nil] <;> decide)) dX6_clip_63 ⟨Nat.le_of_ble_eq_true rfl, Nat.le_of_ble_eq_true rfl⟩ (fun H locs hI => ?_)
    refine lv_lload hx hb dX6_clip_66 (lv_at hl 7 rfl) ?_
    refine lv_lsub hx hb dX6_clip_68 ?_
    obtain ⟨v12, ev12, hf⟩ := hm_let_s hf
    refine hm_tj ev12 ?_
    refine lv_lstore (lv' := [(10, .long v12), (8, .long s0), (0, va_rf x0), (1, .int x1), (2, .int x2), (3, .int x3), (4, .int x4), (5, .int x5), (6, .long x6)]) hx hb dX6_clip_69 hl (by decide) rfl (fun ls hl => ?_)
    refine lv_iload_n hx hb dX6_clip_71 rfl (lv_at hl 5 rfl) ?_
    refine lv_i2l (v := (x3).toInt64) hx hb dX6_clip_72 rfl ?_
    refine lv_iload hx hb dX6_clip_73 (lv_at hl 7 rfl) ?_
    refine lv_i2l (v := (x5).toInt64) hx hb dX6_clip_75 rfl ?_
    refine lv_ladd hx hb dX6_clip_76 ?_
    refine hm_aload_n hx hb dX6_clip_77 rfl (lv_at hl 2 rfl) ?_
    obtain ⟨v13, ev13, hf⟩ := hm_b_s hf
    refine hm_get (ci := 6) (k := 3) (C := RX6) (T := TX6) (N := 16) hx hb hts hiX6 hown hK hI rfl (by decide) w2 (hm_gq_s ev13) dX6_clip_78 ?_
    refine lv_iload_n hx hb dX6_clip_81 rfl (lv_at hl 3 rfl) ?_
    obtain ⟨v14, ev14, hf⟩ := hm_b_s hf
    refine hm_iald (kd := 0) (t0 := 0) hx hb hK hI rfl ev14 dX6_clip_82 ?_
    refine lv_i2l (v := (v14).toInt64) hx hb dX6_clip_83 rfl ?_
    obtain ⟨v16, h15, eh15, hf⟩ := hm_b2_s hf
    refine hm_cS (As := [.long (((x3).toInt64) + ((x5).toInt64)), .long ((v14).toInt64)]) (rest := []) ⟨hx, hb, hml, hown, hts⟩ hK hI (kX6_lesser l D kA (((x3).toInt64) + ((x5).toInt64)) ((v14).toInt64) h10 h15 v16 eh15) (va_cwS 2 hts gX6_clip_X6_lesser rfl rfl rfl (by decide +kernel) ⟨Nat.le_of_ble_eq_true rfl, Nat.le_of_ble_eq_true rfl⟩) rfl hl.1 rfl (by first | exact Nat.le_of_ble_eq_true rfl | (simp only [List.map, hm_rf_cat, hm_ci, hm_cl, List.sum_cons, List.sum_nil] <;> decide)) dX6_clip_84 ⟨Nat.le_of_ble_eq_true rfl, Nat.le_of_ble_eq_true rfl⟩ (fun H locs hI => ?_)
    refine lv_lload hx hb dX6_clip_87 (lv_at hl 1 rfl) ?_
    refine lv_lsub hx hb dX6_clip_89 ?_
    obtain ⟨v17, ev17, hf⟩ := hm_let_s hf
    refine hm_tj ev17 ?_
    refine lv_lstore (lv' := [(12, .long v17), (10, .long v12), (8, .long s0), (0, va_rf x0), (1, .int x1), (2, .int x2), (3, .int x3), (4, .int x4), (5, .int x5), (6, .long x6)]) hx hb dX6_clip_90 hl (by decide) rfl (fun ls hl => ?_)
    refine lv_lload hx hb dX6_clip_92 (lv_at hl 1 rfl) ?_
    refine lv_lconst (v := (0 : Int64)) hx hb dX6_clip_94 (by decide) ?_
    refine W.lcmp hx hb dX6_clip_95 ?_
    refine lv_if_le (tgt := 110) hx hb dX6_clip_96 (by decide) (fun c => ?_) (fun c => ?_)
    · rw [if_pos c] at hf
      exact B110 x0 x1 x6 s0 v12 v17 h15 hf _ _ _ hI (lv_sub hl [3, 4, 9, 2, 1, 0] rfl)
    · rw [if_neg c] at hf
      refine lv_lload hx hb dX6_clip_99 (lv_at hl 0 rfl) ?_
      refine lv_lconst (v := (0 : Int64)) hx hb dX6_clip_101 (by decide) ?_
      refine W.lcmp hx hb dX6_clip_102 ?_
      refine lv_if_le (tgt := 110) hx hb dX6_clip_103 (by decide) (fun c => ?_) (fun c => ?_)
      · rw [if_pos c] at hf
        exact B110 x0 x1 x6 s0 v12 v17 h15 hf _ _ _ hI (lv_sub hl [3, 4, 9, 2, 1, 0] rfl)
      · rw [if_neg c] at hf
        refine lv_iconst (v := (1 : Int32)) hx hb dX6_clip_106 (by decide) ?_
        refine lv_goto (tgt := 111) hx hb dX6_clip_107 (by decide) ?_
        exact B111 x0 x1 x6 s0 v12 v17 (1 : Int32) h15 hf _ _ _ hI (lv_sub hl [3, 4, 9, 2, 1, 0] rfl)
  have B36 : ∀ (x0 : Option Nat) (x1 : Int32) (x2 : Int32) (x3 : Int32) (x4 : Int32) (x5 : Int32) (s0 : Int64) (h : hm_H), fX6_clip_36 x0 x1 x2 x3 x4 x5 s0 h = some (r, h') → ∀ (H : Heap) (locs : List Loc) (ls : Array Slot), hm_I D vwCl kA (hm_A h0) s.heap h H locs → lv_has ls 15 [(0, va_rf x0), (1, .int x1), (2, .int x2), (3, .int x3), (4, .int x4), (5, .int x5)] → W p l e (headSpec wsX6_clip { frames := 1, cells := 0, slots := 0, locals := 23 }).room s m args below meth c H locs 0 0 (MQ below (hm_Q D vwCl kA (hm_ty kA) h0 (some (.int r)) h') args s 0 0 (hm_A h0)) (F0 m 36 ls [.long s0]) := by
    intro x0 x1 x2 x3 x4 x5 s0 h hf H locs ls hI hl
    unfold fX6_clip_36 at hf
    refine lv_lstore (lv' := [(6, .long s0), (0, va_rf x0), (1, .int x1), (2, .int x2), (3, .int x3), (4, .int x4), (5, .int x5)]) hx hb dX6_clip_36 hl (by decide) rfl (fun ls hl => ?_)
    refine lv_iload_n hx hb dX6_clip_38 rfl (lv_at hl 4 rfl) ?_
    refine lv_if_ge (tgt := 46) hx hb dX6_clip_39 (by decide) (fun c => ?_) (fun c => ?_)
    · rw [if_pos c] at hf
      refine lv_iload_n hx hb dX6_clip_46 rfl (lv_at hl 4 rfl) ?_
      refine lv_i2l (v := (x3).toInt64) hx hb dX6_clip_47 rfl ?_
      exact B48 x0 x1 x2 x3 x4 x5 s0 ((x3).toInt64) h hf _ _ _ hI (lv_sub hl [1, 2, 3, 4, 5, 6, 0] rfl)
    · rw [if_neg c] at hf
      refine lv_lconst (v := (0 : Int64)) hx hb dX6_clip_42 (by decide) ?_
      refine lv_goto (tgt := 48) hx hb dX6_clip_43 (by decide) ?_
      exact B48 x0 x1 x2 x3 x4 x5 s0 (0 : Int64) h hf _ _ _ hI (lv_sub hl [1, 2, 3, 4, 5, 6, 0] rfl)
  rw [show entryFrame m args 15 = entryFrame m ([.ref t, .int a1, .int a2, .int a3, .int a4, .int a5] : List Value).toArray 15 from by rw [hargs]]
  have hl := lv_entry ([.ref t, .int a1, .int a2, .int a3, .int a4, .int a5]) (n := 15) (Nat.le_of_ble_eq_true rfl)
  rw [lg_entry_eq]
  generalize (lg_sl ([.ref t, .int a1, .int a2, .int a3, .int a4, .int a5]) ++ List.replicate (15 - (lg_sl ([.ref t, .int a1, .int a2, .int a3, .int a4, .int a5])).length) Slot.unset).toArray = ls at hl ⊢
  have hl : lv_has ls 15 [(0, va_rf (some t)), (1, .int a1), (2, .int a2), (3, .int a3), (4, .int a4), (5, .int a5)] := hl
  unfold fX6_clip at hf
  refine hm_aload_n hx hb dX6_clip_0 rfl (lv_at hl 0 rfl) ?_
  refine lv_iload_n hx hb dX6_clip_1 rfl (lv_at hl 1 rfl) ?_
  obtain ⟨b2, eb2, hf⟩ := hm_b_s hf
  obtain ⟨v3, h1, eh1, hf⟩ := hm_b2_s hf
  refine hm_cV (As := [.int a1]) (rest := []) ⟨hx, hb, hml, hown, hts⟩ hK hI eb2 rfl rfl (kX6_isSurface l D kA b2 a1 h0 h1 v3 eh1) (cwV 1 hts gX6_clip_X6_isSurface rfl rfl rfl (by decide +kernel) ⟨Nat.le_of_ble_eq_true rfl, Nat.le_of_ble_eq_true rfl⟩) rfl hl.1 rfl (by first | exact Nat.le_of_ble_eq_true rfl | (simp only [List.map, hm_rf_cat, hm_ci, hm_cl, List.sum_cons, List.sum_nil] <;> decide)) dX6_clip_2 ⟨Nat.le_of_ble_eq_true rfl, Nat.le_of_ble_eq_true rfl⟩ (fun H locs hI => ?_)
  refine lv_if_eq (tgt := 24) hx hb dX6_clip_5 (by decide) (fun c => ?_) (fun c => ?_)
  · rw [if_pos c] at hf
    refine lv_iconst (v := (-1 : Int32)) hx hb dX6_clip_24 (by decide) ?_
    exact hm_iret_e hf hx hb hr hlocks hK hI (Nat.le_of_ble_eq_true rfl) (Nat.le_of_ble_eq_true rfl) dX6_clip_25
  · rw [if_neg c] at hf
    refine lv_iload hx hb dX6_clip_8 (lv_at hl 4 rfl) ?_
    obtain ⟨v5, h4, eh4, hf⟩ := hm_b2_s hf
    refine hm_cS (As := [.int a4]) (rest := []) ⟨hx, hb, hml, hown, hts⟩ hK hI (kX6_isSpan l D kA a4 h1 h4 v5 eh4) (va_cwS 1 hts gX6_clip_X6_isSpan rfl rfl rfl (by decide +kernel) ⟨Nat.le_of_ble_eq_true rfl, Nat.le_of_ble_eq_true rfl⟩) rfl hl.1 rfl (by first | exact Nat.le_of_ble_eq_true rfl | (simp only [List.map, hm_rf_cat, hm_ci, hm_cl, List.sum_cons, List.sum_nil] <;> decide)) dX6_clip_10 ⟨Nat.le_of_ble_eq_true rfl, Nat.le_of_ble_eq_true rfl⟩ (fun H locs hI => ?_)
    refine lv_if_eq (tgt := 24) hx hb dX6_clip_13 (by decide) (fun c => ?_) (fun c => ?_)
    · rw [if_pos c] at hf
      refine lv_iconst (v := (-1 : Int32)) hx hb dX6_clip_24 (by decide) ?_
      exact hm_iret_e hf hx hb hr hlocks hK hI (Nat.le_of_ble_eq_true rfl) (Nat.le_of_ble_eq_true rfl) dX6_clip_25
    · rw [if_neg c] at hf
      refine lv_iload hx hb dX6_clip_16 (lv_at hl 5 rfl) ?_
      obtain ⟨v7, h6, eh6, hf⟩ := hm_b2_s hf
      refine hm_cS (As := [.int a5]) (rest := []) ⟨hx, hb, hml, hown, hts⟩ hK hI (kX6_isSpan l D kA a5 h4 h6 v7 eh6) (va_cwS 1 hts gX6_clip_X6_isSpan rfl rfl rfl (by decide +kernel) ⟨Nat.le_of_ble_eq_true rfl, Nat.le_of_ble_eq_true rfl⟩) rfl hl.1 rfl (by first | exact Nat.le_of_ble_eq_true rfl | (simp only [List.map, hm_rf_cat, hm_ci, hm_cl, List.sum_cons, List.sum_nil] <;> decide)) dX6_clip_18 ⟨Nat.le_of_ble_eq_true rfl, Nat.le_of_ble_eq_true rfl⟩ (fun H locs hI => ?_)
      refine lv_if_ne (tgt := 26) hx hb dX6_clip_21 (by decide) (fun c => ?_) (fun c => ?_)
      · rw [if_neg c] at hf
        refine lv_iload_n hx hb dX6_clip_26 rfl (lv_at hl 2 rfl) ?_
        refine lv_if_ge (tgt := 34) hx hb dX6_clip_27 (by decide) (fun c => ?_) (fun c => ?_)
        · rw [if_pos c] at hf
          refine lv_iload_n hx hb dX6_clip_34 rfl (lv_at hl 2 rfl) ?_
          refine lv_i2l (v := (a2).toInt64) hx hb dX6_clip_35 rfl ?_
          exact B36 (some t) a1 a2 a3 a4 a5 ((a2).toInt64) h6 hf _ _ _ hI (lv_sub hl [0, 1, 2, 3, 4, 5] rfl)
        · rw [if_neg c] at hf
          refine lv_lconst (v := (0 : Int64)) hx hb dX6_clip_30 (by decide) ?_
          refine lv_goto (tgt := 36) hx hb dX6_clip_31 (by decide) ?_
          exact B36 (some t) a1 a2 a3 a4 a5 (0 : Int64) h6 hf _ _ _ hI (lv_sub hl [0, 1, 2, 3, 4, 5] rfl)
      · rw [if_pos c] at hf
        refine lv_iconst (v := (-1 : Int32)) hx hb dX6_clip_24 (by decide) ?_
        exact hm_iret_e hf hx hb hr hlocks hK hI (Nat.le_of_ble_eq_true rfl) (Nat.le_of_ble_eq_true rfl) dX6_clip_25
