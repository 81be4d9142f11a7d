/-! ==== X6_tell: BlitBoardModel.tell(III)I ==== -/
def fX6_tell_76 (K76 : Option Nat → Int32 → Int32 → hm_H → Option (Int32 × hm_H)) (x0 : Option Nat) (x1 : Int32) (x4 : Int32) (h : hm_H) : Option (Int32 × hm_H) :=
  hm_b (hm_gi 6 11 h x0) fun v16 =>
  if v16 ≤ x4 then
    hm_b (hm_gi 6 11 h x0) fun v17 =>
    some (v17, h)
  else
    hm_b (hm_gq 6 9 h x0) fun v18 =>
    hm_b (hm_gq 6 10 h x0) fun v19 =>
    hm_b (hm_ai 0 h v19 x4) fun v20 =>
    hm_b (hm_si 0 h v18 (((5000 : Int32) * x1) + x4) v20) fun h21 =>
    K76 x0 x1 (x4 + (1 : Int32)) h21
def fX6_tell_26 (K26 : Option Nat → Int32 → Int32 → Int32 → Int32 → hm_H → Option (Int32 × hm_H)) (x0 : Option Nat) (x1 : Int32) (x2 : Int32) (x3 : Int32) (x4 : Int32) (h : hm_H) : Option (Int32 × hm_H) :=
  hm_b (hm_gq 6 3 h x0) fun v8 =>
  hm_b (hm_ai 0 h v8 x2) fun v9 =>
  if v9 ≤ x4 then
    hm_b (hm_gi 6 11 h x0) fun v10 =>
    if v10 ≤ (5000 : Int32) then
      hm_b (hm_gq 6 8 h x0) fun v11 =>
      hm_b (hm_gi 6 11 h x0) fun v12 =>
      hm_b (hm_si 0 h v11 x1 v12) fun h13 =>
      hm_loop (fun _ _ _ _ => none) (fX6_tell_76) hm_fu x0 x1 (0 : Int32) h13
    else
      some ((-1 : Int32), h)
  else
    hm_b (hm_rc 6 h x0) fun b15 =>
    hm_b (fX6_tellRow b15 x2 x3 x4 h) fun h14 =>
    K26 x0 x1 x2 x3 (x4 + (1 : Int32)) h14
def fX6_tell (t : Nat) (a1 : Int32) (a2 : Int32) (a3 : Int32) (h0 : hm_H) : Option (Int32 × hm_H) :=
  hm_b (hm_rc 6 h0 (some t)) fun b2 =>
  hm_b2 (fX6_isSprite b2 a1 h0) fun v3 h1 =>
  if v3 = 0 then
    some ((-1 : Int32), h1)
  else
    hm_b (hm_rc 6 h1 (some t)) fun b5 =>
    hm_b2 (fX6_isSurface b5 a2 h1) fun v6 h4 =>
    if v6 = 0 then
      some ((-1 : Int32), h4)
    else
      hm_b (hm_p 6 11 (.int (0 : Int32)) h4 (some t)) fun h7 =>
      hm_loop (fun _ _ _ _ _ _ => none) (fX6_tell_26) hm_fu (some t) a1 a2 a3 (0 : Int32) h7
set_option maxRecDepth 100000 in
set_option maxHeartbeats 8000000 in
theorem kX6_tell (l : Launch) (D : va_G) (kA : Nat → ClassId) (t : Nat) (a1 : Int32) (a2 : Int32) (a3 : Int32) (h0 h' : hm_H) (r : Int32) (hf : fX6_tell t a1 a2 a3 h0 = some (r, h')) : hm_C l yX6_tell wsX6_tell { frames := 5, cells := 0, slots := 0, locals := 131 } D vwCl kA (hm_ty kA) [.ref t, .int a1, .int a2, .int a3] h0 (some (.int r)) h' 0 0 := by
  refine Met.ofW (cc := cX6_tell) (maxL := 5) (ret := (some .int)) (by decide) rfl ?_
  intro p e s m args below meth c s₁ B hml hv
  obtain ⟨hargs, hB⟩ := hv
  have hx := B.exec
  have hb := B.bytes
  have hr := B.returns
  have hts := atoms_spec (ws := wsX6_tell) B.pre
  have hown : s.vm.findClass RX6 = some m.cls := findClass_of_methodNamed B.named
  have hlocks := B.notSynchronized
  have hK := hB.2
  have hI := hm_start hB
  have w1 := hts (.fieldLink RX6 97 "BlitBoardModel" "madeSize" "I") (by decide +kernel)
  have w2 := hts (.fieldLink RX6 16 "BlitBoardModel" "highs" "[I") (by decide +kernel)
  have w3 := hts (.fieldLink RX6 33 "BlitBoardModel" "sizes" "[I") (by decide +kernel)
  have w4 := hts (.fieldLink RX6 36 "BlitBoardModel" "bytes" "[I") (by decide +kernel)
  have w5 := hts (.fieldLink RX6 39 "BlitBoardModel" "made" "[I") (by decide +kernel)
  have hiX6 : ∀ w ∈ wsX60, w ∈ wsX6_tell := by decide +kernel
  have B76 : ∀ (fu : Nat) (x0 : Option Nat) (x1 : Int32) (x4 : Int32) (h : hm_H), hm_loop (fun _ _ _ _ => none) (fX6_tell_76) fu x0 x1 x4 h = some (r, h') → ∀ (H : Heap) (locs : List Loc) (ls : Array Slot), hm_I D vwCl kA (hm_A h0) s.heap h H locs → lv_has ls 5 [(0, va_rf x0), (1, .int x1), (4, .int x4)] → W p l e (headSpec wsX6_tell { frames := 5, cells := 0, slots := 0, locals := 131 }).room s m args below meth c H locs 0 0 (MQ below (hm_Q D vwCl kA (hm_ty kA) h0 (some (.int r)) h') args s 0 0 (hm_A h0)) (F0 m 76 ls []) := by
    intro fu
    induction fu with
    | zero => intro x0 x1 x4 h hf; cases hf
    | succ fu ih76 =>
      rw [hm_loop_s]
      generalize hm_loop (fun _ _ _ _ => none) (fX6_tell_76) fu = K76 at ih76 ⊢
      intro x0 x1 x4 h hf H locs ls hI hl
      unfold fX6_tell_76 at hf
      refine lv_iload hx hb dX6_tell_76 (lv_at hl 2 rfl) ?_
      refine hm_aload_n hx hb dX6_tell_78 rfl (lv_at hl 0 rfl) ?_
      obtain ⟨v16, ev16, hf⟩ := hm_b_s hf
      refine hm_get (ci := 6) (k := 11) (C := RX6) (T := TX6) (N := 16) hx hb hts hiX6 hown hK hI rfl (by decide) w1 (hm_gi_s ev16) dX6_tell_79 ?_
      refine lv_icmp_ge (tgt := 111) hx hb dX6_tell_82 (by decide) (fun c => ?_) (fun c => ?_)
      · rw [if_pos c] at hf
        refine hm_aload_n hx hb dX6_tell_111 rfl (lv_at hl 0 rfl) ?_
        obtain ⟨v17, ev17, hf⟩ := hm_b_s hf
        refine hm_get (ci := 6) (k := 11) (C := RX6) (T := TX6) (N := 16) hx hb hts hiX6 hown hK hI rfl (by decide) w1 (hm_gi_s ev17) dX6_tell_112 ?_
        exact hm_iret_e hf hx hb hr hlocks hK hI (Nat.le_of_ble_eq_true rfl) (Nat.le_of_ble_eq_true rfl) dX6_tell_115
      · rw [if_neg c] at hf
        refine hm_aload_n hx hb dX6_tell_85 rfl (lv_at hl 0 rfl) ?_
        obtain ⟨v18, ev18, hf⟩ := hm_b_s hf
        refine hm_get (ci := 6) (k := 9) (C := RX6) (T := TX6) (N := 16) hx hb hts hiX6 hown hK hI rfl (by decide) w4 (hm_gq_s ev18) dX6_tell_86 ?_
        refine lv_sipush (v := (5000 : Int32)) hx hb dX6_tell_89 (by decide) ?_
        refine lv_iload_n hx hb dX6_tell_92 rfl (lv_at hl 1 rfl) ?_
        refine lv_imul hx hb dX6_tell_93 ?_
        refine lv_iload hx hb dX6_tell_94 (lv_at hl 2 rfl) ?_
        refine lv_iadd hx hb dX6_tell_96 ?_
        refine hm_aload_n hx hb dX6_tell_97 rfl (lv_at hl 0 rfl) ?_
        obtain ⟨v19, ev19, hf⟩ := hm_b_s hf
        refine hm_get (ci := 6) (k := 10) (C := RX6) (T := TX6) (N := 16) hx hb hts hiX6 hown hK hI rfl (by decide) w5 (hm_gq_s ev19) dX6_tell_98 ?_
        refine lv_iload hx hb dX6_tell_101 (lv_at hl 2 rfl) ?_
        obtain ⟨v20, ev20, hf⟩ := hm_b_s hf
        refine hm_iald (kd := 0) (t0 := 0) hx hb hK hI rfl ev20 dX6_tell_103 ?_
        obtain ⟨h21, eh21, hf⟩ := hm_b_s hf
        refine hm_iast (kd := 0) (t0 := 0) hx hb hK hI rfl eh21 dX6_tell_104 (fun H locs hI => ?_)
        refine lv_iinc (v := x4 + (1 : Int32)) (lv' := [(4, .int (x4 + (1 : Int32))), (0, va_rf x0), (1, .int x1)]) hx hb dX6_tell_105 hl (k := 2) rfl rfl (by decide) rfl (fun ls hl => ?_)
        refine lv_goto (tgt := 76) hx hb dX6_tell_108 (by decide) ?_
        exact ih76 x0 x1 (x4 + (1 : Int32)) h21 hf _ _ _ hI (lv_sub hl [1, 2, 0] rfl)
  have B26 : ∀ (fu : Nat) (x0 : Option Nat) (x1 : Int32) (x2 : Int32) (x3 : Int32) (x4 : Int32) (h : hm_H), hm_loop (fun _ _ _ _ _ _ => none) (fX6_tell_26) fu x0 x1 x2 x3 x4 h = some (r, h') → ∀ (H : Heap) (locs : List Loc) (ls : Array Slot), hm_I D vwCl kA (hm_A h0) s.heap h H locs → lv_has ls 5 [(0, va_rf x0), (1, .int x1), (2, .int x2), (3, .int x3), (4, .int x4)] → W p l e (headSpec wsX6_tell { frames := 5, cells := 0, slots := 0, locals := 131 }).room s m args below meth c H locs 0 0 (MQ below (hm_Q D vwCl kA (hm_ty kA) h0 (some (.int r)) h') args s 0 0 (hm_A h0)) (F0 m 26 ls []) := by
    intro fu
    induction fu with
    | zero => intro x0 x1 x2 x3 x4 h hf; cases hf
    | succ fu ih26 =>
      rw [hm_loop_s]
      generalize hm_loop (fun _ _ _ _ _ _ => none) (fX6_tell_26) fu = K26 at ih26 ⊢
      intro x0 x1 x2 x3 x4 h hf H locs ls hI hl
      unfold fX6_tell_26 at hf
      refine lv_iload hx hb dX6_tell_26 (lv_at hl 4 rfl) ?_
      refine hm_aload_n hx hb dX6_tell_28 rfl (lv_at hl 0 rfl) ?_
      obtain ⟨v8, ev8, hf⟩ := hm_b_s hf
      refine hm_get (ci := 6) (k := 3) (C := RX6) (T := TX6) (N := 16) hx hb hts hiX6 hown hK hI rfl (by decide) w2 (hm_gq_s ev8) dX6_tell_29 ?_
      refine lv_iload_n hx hb dX6_tell_32 rfl (lv_at hl 2 rfl) ?_
      obtain ⟨v9, ev9, hf⟩ := hm_b_s hf
      refine hm_iald (kd := 0) (t0 := 0) hx hb hK hI rfl ev9 dX6_tell_33 ?_
      refine lv_icmp_ge (tgt := 51) hx hb dX6_tell_34 (by decide) (fun c => ?_) (fun c => ?_)
      · rw [if_pos c] at hf
        refine hm_aload_n hx hb dX6_tell_51 rfl (lv_at hl 0 rfl) ?_
        obtain ⟨v10, ev10, hf⟩ := hm_b_s hf
        refine hm_get (ci := 6) (k := 11) (C := RX6) (T := TX6) (N := 16) hx hb hts hiX6 hown hK hI rfl (by decide) w1 (hm_gi_s ev10) dX6_tell_52 ?_
        refine lv_sipush (v := (5000 : Int32)) hx hb dX6_tell_55 (by decide) ?_
        refine lv_icmp_le (tgt := 63) hx hb dX6_tell_58 (by decide) (fun c => ?_) (fun c => ?_)
        · rw [if_pos c] at hf
          refine hm_aload_n hx hb dX6_tell_63 rfl (lv_at hl 0 rfl) ?_
          obtain ⟨v11, ev11, hf⟩ := hm_b_s hf
          refine hm_get (ci := 6) (k := 8) (C := RX6) (T := TX6) (N := 16) hx hb hts hiX6 hown hK hI rfl (by decide) w3 (hm_gq_s ev11) dX6_tell_64 ?_
          refine lv_iload_n hx hb dX6_tell_67 rfl (lv_at hl 1 rfl) ?_
          refine hm_aload_n hx hb dX6_tell_68 rfl (lv_at hl 0 rfl) ?_
          obtain ⟨v12, ev12, hf⟩ := hm_b_s hf
          refine hm_get (ci := 6) (k := 11) (C := RX6) (T := TX6) (N := 16) hx hb hts hiX6 hown hK hI rfl (by decide) w1 (hm_gi_s ev12) dX6_tell_69 ?_
          obtain ⟨h13, eh13, hf⟩ := hm_b_s hf
          refine hm_iast (kd := 0) (t0 := 0) hx hb hK hI rfl eh13 dX6_tell_72 (fun H locs hI => ?_)
          refine lv_iconst (v := (0 : Int32)) hx hb dX6_tell_73 (by decide) ?_
          refine lv_istore (lv' := [(4, .int (0 : Int32)), (0, va_rf x0), (1, .int x1), (2, .int x2), (3, .int x3)]) hx hb dX6_tell_74 hl (by decide) rfl (fun ls hl => ?_)
          exact B76 hm_fu x0 x1 (0 : Int32) h13 hf _ _ _ hI (lv_sub hl [1, 2, 0] rfl)
        · rw [if_neg c] at hf
          refine lv_iconst (v := (-1 : Int32)) hx hb dX6_tell_61 (by decide) ?_
          exact hm_iret_e hf hx hb hr hlocks hK hI (Nat.le_of_ble_eq_true rfl) (Nat.le_of_ble_eq_true rfl) dX6_tell_62
      · rw [if_neg c] at hf
        refine hm_aload_n hx hb dX6_tell_37 rfl (lv_at hl 0 rfl) ?_
        refine lv_iload_n hx hb dX6_tell_38 rfl (lv_at hl 2 rfl) ?_
        refine lv_iload_n hx hb dX6_tell_39 rfl (lv_at hl 3 rfl) ?_
        refine lv_iload hx hb dX6_tell_40 (lv_at hl 4 rfl) ?_
        obtain ⟨b15, eb15, hf⟩ := hm_b_s hf
        obtain ⟨h14, eh14, hf⟩ := hm_b_s hf
        refine hm_cV (As := [.int x2, .int x3, .int x4]) (rest := []) ⟨hx, hb, hml, hown, hts⟩ hK hI eb15 rfl rfl (kX6_tellRow l D kA b15 x2 x3 x4 h h14 eh14) (cwV 3 hts gX6_tell_X6_tellRow rfl rfl rfl (by decide +kernel) ⟨Nat.le_of_ble_eq_true rfl, Nat.le_of_ble_eq_true rfl⟩) rfl hl.1 rfl (by first | exact Nat.le_of_ble_eq_true rfl | (simp only [List.map, hm_rf_cat, hm_ci, hm_cl, List.sum_cons, List.sum_nil] <;> decide)) dX6_tell_42 ⟨Nat.le_of_ble_eq_true rfl, Nat.le_of_ble_eq_true rfl⟩ (fun H locs hI => ?_)
        refine W.eq (g2 := F0 m 45 ls []) rfl ?_
        refine lv_iinc (v := x4 + (1 : Int32)) (lv' := [(4, .int (x4 + (1 : Int32))), (0, va_rf x0), (1, .int x1), (2, .int x2), (3, .int x3)]) hx hb dX6_tell_45 hl (k := 4) rfl rfl (by decide) rfl (fun ls hl => ?_)
        refine lv_goto (tgt := 26) hx hb dX6_tell_48 (by decide) ?_
        exact ih26 x0 x1 x2 x3 (x4 + (1 : Int32)) h14 hf _ _ _ hI (lv_sub hl [1, 2, 3, 4, 0] rfl)
  rw [show entryFrame m args 5 = entryFrame m ([.ref t, .int a1, .int a2, .int a3] : List Value).toArray 5 from by rw [hargs]]
  have hl := lv_entry ([.ref t, .int a1, .int a2, .int a3]) (n := 5) (Nat.le_of_ble_eq_true rfl)
  rw [lg_entry_eq]
  generalize (lg_sl ([.ref t, .int a1, .int a2, .int a3]) ++ List.replicate (5 - (lg_sl ([.ref t, .int a1, .int a2, .int a3])).length) Slot.unset).toArray = ls at hl ⊢
  have hl : lv_has ls 5 [(0, va_rf (some t)), (1, .int a1), (2, .int a2), (3, .int a3)] := hl
  unfold fX6_tell at hf
  refine hm_aload_n hx hb dX6_tell_0 rfl (lv_at hl 0 rfl) ?_
  refine lv_iload_n hx hb dX6_tell_1 rfl (lv_at hl 1 rfl) ?_
  obtain ⟨b2, eb2, hf⟩ := hm_b_s hf
  obtain ⟨v3, h1, eh1, hf⟩ := hm_b2_s hf
  refine hm_cV (As := [.int a1]) (rest := []) ⟨hx, hb, hml, hown, hts⟩ hK hI eb2 rfl rfl (kX6_isSprite l D kA b2 a1 h0 h1 v3 eh1) (cwV 1 hts gX6_tell_X6_isSprite rfl rfl rfl (by decide +kernel) ⟨Nat.le_of_ble_eq_true rfl, Nat.le_of_ble_eq_true rfl⟩) rfl hl.1 rfl (by first | exact Nat.le_of_ble_eq_true rfl | (simp only [List.map, hm_rf_cat, hm_ci, hm_cl, List.sum_cons, List.sum_nil] <;> decide)) dX6_tell_2 ⟨Nat.le_of_ble_eq_true rfl, Nat.le_of_ble_eq_true rfl⟩ (fun H locs hI => ?_)
  refine lv_if_eq (tgt := 16) hx hb dX6_tell_5 (by decide) (fun c => ?_) (fun c => ?_)
  · rw [if_pos c] at hf
    refine lv_iconst (v := (-1 : Int32)) hx hb dX6_tell_16 (by decide) ?_
    exact hm_iret_e hf hx hb hr hlocks hK hI (Nat.le_of_ble_eq_true rfl) (Nat.le_of_ble_eq_true rfl) dX6_tell_17
  · rw [if_neg c] at hf
    refine hm_aload_n hx hb dX6_tell_8 rfl (lv_at hl 0 rfl) ?_
    refine lv_iload_n hx hb dX6_tell_9 rfl (lv_at hl 2 rfl) ?_
    obtain ⟨b5, eb5, hf⟩ := hm_b_s hf
    obtain ⟨v6, h4, eh4, hf⟩ := hm_b2_s hf
    refine hm_cV (As := [.int a2]) (rest := []) ⟨hx, hb, hml, hown, hts⟩ hK hI eb5 rfl rfl (kX6_isSurface l D kA b5 a2 h1 h4 v6 eh4) (cwV 1 hts gX6_tell_X6_isSurface rfl rfl rfl (by decide +kernel) ⟨Nat.le_of_ble_eq_true rfl, Nat.le_of_ble_eq_true rfl⟩) rfl hl.1 rfl (by first | exact Nat.le_of_ble_eq_true rfl | (simp only [List.map, hm_rf_cat, hm_ci, hm_cl, List.sum_cons, List.sum_nil] <;> decide)) dX6_tell_10 ⟨Nat.le_of_ble_eq_true rfl, Nat.le_of_ble_eq_true rfl⟩ (fun H locs hI => ?_)
    refine lv_if_ne (tgt := 18) hx hb dX6_tell_13 (by decide) (fun c => ?_) (fun c => ?_)
    · rw [if_neg c] at hf
      refine hm_aload_n hx hb dX6_tell_18 rfl (lv_at hl 0 rfl) ?_
      refine lv_iconst (v := (0 : Int32)) hx hb dX6_tell_19 (by decide) ?_
      obtain ⟨h7, eh7, hf⟩ := hm_b_s hf
      refine hm_put (ci := 6) (k := 11) (C := RX6) (T := TX6) (N := 16) hx hb hts hiX6 tyX6 tyX6_ok nmX6 hown hK hI rfl (by decide) w1 rfl eh7 rfl rfl dX6_tell_20 (fun H locs hI => ?_)
      refine lv_iconst (v := (0 : Int32)) hx hb dX6_tell_23 (by decide) ?_
      refine lv_istore (lv' := [(4, .int (0 : Int32)), (0, va_rf (some t)), (1, .int a1), (2, .int a2), (3, .int a3)]) hx hb dX6_tell_24 hl (by decide) rfl (fun ls hl => ?_)
      exact B26 hm_fu (some t) a1 a2 a3 (0 : Int32) h7 hf _ _ _ hI (lv_sub hl [1, 2, 3, 4, 0] rfl)
    · rw [if_pos c] at hf
      refine lv_iconst (v := (-1 : Int32)) hx hb dX6_tell_16 (by decide) ?_
      exact hm_iret_e hf hx hb hr hlocks hK hI (Nat.le_of_ble_eq_true rfl) (Nat.le_of_ble_eq_true rfl) dX6_tell_17
/-! ==== X6_load: BlitBoardModel.load(IJI)I ==== -/
def fX6_load_44 (K44 : Option Nat → Int32 → Int64 → Int32 → hm_H → Option (Int32 × hm_H)) (x0 : Option Nat) (x1 : Int32) (x2 : Int64) (x5 : Int32) (h : hm_H) : Option (Int32 × hm_H) :=
  if x5 < 0 then
    hm_b (hm_gq 6 8 h x0) fun v7 =>
    hm_b (hm_ai 0 h v7 x1) fun v8 =>
    some (v8, h)
  else
    hm_b (hm_gq 6 9 h x0) fun v9 =>
    hm_b (hm_gq 6 8 h x0) fun v10 =>
    hm_b (hm_ai 0 h v10 x1) fun v11 =>
    hm_b (hm_si 0 h v9 (((5000 : Int32) * x1) + v11) (((x2 >>> (((8 : Int32) * x5).toInt64 &&& 63)).toInt32) &&& (255 : Int32))) fun h12 =>
    hm_b (hm_gq 6 8 h12 x0) fun v13 =>
    hm_b (hm_ai 0 h12 v13 x1) fun v14 =>
    hm_b (hm_si 0 h12 v13 x1 (v14 + (1 : Int32))) fun h15 =>
    K44 x0 x1 x2 (x5 + (-1 : Int32)) h15
def fX6_load (t : Nat) (a1 : Int32) (a2 : Int64) (a3 : Int32) (h0 : hm_H) : Option (Int32 × hm_H) :=
  hm_b (hm_rc 6 h0 (some t)) fun b2 =>
  hm_b2 (fX6_isSprite b2 a1 h0) fun v3 h1 =>
  if v3 = 0 then
    some ((-1 : Int32), h1)
  else
    if a3 < (1 : Int32) then
      some ((-1 : Int32), h1)
    else
      if (8 : Int32) < a3 then
        some ((-1 : Int32), h1)
      else
        hm_b (hm_gq 6 8 h1 (some t)) fun v4 =>
        hm_b (hm_ai 0 h1 v4 a1) fun v5 =>
        if (v5 + a3) ≤ (5000 : Int32) then
          hm_let (a3 - (1 : Int32)) fun v6 =>
          hm_loop (fun _ _ _ _ _ => none) (fX6_load_44) hm_fu (some t) a1 a2 v6 h1
        else
          some ((-1 : Int32), h1)
set_option maxRecDepth 100000 in
set_option maxHeartbeats 8000000 in
theorem kX6_load (l : Launch) (D : va_G) (kA : Nat → ClassId) (t : Nat) (a1 : Int32) (a2 : Int64) (a3 : Int32) (h0 h' : hm_H) (r : Int32) (hf : fX6_load t a1 a2 a3 h0 = some (r, h')) : hm_C l yX6_load wsX6_load { frames := 1, cells := 0, slots := 0, locals := 21 } D vwCl kA (hm_ty kA) [.ref t, .int a1, .long a2, .int a3] h0 (some (.int r)) h' 0 0 := by
  refine Met.ofW (cc := cX6_load) (maxL := 6) (ret := (some .int)) (by decide) rfl ?_
  intro p e s m args below meth c s₁ B hml hv
  obtain ⟨hargs, hB⟩ := hv
  have hx := B.exec
  have hb := B.bytes
  have hr := B.returns
  have hts := atoms_spec (ws := wsX6_load) B.pre
  have hown : s.vm.findClass RX6 = some m.cls := findClass_of_methodNamed B.named
  have hlocks := B.notSynchronized
  have hK := hB.2
  have hI := hm_start hB
  have w1 := hts (.fieldLink RX6 33 "BlitBoardModel" "sizes" "[I") (by decide +kernel)
  have w2 := hts (.fieldLink RX6 36 "BlitBoardModel" "bytes" "[I") (by decide +kernel)
  have hiX6 : ∀ w ∈ wsX60, w ∈ wsX6_load := by decide +kernel
  have B44 : ∀ (fu : Nat) (x0 : Option Nat) (x1 : Int32) (x2 : Int64) (x5 : Int32) (h : hm_H), hm_loop (fun _ _ _ _ _ => none) (fX6_load_44) fu x0 x1 x2 x5 h = some (r, h') → ∀ (H : Heap) (locs : List Loc) (ls : Array Slot), hm_I D vwCl kA (hm_A h0) s.heap h H locs → lv_has ls 6 [(0, va_rf x0), (1, .int x1), (2, .long x2), (5, .int x5)] → W p l e (headSpec wsX6_load { frames := 1, cells := 0, slots := 0, locals := 21 }).room s m args below meth c H locs 0 0 (MQ below (hm_Q D vwCl kA (hm_ty kA) h0 (some (.int r)) h') args s 0 0 (hm_A h0)) (F0 m 44 ls []) := by
    intro fu
    induction fu with
    | zero => intro x0 x1 x2 x5 h hf; cases hf
    | succ fu ih44 =>
      rw [hm_loop_s]
      generalize hm_loop (fun _ _ _ _ _ => none) (fX6_load_44) fu = K44 at ih44 ⊢
      intro x0 x1 x2 x5 h hf H locs ls hI hl
      unfold fX6_load_44 at hf
      refine lv_iload hx hb dX6_load_44 (lv_at hl 3 rfl) ?_
      refine lv_if_lt (tgt := 94) hx hb dX6_load_46 (by decide) (fun c => ?_) (fun c => ?_)
      · rw [if_pos c] at hf
        refine hm_aload_n hx hb dX6_load_94 rfl (lv_at hl 0 rfl) ?_
        obtain ⟨v7, ev7, hf⟩ := hm_b_s hf
        refine hm_get (ci := 6) (k := 8) (C := RX6) (T := TX6) (N := 16) hx hb hts hiX6 hown hK hI rfl (by decide) w1 (hm_gq_s ev7) dX6_load_95 ?_
        refine lv_iload_n hx hb dX6_load_98 rfl (lv_at hl 1 rfl) ?_
        obtain ⟨v8, ev8, hf⟩ := hm_b_s hf
        refine hm_iald (kd := 0) (t0 := 0) hx hb hK hI rfl ev8 dX6_load_99 ?_
        exact hm_iret_e hf hx hb hr hlocks hK hI (Nat.le_of_ble_eq_true rfl) (Nat.le_of_ble_eq_true rfl) dX6_load_100
      · rw [if_neg c] at hf
        refine hm_aload_n hx hb dX6_load_49 rfl (lv_at hl 0 rfl) ?_
        obtain ⟨v9, ev9, hf⟩ := hm_b_s hf
        refine hm_get (ci := 6) (k := 9) (C := RX6) (T := TX6) (N := 16) hx hb hts hiX6 hown hK hI rfl (by decide) w2 (hm_gq_s ev9) dX6_load_50 ?_
        refine lv_sipush (v := (5000 : Int32)) hx hb dX6_load_53 (by decide) ?_
        refine lv_iload_n hx hb dX6_load_56 rfl (lv_at hl 1 rfl) ?_
        refine lv_imul hx hb dX6_load_57 ?_
        refine hm_aload_n hx hb dX6_load_58 rfl (lv_at hl 0 rfl) ?_
        obtain ⟨v10, ev10, hf⟩ := hm_b_s hf
        refine hm_get (ci := 6) (k := 8) (C := RX6) (T := TX6) (N := 16) hx hb hts hiX6 hown hK hI rfl (by decide) w1 (hm_gq_s ev10) dX6_load_59 ?_
        refine lv_iload_n hx hb dX6_load_62 rfl (lv_at hl 1 rfl) ?_
        obtain ⟨v11, ev11, hf⟩ := hm_b_s hf
        refine hm_iald (kd := 0) (t0 := 0) hx hb hK hI rfl ev11 dX6_load_63 ?_
        refine lv_iadd hx hb dX6_load_64 ?_
        refine lv_lload_n hx hb dX6_load_65 rfl (lv_at hl 2 rfl) ?_
        refine lv_bipush (v := (8 : Int32)) hx hb dX6_load_66 (by decide) ?_
        refine lv_iload hx hb dX6_load_68 (lv_at hl 3 rfl) ?_
        refine lv_imul hx hb dX6_load_70 ?_
        refine lv_lshr (v := x2 >>> (((8 : Int32) * x5).toInt64 &&& 63)) hx hb dX6_load_71 rfl ?_
        refine lv_l2i (v := (x2 >>> (((8 : Int32) * x5).toInt64 &&& 63)).toInt32) hx hb dX6_load_72 rfl ?_
        refine lv_sipush (v := (255 : Int32)) hx hb dX6_load_73 (by decide) ?_
        refine lv_iand hx hb dX6_load_76 ?_
        obtain ⟨h12, eh12, hf⟩ := hm_b_s hf
        refine hm_iast (kd := 0) (t0 := 0) hx hb hK hI rfl eh12 dX6_load_77 (fun H locs hI => ?_)
        refine hm_aload_n hx hb dX6_load_78 rfl (lv_at hl 0 rfl) ?_
        obtain ⟨v13, ev13, hf⟩ := hm_b_s hf
        refine hm_get (ci := 6) (k := 8) (C := RX6) (T := TX6) (N := 16) hx hb hts hiX6 hown hK hI rfl (by decide) w1 (hm_gq_s ev13) dX6_load_79 ?_
        refine lv_iload_n hx hb dX6_load_82 rfl (lv_at hl 1 rfl) ?_
        refine lv_dup2_11 hx hb dX6_load_83 rfl (hm_rf_cat _) ?_
        obtain ⟨v14, ev14, hf⟩ := hm_b_s hf
        refine hm_iald (kd := 0) (t0 := 0) hx hb hK hI rfl ev14 dX6_load_84 ?_
        refine lv_iconst (v := (1 : Int32)) hx hb dX6_load_85 (by decide) ?_
        refine lv_iadd hx hb dX6_load_86 ?_
        obtain ⟨h15, eh15, hf⟩ := hm_b_s hf
        refine hm_iast (kd := 0) (t0 := 0) hx hb hK hI rfl eh15 dX6_load_87 (fun H locs hI => ?_)
        refine lv_iinc (v := x5 + (-1 : Int32)) (lv' := [(5, .int (x5 + (-1 : Int32))), (0, va_rf x0), (1, .int x1), (2, .long x2)]) hx hb dX6_load_88 hl (k := 3) rfl rfl (by decide) rfl (fun ls hl => ?_)
        refine lv_goto (tgt := 44) hx hb dX6_load_91 (by decide) ?_
        exact ih44 x0 x1 x2 (x5 + (-1 : Int32)) h15 hf _ _ _ hI (lv_sub hl [1, 2, 3, 0] rfl)
  rw [show entryFrame m args 6 = entryFrame m ([.ref t, .int a1, .long a2, .int a3] : List Value).toArray 6 from by rw [hargs]]
  have hl := lv_entry ([.ref t, .int a1, .long a2, .int a3]) (n := 6) (Nat.le_of_ble_eq_true rfl)
  rw [lg_entry_eq]
  generalize (lg_sl ([.ref t, .int a1, .long a2, .int a3]) ++ List.replicate (6 - (lg_sl ([.ref t, .int a1, .long a2, .int a3])).length) Slot.unset).toArray = ls at hl ⊢
  have hl : lv_has ls 6 [(0, va_rf (some t)), (1, .int a1), (2, .long a2), (4, .int a3)] := hl
  unfold fX6_load at hf
  refine hm_aload_n hx hb dX6_load_0 rfl (lv_at hl 0 rfl) ?_
  refine lv_iload_n hx hb dX6_load_1 rfl (lv_at hl 1 rfl) ?_
  obtain ⟨b2, eb2, hf⟩ := hm_b_s hf
  obtain ⟨v3, h1, eh1, hf⟩ := hm_b2_s hf
  refine hm_cV (As := [.int a1]) (rest := []) ⟨hx, hb, hml, hown, hts⟩ hK hI eb2 rfl rfl (kX6_isSprite l D kA b2 a1 h0 h1 v3 eh1) (cwV 1 hts gX6_load_X6_isSprite rfl rfl rfl (by decide +kernel) ⟨Nat.le_of_ble_eq_true rfl, Nat.le_of_ble_eq_true rfl⟩) rfl hl.1 rfl (by first | exact Nat.le_of_ble_eq_true rfl | (simp only [List.map, hm_rf_cat, hm_ci, hm_cl, List.sum_cons, List.sum_nil] <;> decide)) dX6_load_2 ⟨Nat.le_of_ble_eq_true rfl, Nat.le_of_ble_eq_true rfl⟩ (fun H locs hI => ?_)
  refine lv_if_eq (tgt := 36) hx hb dX6_load_5 (by decide) (fun c => ?_) (fun c => ?_)
  · rw [if_pos c] at hf
    refine lv_iconst (v := (-1 : Int32)) hx hb dX6_load_36 (by decide) ?_
    exact hm_iret_e hf hx hb hr hlocks hK hI (Nat.le_of_ble_eq_true rfl) (Nat.le_of_ble_eq_true rfl) dX6_load_37
  · rw [if_neg c] at hf
    refine lv_iload hx hb dX6_load_8 (lv_at hl 3 rfl) ?_
    refine lv_iconst (v := (1 : Int32)) hx hb dX6_load_10 (by decide) ?_
    refine lv_icmp_lt (tgt := 36) hx hb dX6_load_11 (by decide) (fun c => ?_) (fun c => ?_)
    · rw [if_pos c] at hf
      refine lv_iconst (v := (-1 : Int32)) hx hb dX6_load_36 (by decide) ?_
      exact hm_iret_e hf hx hb hr hlocks hK hI (Nat.le_of_ble_eq_true rfl) (Nat.le_of_ble_eq_true rfl) dX6_load_37
    · rw [if_neg c] at hf
      refine lv_iload hx hb dX6_load_14 (lv_at hl 3 rfl) ?_
      refine lv_bipush (v := (8 : Int32)) hx hb dX6_load_16 (by decide) ?_
      refine lv_icmp_gt (tgt := 36) hx hb dX6_load_18 (by decide) (fun c => ?_) (fun c => ?_)
      · rw [if_pos c] at hf
        refine lv_iconst (v := (-1 : Int32)) hx hb dX6_load_36 (by decide) ?_
        exact hm_iret_e hf hx hb hr hlocks hK hI (Nat.le_of_ble_eq_true rfl) (Nat.le_of_ble_eq_true rfl) dX6_load_37
      · rw [if_neg c] at hf
        refine hm_aload_n hx hb dX6_load_21 rfl (lv_at hl 0 rfl) ?_
        obtain ⟨v4, ev4, hf⟩ := hm_b_s hf
        refine hm_get (ci := 6) (k := 8) (C := RX6) (T := TX6) (N := 16) hx hb hts hiX6 hown hK hI rfl (by decide) w1 (hm_gq_s ev4) dX6_load_22 ?_
        refine lv_iload_n hx hb dX6_load_25 rfl (lv_at hl 1 rfl) ?_
        obtain ⟨v5, ev5, hf⟩ := hm_b_s hf
        refine hm_iald (kd := 0) (t0 := 0) hx hb hK hI rfl ev5 dX6_load_26 ?_
        refine lv_iload hx hb dX6_load_27 (lv_at hl 3 rfl) ?_
        refine lv_iadd hx hb dX6_load_29 ?_
        refine lv_sipush (v := (5000 : Int32)) hx hb dX6_load_30 (by decide) ?_
        refine lv_icmp_le (tgt := 38) hx hb dX6_load_33 (by decide) (fun c => ?_) (fun c => ?_)
        · rw [if_pos c] at hf
          refine lv_iload hx hb dX6_load_38 (lv_at hl 3 rfl) ?_
          refine lv_iconst (v := (1 : Int32)) hx hb dX6_load_40 (by decide) ?_
          refine lv_isub hx hb dX6_load_41 ?_
          obtain ⟨v6, ev6, hf⟩ := hm_let_s hf
          refine hm_ti ev6 ?_
          refine lv_istore (lv' := [(5, .int v6), (0, va_rf (some t)), (1, .int a1), (2, .long a2), (4, .int a3)]) hx hb dX6_load_42 hl (by decide) rfl (fun ls hl => ?_)
          exact B44 hm_fu (some t) a1 a2 v6 h1 hf _ _ _ hI (lv_sub hl [1, 2, 3, 0] rfl)
        · rw [if_neg c] at hf
          refine lv_iconst (v := (-1 : Int32)) hx hb dX6_load_36 (by decide) ?_
          exact hm_iret_e hf hx hb hr hlocks hK hI (Nat.le_of_ble_eq_true rfl) (Nat.le_of_ble_eq_true rfl) dX6_load_37
/-! ==== X6_forget: BlitBoardModel.forget(I)I ==== -/
def fX6_forget (t : Nat) (a1 : Int32) (h0 : hm_H) : Option (Int32 × hm_H) :=
  hm_b (hm_rc 6 h0 (some t)) fun b2 =>
  hm_b2 (fX6_isSprite b2 a1 h0) fun v3 h1 =>
  if v3 = 0 then
    some ((-1 : Int32), h1)
  else
    hm_b (hm_gq 6 8 h1 (some t)) fun v4 =>
    hm_b (hm_ai 0 h1 v4 a1) fun v5 =>
    hm_b (hm_gq 6 8 h1 (some t)) fun v6 =>
    hm_b (hm_si 0 h1 v6 a1 (0 : Int32)) fun h7 =>
    some (v5, h7)
set_option maxRecDepth 100000 in
set_option maxHeartbeats 8000000 in
theorem kX6_forget (l : Launch) (D : va_G) (kA : Nat → ClassId) (t : Nat) (a1 : Int32) (h0 h' : hm_H) (r : Int32) (hf : fX6_forget t a1 h0 = some (r, h')) : hm_C l yX6_forget wsX6_forget { frames := 1, cells := 0, slots := 0, locals := 21 } D vwCl kA (hm_ty kA) [.ref t, .int a1] h0 (some (.int r)) h' 0 0 := by
  refine Met.ofW (cc := cX6_forget) (maxL := 3) (ret := (some .int)) (by decide) rfl ?_
  intro p e s m args below meth c s₁ B hml hv
  obtain ⟨hargs, hB⟩ := hv
  have hx := B.exec
  have hb := B.bytes
  have hr := B.returns
  have hts := atoms_spec (ws := wsX6_forget) B.pre
  have hown : s.vm.findClass RX6 = some m.cls := findClass_of_methodNamed B.named
  have hlocks := B.notSynchronized
  have hK := hB.2
  have hI := hm_start hB
  have w1 := hts (.fieldLink RX6 33 "BlitBoardModel" "sizes" "[I") (by decide +kernel)
  have hiX6 : ∀ w ∈ wsX60, w ∈ wsX6_forget := by decide +kernel
  rw [show entryFrame m args 3 = entryFrame m ([.ref t, .int a1] : List Value).toArray 3 from by rw [hargs]]
  have hl := lv_entry ([.ref t, .int a1]) (n := 3) (Nat.le_of_ble_eq_true rfl)
  rw [lg_entry_eq]
  generalize (lg_sl ([.ref t, .int a1]) ++ List.replicate (3 - (lg_sl ([.ref t, .int a1])).length) Slot.unset).toArray = ls at hl ⊢
  have hl : lv_has ls 3 [(0, va_rf (some t)), (1, .int a1)] := hl
  unfold fX6_forget at hf
  refine hm_aload_n hx hb dX6_forget_0 rfl (lv_at hl 0 rfl) ?_
  refine lv_iload_n hx hb dX6_forget_1 rfl (lv_at hl 1 rfl) ?_
  obtain ⟨b2, eb2, hf⟩ := hm_b_s hf
  obtain ⟨v3, h1, eh1, hf⟩ := hm_b2_s hf
  refine hm_cV (As := [.int a1]) (rest := []) ⟨hx, hb, hml, hown, hts⟩ hK hI eb2 rfl rfl (kX6_isSprite l D kA b2 a1 h0 h1 v3 eh1) (cwV 1 hts gX6_forget_X6_isSprite rfl rfl rfl (by decide +kernel) ⟨Nat.le_of_ble_eq_true rfl, Nat.le_of_ble_eq_true rfl⟩) rfl hl.1 rfl (by first | exact Nat.le_of_ble_eq_true rfl | (simp only [List.map, hm_rf_cat, hm_ci, hm_cl, List.sum_cons, List.sum_nil] <;> decide)) dX6_forget_2 ⟨Nat.le_of_ble_eq_true rfl, Nat.le_of_ble_eq_true rfl⟩ (fun H locs hI => ?_)
  refine lv_if_ne (tgt := 10) hx hb dX6_forget_5 (by decide) (fun c => ?_) (fun c => ?_)
  · rw [if_neg c] at hf
    refine hm_aload_n hx hb dX6_forget_10 rfl (lv_at hl 0 rfl) ?_
    obtain ⟨v4, ev4, hf⟩ := hm_b_s hf
    refine hm_get (ci := 6) (k := 8) (C := RX6) (T := TX6) (N := 16) hx hb hts hiX6 hown hK hI rfl (by decide) w1 (hm_gq_s ev4) dX6_forget_11 ?_
    refine lv_iload_n hx hb dX6_forget_14 rfl (lv_at hl 1 rfl) ?_
    obtain ⟨v5, ev5, hf⟩ := hm_b_s hf
    refine hm_iald (kd := 0) (t0 := 0) hx hb hK hI rfl ev5 dX6_forget_15 ?_
    refine lv_istore_n (lv' := [(2, .int v5), (0, va_rf (some t)), (1, .int a1)]) hx hb dX6_forget_16 rfl hl (by decide) rfl (fun ls hl => ?_)
    refine hm_aload_n hx hb dX6_forget_17 rfl (lv_at hl 1 rfl) ?_
    obtain ⟨v6, ev6, hf⟩ := hm_b_s hf
    refine hm_get (ci := 6) (k := 8) (C := RX6) (T := TX6) (N := 16) hx hb hts hiX6 hown hK hI rfl (by decide) w1 (hm_gq_s ev6) dX6_forget_18 ?_
    refine lv_iload_n hx hb dX6_forget_21 rfl (lv_at hl 2 rfl) ?_
    refine lv_iconst (v := (0 : Int32)) hx hb dX6_forget_22 (by decide) ?_
    obtain ⟨h7, eh7, hf⟩ := hm_b_s hf
    refine hm_iast (kd := 0) (t0 := 0) hx hb hK hI rfl eh7 dX6_forget_23 (fun H locs hI => ?_)
    refine lv_iload_n hx hb dX6_forget_24 rfl (lv_at hl 0 rfl) ?_
    exact hm_iret_e hf hx hb hr hlocks hK hI (Nat.le_of_ble_eq_true rfl) (Nat.le_of_ble_eq_true rfl) dX6_forget_25
  · rw [if_pos c] at hf
    refine lv_iconst (v := (-1 : Int32)) hx hb dX6_forget_8 (by decide) ?_
    exact hm_iret_e hf hx hb hr hlocks hK hI (Nat.le_of_ble_eq_true rfl) (Nat.le_of_ble_eq_true rfl) dX6_forget_9
/-! ==== X6_part: BlitBoardModel.part(II)I ==== -/
def fX6_part (t : Nat) (a1 : Int32) (a2 : Int32) (h0 : hm_H) : Option (Int32 × hm_H) :=
  hm_b (hm_rc 6 h0 (some t)) fun b2 =>
  hm_b2 (fX6_isSprite b2 a1 h0) fun v3 h1 =>
  if v3 = 0 then
    some ((-1 : Int32), h1)
  else
    if a2 < 0 then
      some ((-1 : Int32), h1)
    else
      hm_b (hm_gq 6 8 h1 (some t)) fun v4 =>
      hm_b (hm_ai 0 h1 v4 a1) fun v5 =>
      if v5 ≤ a2 then
        some ((-1 : Int32), h1)
      else
        hm_b (hm_gq 6 9 h1 (some t)) fun v6 =>
        hm_b (hm_ai 0 h1 v6 (((5000 : Int32) * a1) + a2)) fun v7 =>
        some (v7, h1)
set_option maxRecDepth 100000 in
set_option maxHeartbeats 8000000 in
theorem kX6_part (l : Launch) (D : va_G) (kA : Nat → ClassId) (t : Nat) (a1 : Int32) (a2 : Int32) (h0 h' : hm_H) (r : Int32) (hf : fX6_part t a1 a2 h0 = some (r, h')) : hm_C l yX6_part wsX6_part { frames := 1, cells := 0, slots := 0, locals := 21 } D vwCl kA (hm_ty kA) [.ref t, .int a1, .int a2] h0 (some (.int r)) h' 0 0 := by
  refine Met.ofW (cc := cX6_part) (maxL := 3) (ret := (some .int)) (by decide) rfl ?_
  intro p e s m args below meth c s₁ B hml hv
  obtain ⟨hargs, hB⟩ := hv
  have hx := B.exec
  have hb := B.bytes
  have hr := B.returns
  have hts := atoms_spec (ws := wsX6_part) B.pre
  have hown : s.vm.findClass RX6 = some m.cls := findClass_of_methodNamed B.named
  have hlocks := B.notSynchronized
  have hK := hB.2
  have hI := hm_start hB
  have w1 := hts (.fieldLink RX6 33 "BlitBoardModel" "sizes" "[I") (by decide +kernel)
  have w2 := hts (.fieldLink RX6 36 "BlitBoardModel" "bytes" "[I") (by decide +kernel)
  have hiX6 : ∀ w ∈ wsX60, w ∈ wsX6_part := by decide +kernel
  rw [show entryFrame m args 3 = entryFrame m ([.ref t, .int a1, .int a2] : List Value).toArray 3 from by rw [hargs]]
  have hl := lv_entry ([.ref t, .int a1, .int a2]) (n := 3) (Nat.le_of_ble_eq_true rfl)
  rw [lg_entry_eq]
  generalize (lg_sl ([.ref t, .int a1, .int a2]) ++ List.replicate (3 - (lg_sl ([.ref t, .int a1, .int a2])).length) Slot.unset).toArray = ls at hl ⊢
  have hl : lv_has ls 3 [(0, va_rf (some t)), (1, .int a1), (2, .int a2)] := hl
  unfold fX6_part at hf
  refine hm_aload_n hx hb dX6_part_0 rfl (lv_at hl 0 rfl) ?_
  refine lv_iload_n hx hb dX6_part_1 rfl (lv_at hl 1 rfl) ?_
  obtain ⟨b2, eb2, hf⟩ := hm_b_s hf
  obtain ⟨v3, h1, eh1, hf⟩ := hm_b2_s hf
  refine hm_cV (As := [.int a1]) (rest := []) ⟨hx, hb, hml, hown, hts⟩ hK hI eb2 rfl rfl (kX6_isSprite l D kA b2 a1 h0 h1 v3 eh1) (cwV 1 hts gX6_part_X6_isSprite rfl rfl rfl (by decide +kernel) ⟨Nat.le_of_ble_eq_true rfl, Nat.le_of_ble_eq_true rfl⟩) rfl hl.1 rfl (by first | exact Nat.le_of_ble_eq_true rfl | (simp only [List.map, hm_rf_cat, hm_ci, hm_cl, List.sum_cons, List.sum_nil] <;> decide)) dX6_part_2 ⟨Nat.le_of_ble_eq_true rfl, Nat.le_of_ble_eq_true rfl⟩ (fun H locs hI => ?_)
  refine lv_if_eq (tgt := 37) hx hb dX6_part_5 (by decide) (fun c => ?_) (fun c => ?_)
  · rw [if_pos c] at hf
    refine lv_iconst (v := (-1 : Int32)) hx hb dX6_part_37 (by decide) ?_
    exact hm_iret_e hf hx hb hr hlocks hK hI (Nat.le_of_ble_eq_true rfl) (Nat.le_of_ble_eq_true rfl) dX6_part_38
  · rw [if_neg c] at hf
    refine lv_iload_n hx hb dX6_part_8 rfl (lv_at hl 2 rfl) ?_
    refine lv_if_lt (tgt := 37) hx hb dX6_part_9 (by decide) (fun c => ?_) (fun c => ?_)
    · rw [if_pos c] at hf
      refine lv_iconst (v := (-1 : Int32)) hx hb dX6_part_37 (by decide) ?_
      exact hm_iret_e hf hx hb hr hlocks hK hI (Nat.le_of_ble_eq_true rfl) (Nat.le_of_ble_eq_true rfl) dX6_part_38
    · rw [if_neg c] at hf
      refine lv_iload_n hx hb dX6_part_12 rfl (lv_at hl 2 rfl) ?_
      refine hm_aload_n hx hb dX6_part_13 rfl (lv_at hl 0 rfl) ?_
      obtain ⟨v4, ev4, hf⟩ := hm_b_s hf
      refine hm_get (ci := 6) (k := 8) (C := RX6) (T := TX6) (N := 16) hx hb hts hiX6 hown hK hI rfl (by decide) w1 (hm_gq_s ev4) dX6_part_14 ?_
      refine lv_iload_n hx hb dX6_part_17 rfl (lv_at hl 1 rfl) ?_
      obtain ⟨v5, ev5, hf⟩ := hm_b_s hf
      refine hm_iald (kd := 0) (t0 := 0) hx hb hK hI rfl ev5 dX6_part_18 ?_
      refine lv_icmp_ge (tgt := 37) hx hb dX6_part_19 (by decide) (fun c => ?_) (fun c => ?_)
      · rw [if_pos c] at hf
        refine lv_iconst (v := (-1 : Int32)) hx hb dX6_part_37 (by decide) ?_
        exact hm_iret_e hf hx hb hr hlocks hK hI (Nat.le_of_ble_eq_true rfl) (Nat.le_of_ble_eq_true rfl) dX6_part_38
      · rw [if_neg c] at hf
        refine hm_aload_n hx hb dX6_part_22 rfl (lv_at hl 0 rfl) ?_
        obtain ⟨v6, ev6, hf⟩ := hm_b_s hf
        refine hm_get (ci := 6) (k := 9) (C := RX6) (T := TX6) (N := 16) hx hb hts hiX6 hown hK hI rfl (by decide) w2 (hm_gq_s ev6) dX6_part_23 ?_
        refine lv_sipush (v := (5000 : Int32)) hx hb dX6_part_26 (by decide) ?_
        refine lv_iload_n hx hb dX6_part_29 rfl (lv_at hl 1 rfl) ?_
        refine lv_imul hx hb dX6_part_30 ?_
        refine lv_iload_n hx hb dX6_part_31 rfl (lv_at hl 2 rfl) ?_
        refine lv_iadd hx hb dX6_part_32 ?_
        obtain ⟨v7, ev7, hf⟩ := hm_b_s hf
        refine hm_iald (kd := 0) (t0 := 0) hx hb hK hI rfl ev7 dX6_part_33 ?_
        refine lv_goto (tgt := 38) hx hb dX6_part_34 (by decide) ?_
        exact hm_iret_e hf hx hb hr hlocks hK hI (Nat.le_of_ble_eq_true rfl) (Nat.le_of_ble_eq_true rfl) dX6_part_38
/-! ==== X6_add: BlitBoardModel.add(III)V ==== -/
def fX6_add (t : Nat) (a1 : Int32) (a2 : Int32) (a3 : Int32) (h0 : hm_H) : Option hm_H :=
  hm_b (hm_gq 6 13 h0 (some t)) fun v1 =>
  hm_b (hm_gi 6 12 h0 (some t)) fun v2 =>
  hm_b (hm_si 0 h0 v1 v2 a1) fun h3 =>
  hm_b (hm_gq 6 14 h3 (some t)) fun v4 =>
  hm_b (hm_gi 6 12 h3 (some t)) fun v5 =>
  hm_b (hm_si 0 h3 v4 v5 a2) fun h6 =>
  hm_b (hm_gq 6 15 h6 (some t)) fun v7 =>
  hm_b (hm_gi 6 12 h6 (some t)) fun v8 =>
  hm_b (hm_si 0 h6 v7 v8 a3) fun h9 =>
  hm_b (hm_gi 6 12 h9 (some t)) fun v10 =>
  hm_b (hm_p 6 12 (.int (v10 + (1 : Int32))) h9 (some t)) fun h11 =>
  some h11
set_option maxRecDepth 100000 in
set_option maxHeartbeats 8000000 in
theorem kX6_add (l : Launch) (D : va_G) (kA : Nat → ClassId) (t : Nat) (a1 : Int32) (a2 : Int32) (a3 : Int32) (h0 h' : hm_H) (hf : fX6_add t a1 a2 a3 h0 = some h') : hm_C l yX6_add wsX6_add { frames := 0, cells := 0, slots := 0, locals := 0 } D vwCl kA (hm_ty kA) [.ref t, .int a1, .int a2, .int a3] h0 none h' 0 0 := by
  refine Met.ofW (cc := cX6_add) (maxL := 4) (ret := none) (by decide) rfl ?_
  intro p e s m args below meth c s₁ B hml hv
  obtain ⟨hargs, hB⟩ := hv
  have hx := B.exec
  have hb := B.bytes
  have hr := B.returns
  have hts := atoms_spec (ws := wsX6_add) B.pre
  have hown : s.vm.findClass RX6 = some m.cls := findClass_of_methodNamed B.named
  have hlocks := B.notSynchronized
  have hK := hB.2
  have hI := hm_start hB
  have w1 := hts (.fieldLink RX6 42 "BlitBoardModel" "columns" "[I") (by decide +kernel)
  have w2 := hts (.fieldLink RX6 123 "BlitBoardModel" "drawn" "I") (by decide +kernel)
  have w3 := hts (.fieldLink RX6 45 "BlitBoardModel" "rows" "[I") (by decide +kernel)
  have w4 := hts (.fieldLink RX6 48 "BlitBoardModel" "numbers" "[I") (by decide +kernel)
  have hiX6 : ∀ w ∈ wsX60, w ∈ wsX6_add := by decide +kernel
  rw [show entryFrame m args 4 = entryFrame m ([.ref t, .int a1, .int a2, .int a3] : List Value).toArray 4 from by rw [hargs]]
  have hl := lv_entry ([.ref t, .int a1, .int a2, .int a3]) (n := 4) (Nat.le_of_ble_eq_true rfl)
  rw [lg_entry_eq]
  generalize (lg_sl ([.ref t, .int a1, .int a2, .int a3]) ++ List.replicate (4 - (lg_sl ([.ref t, .int a1, .int a2, .int a3])).length) Slot.unset).toArray = ls at hl ⊢
  have hl : lv_has ls 4 [(0, va_rf (some t)), (1, .int a1), (2, .int a2), (3, .int a3)] := hl
  unfold fX6_add at hf
  refine hm_aload_n hx hb dX6_add_0 rfl (lv_at hl 0 rfl) ?_
  obtain ⟨v1, ev1, hf⟩ := hm_b_s hf
  refine hm_get (ci := 6) (k := 13) (C := RX6) (T := TX6) (N := 16) hx hb hts hiX6 hown hK hI rfl (by decide) w1 (hm_gq_s ev1) dX6_add_1 ?_
  refine hm_aload_n hx hb dX6_add_4 rfl (lv_at hl 0 rfl) ?_
  obtain ⟨v2, ev2, hf⟩ := hm_b_s hf
  refine hm_get (ci := 6) (k := 12) (C := RX6) (T := TX6) (N := 16) hx hb hts hiX6 hown hK hI rfl (by decide) w2 (hm_gi_s ev2) dX6_add_5 ?_
  refine lv_iload_n hx hb dX6_add_8 rfl (lv_at hl 1 rfl) ?_
  obtain ⟨h3, eh3, hf⟩ := hm_b_s hf
  refine hm_iast (kd := 0) (t0 := 0) hx hb hK hI rfl eh3 dX6_add_9 (fun H locs hI => ?_)
  refine hm_aload_n hx hb dX6_add_10 rfl (lv_at hl 0 rfl) ?_
  obtain ⟨v4, ev4, hf⟩ := hm_b_s hf
  refine hm_get (ci := 6) (k := 14) (C := RX6) (T := TX6) (N := 16) hx hb hts hiX6 hown hK hI rfl (by decide) w3 (hm_gq_s ev4) dX6_add_11 ?_
  refine hm_aload_n hx hb dX6_add_14 rfl (lv_at hl 0 rfl) ?_
  obtain ⟨v5, ev5, hf⟩ := hm_b_s hf
  refine hm_get (ci := 6) (k := 12) (C := RX6) (T := TX6) (N := 16) hx hb hts hiX6 hown hK hI rfl (by decide) w2 (hm_gi_s ev5) dX6_add_15 ?_
  refine lv_iload_n hx hb dX6_add_18 rfl (lv_at hl 2 rfl) ?_
  obtain ⟨h6, eh6, hf⟩ := hm_b_s hf
  refine hm_iast (kd := 0) (t0 := 0) hx hb hK hI rfl eh6 dX6_add_19 (fun H locs hI => ?_)
  refine hm_aload_n hx hb dX6_add_20 rfl (lv_at hl 0 rfl) ?_
  obtain ⟨v7, ev7, hf⟩ := hm_b_s hf
  refine hm_get (ci := 6) (k := 15) (C := RX6) (T := TX6) (N := 16) hx hb hts hiX6 hown hK hI rfl (by decide) w4 (hm_gq_s ev7) dX6_add_21 ?_
  refine hm_aload_n hx hb dX6_add_24 rfl (lv_at hl 0 rfl) ?_
  obtain ⟨v8, ev8, hf⟩ := hm_b_s hf
  refine hm_get (ci := 6) (k := 12) (C := RX6) (T := TX6) (N := 16) hx hb hts hiX6 hown hK hI rfl (by decide) w2 (hm_gi_s ev8) dX6_add_25 ?_
  refine lv_iload_n hx hb dX6_add_28 rfl (lv_at hl 3 rfl) ?_
  obtain ⟨h9, eh9, hf⟩ := hm_b_s hf
  refine hm_iast (kd := 0) (t0 := 0) hx hb hK hI rfl eh9 dX6_add_29 (fun H locs hI => ?_)
  refine hm_aload_n hx hb dX6_add_30 rfl (lv_at hl 0 rfl) ?_
  refine lv_dup hx hb dX6_add_31 (hm_rf_cat _) ?_
  obtain ⟨v10, ev10, hf⟩ := hm_b_s hf
  refine hm_get (ci := 6) (k := 12) (C := RX6) (T := TX6) (N := 16) hx hb hts hiX6 hown hK hI rfl (by decide) w2 (hm_gi_s ev10) dX6_add_32 ?_
  refine lv_iconst (v := (1 : Int32)) hx hb dX6_add_35 (by decide) ?_
  refine lv_iadd hx hb dX6_add_36 ?_
  obtain ⟨h11, eh11, hf⟩ := hm_b_s hf
  refine hm_put (ci := 6) (k := 12) (C := RX6) (T := TX6) (N := 16) hx hb hts hiX6 tyX6 tyX6_ok nmX6 hown hK hI rfl (by decide) w2 rfl eh11 rfl rfl dX6_add_37 (fun H locs hI => ?_)
  exact hm_vret_e hf hx hb hr hlocks hK hI (Nat.le_of_ble_eq_true rfl) (Nat.le_of_ble_eq_true rfl) dX6_add_40
/-! ==== X6_readSprite: BlitBoardModel.readSprite(II)I ==== -/
def fX6_readSprite_210 (K146 : Option Nat → Int32 → Int32 → Int32 → Int32 → Int32 → Int32 → Int32 → Int32 → Int32 → Int32 → Int32 → hm_H → Option (Int32 × hm_H)) (K196 : Option Nat → Int32 → Int32 → Int32 → Int32 → Int32 → Int32 → Int32 → Int32 → Int32 → Int32 → Int32 → Int32 → Int32 → hm_H → Option (Int32 × hm_H)) (x0 : Option Nat) (x1 : Int32) (x2 : Int32) (x3 : Int32) (x4 : Int32) (x5 : Int32) (x6 : Int32) (x7 : Int32) (x9 : Int32) (x10 : Int32) (x11 : Int32) (x12 : Int32) (x13 : Int32) (x14 : Int32) (s0 : Int32) (s1 : Int32) (h : hm_H) : Option (Int32 × hm_H) :=
  if s0 ≤ s1 then
    K146 x0 x1 x2 x3 x4 x5 x6 (x7 + (1 : Int32)) x9 x10 x11 (x12 + (1 : Int32)) h
  else
    hm_b (hm_rc 6 h x0) fun b15 =>
    hm_b (fX6_add b15 ((x5 + x12) + x14) x4 x13 h) fun h14 =>
    K196 x0 x1 x2 x3 x4 x5 x6 x7 x9 x10 x11 x12 x13 (x14 + (1 : Int32)) h14
def fX6_readSprite_196 (K146 : Option Nat → Int32 → Int32 → Int32 → Int32 → Int32 → Int32 → Int32 → Int32 → Int32 → Int32 → Int32 → hm_H → Option (Int32 × hm_H)) (K196 : Option Nat → Int32 → Int32 → Int32 → Int32 → Int32 → Int32 → Int32 → Int32 → Int32 → Int32 → Int32 → Int32 → Int32 → hm_H → Option (Int32 × hm_H)) (x0 : Option Nat) (x1 : Int32) (x2 : Int32) (x3 : Int32) (x4 : Int32) (x5 : Int32) (x6 : Int32) (x7 : Int32) (x9 : Int32) (x10 : Int32) (x11 : Int32) (x12 : Int32) (x13 : Int32) (x14 : Int32) (h : hm_H) : Option (Int32 × hm_H) :=
  if x10 = (2 : Int32) then
    fX6_readSprite_210 K146 K196 x0 x1 x2 x3 x4 x5 x6 x7 x9 x10 x11 x12 x13 x14 x9 x14 h
  else
    fX6_readSprite_210 K146 K196 x0 x1 x2 x3 x4 x5 x6 x7 x9 x10 x11 x12 x13 x14 (1 : Int32) x14 h
def fX6_readSprite_146 (K24 : Option Nat → Int32 → Int32 → Int32 → Int32 → Int32 → Int32 → Int32 → hm_H → Option (Int32 × hm_H)) (K146 : Option Nat → Int32 → Int32 → Int32 → Int32 → Int32 → Int32 → Int32 → Int32 → Int32 → Int32 → Int32 → hm_H → Option (Int32 × hm_H)) (x0 : Option Nat) (x1 : Int32) (x2 : Int32) (x3 : Int32) (x4 : Int32) (x5 : Int32) (x6 : Int32) (x7 : Int32) (x9 : Int32) (x10 : Int32) (x11 : Int32) (x12 : Int32) (h : hm_H) : Option (Int32 × hm_H) :=
  if x11 ≤ x12 then
    hm_let (x5 + x9) fun v8 =>
    K24 x0 x1 x2 x3 x4 v8 x6 x7 h
  else
    if x7 = x3 then
      some (x3 + (1 : Int32), h)
    else
      hm_b (hm_gq 6 9 h x0) fun v9 =>
      hm_b (hm_ai 0 h v9 (((5000 : Int32) * x1) + x7)) fun v10 =>
      hm_b (hm_rc 6 h x0) fun b12 =>
      hm_b2 (fX6_fits b12 x2 v10 h) fun v13 h11 =>
      if v13 = 0 then
        some (x7 + (1 : Int32), h11)
      else
        hm_loop (fun _ _ _ _ _ _ _ _ _ _ _ _ _ _ _ => none) (fX6_readSprite_196 K146) hm_fu x0 x1 x2 x3 x4 x5 x6 x7 x9 x10 x11 x12 v10 (0 : Int32) h11
def fX6_readSprite_141 (K24 : Option Nat → Int32 → Int32 → Int32 → Int32 → Int32 → Int32 → Int32 → hm_H → Option (Int32 × hm_H)) (x0 : Option Nat) (x1 : Int32) (x2 : Int32) (x3 : Int32) (x4 : Int32) (x5 : Int32) (x6 : Int32) (x7 : Int32) (x9 : Int32) (x10 : Int32) (s0 : Int32) (h : hm_H) : Option (Int32 × hm_H) :=
  hm_loop (fun _ _ _ _ _ _ _ _ _ _ _ _ _ => none) (fX6_readSprite_146 K24) hm_fu x0 x1 x2 x3 x4 x5 x6 x7 x9 x10 s0 (0 : Int32) h
def fX6_readSprite_97 (K24 : Option Nat → Int32 → Int32 → Int32 → Int32 → Int32 → Int32 → Int32 → hm_H → Option (Int32 × hm_H)) (x0 : Option Nat) (x1 : Int32) (x2 : Int32) (x3 : Int32) (x4 : Int32) (x5 : Int32) (x7 : Int32) (x8 : Int32) (x9 : Int32) (x10 : Int32) (h : hm_H) : Option (Int32 × hm_H) :=
  if x8 = 0 then
    K24 x0 x1 x2 x3 (x4 + (1 : Int32)) (0 : Int32) (0 : Int32) (x7 + (1 : Int32)) h
  else
    if x10 = 0 then
      fX6_readSprite_141 K24 x0 x1 x2 x3 x4 x5 (1 : Int32) (x7 + (1 : Int32)) x9 x10 (0 : Int32) h
    else
      if x10 = (1 : Int32) then
        fX6_readSprite_141 K24 x0 x1 x2 x3 x4 x5 (1 : Int32) (x7 + (1 : Int32)) x9 x10 x9 h
      else
        fX6_readSprite_141 K24 x0 x1 x2 x3 x4 x5 (1 : Int32) (x7 + (1 : Int32)) x9 x10 (1 : Int32) h
def fX6_readSprite_24 (K24 : Option Nat → Int32 → Int32 → Int32 → Int32 → Int32 → Int32 → Int32 → hm_H → Option (Int32 × hm_H)) (x0 : Option Nat) (x1 : Int32) (x2 : Int32) (x3 : Int32) (x4 : Int32) (x5 : Int32) (x6 : Int32) (x7 : Int32) (h : hm_H) : Option (Int32 × hm_H) :=
  if x3 ≤ x7 then
    if x6 = 0 then
      some ((0 : Int32), h)
    else
      some (x3 + (1 : Int32), h)
  else
    hm_b (hm_gq 6 9 h x0) fun v4 =>
    hm_b (hm_ai 0 h v4 (((5000 : Int32) * x1) + x7)) fun v5 =>
    hm_let (v5 &&& (63 : Int32)) fun v6 =>
    hm_let (v5 >>> ((6 : Int32) &&& 31)) fun v7 =>
    if x4 = (64 : Int32) then
      some (x7 + (1 : Int32), h)
    else
      if v5 ≤ 0 then
        fX6_readSprite_97 K24 x0 x1 x2 x3 x4 x5 x7 v5 v6 v7 h
      else
        if v7 = (3 : Int32) then
          some (x7 + (1 : Int32), h)
        else
          if v6 = 0 then
            some (x7 + (1 : Int32), h)
          else
            if (x5 + v6) ≤ (64 : Int32) then
              fX6_readSprite_97 K24 x0 x1 x2 x3 x4 x5 x7 v5 v6 v7 h
            else
              some (x7 + (1 : Int32), h)
def fX6_readSprite (t : Nat) (a1 : Int32) (a2 : Int32) (h0 : hm_H) : Option (Int32 × hm_H) :=
  hm_b (hm_p 6 12 (.int (0 : Int32)) h0 (some t)) fun h1 =>
  hm_b (hm_gq 6 8 h1 (some t)) fun v2 =>
  hm_b (hm_ai 0 h1 v2 a1) fun v3 =>
  hm_loop (fun _ _ _ _ _ _ _ _ _ => none) (fX6_readSprite_24) hm_fu (some t) a1 a2 v3 (0 : Int32) (0 : Int32) (0 : Int32) (0 : Int32) h1
set_option maxRecDepth 100000 in
set_option maxHeartbeats 8000000 in
theorem kX6_readSprite (l : Launch) (D : va_G) (kA : Nat → ClassId) (t : Nat) (a1 : Int32) (a2 : Int32) (h0 h' : hm_H) (r : Int32) (hf : fX6_readSprite t a1 a2 h0 = some (r, h')) : hm_C l yX6_readSprite wsX6_readSprite { frames := 1, cells := 0, slots := 0, locals := 23 } D vwCl kA (hm_ty kA) [.ref t, .int a1, .int a2] h0 (some (.int r)) h' 0 0 := by
  refine Met.ofW (cc := cX6_readSprite) (maxL := 15) (ret := (some .int)) (by decide) rfl ?_
  intro p e s m args below meth c s₁ B hml hv
  obtain ⟨hargs, hB⟩ := hv
  have hx := B.exec
  have hb := B.bytes
  have hr := B.returns
  have hts := atoms_spec (ws := wsX6_readSprite) B.pre
  have hown : s.vm.findClass RX6 = some m.cls := findClass_of_methodNamed B.named
  have hlocks := B.notSynchronized
  have hK := hB.2
  have hI := hm_start hB
  have w1 := hts (.fieldLink RX6 123 "BlitBoardModel" "drawn" "I") (by decide +kernel)
  have w2 := hts (.fieldLink RX6 33 "BlitBoardModel" "sizes" "[I") (by decide +kernel)
  have w3 := hts (.fieldLink RX6 36 "BlitBoardModel" "bytes" "[I") (by decide +kernel)
  have hiX6 : ∀ w ∈ wsX60, w ∈ wsX6_readSprite := by decide +kernel
  have B24 : ∀ (fu : Nat) (x0 : Option Nat) (x1 : Int32) (x2 : Int32) (x3 : Int32) (x4 : Int32) (x5 : Int32) (x6 : Int32) (x7 : Int32) (h : hm_H), hm_loop (fun _ _ _ _ _ _ _ _ _ => none) (fX6_readSprite_24) fu x0 x1 x2 x3 x4 x5 x6 x7 h = some (r, h') → ∀ (H : Heap) (locs : List Loc) (ls : Array Slot), hm_I D vwCl kA (hm_A h0) s.heap h H locs → lv_has ls 15 [(0, va_rf x0), (1, .int x1), (2, .int x2), (3, .int x3), (4, .int x4), (5, .int x5), (6, .int x6), (7, .int x7)] → W p l e (headSpec wsX6_readSprite { frames := 1, cells := 0, slots := 0, locals := 23 }).room s m args below meth c H locs 0 0 (MQ below (hm_Q D vwCl kA (hm_ty kA) h0 (some (.int r)) h') args s 0 0 (hm_A h0)) (F0 m 24 ls []) := by
    intro fu
    induction fu with
    | zero => intro x0 x1 x2 x3 x4 x5 x6 x7 h hf; cases hf
    | succ fu ih24 =>
      rw [hm_loop_s]
      generalize hm_loop (fun _ _ _ _ _ _ _ _ _ => none) (fX6_readSprite_24) fu = K24 at ih24 ⊢
      have B146 : ∀ (fu : Nat) (x0 : Option Nat) (x1 : Int32) (x2 : Int32) (x3 : Int32) (x4 : Int32) (x5 : Int32) (x6 : Int32) (x7 : Int32) (x9 : Int32) (x10 : Int32) (x11 : Int32) (x12 : Int32) (h : hm_H), hm_loop (fun _ _ _ _ _ _ _ _ _ _ _ _ _ => none) (fX6_readSprite_146 K24) fu x0 x1 x2 x3 x4 x5 x6 x7 x9 x10 x11 x12 h = some (r, h') → ∀ (H : Heap) (locs : List Loc) (ls : Array Slot), hm_I D vwCl kA (hm_A h0) s.heap h H locs → lv_has ls 15 [(0, va_rf x0), (1, .int x1), (2, .int x2), (3, .int x3), (4, .int x4), (5, .int x5), (6, .int x6), (7, .int x7), (9, .int x9), (10, .int x10), (11, .int x11), (12, .int x12)] → W p l e (headSpec wsX6_readSprite { frames := 1, cells := 0, slots := 0, locals := 23 }).room s m args below meth c H locs 0 0 (MQ below (hm_Q D vwCl kA (hm_ty kA) h0 (some (.int r)) h') args s 0 0 (hm_A h0)) (F0 m 146 ls []) := by
        intro fu
        induction fu with
        | zero => intro x0 x1 x2 x3 x4 x5 x6 x7 x9 x10 x11 x12 h hf; cases hf
        | succ fu ih146 =>
          rw [hm_loop_s]
          generalize hm_loop (fun _ _ _ _ _ _ _ _ _ _ _ _ _ => none) (fX6_readSprite_146 K24) fu = K146 at ih146 ⊢
          have B196 : ∀ (fu : Nat) (x0 : Option Nat) (x1 : Int32) (x2 : Int32) (x3 : Int32) (x4 : Int32) (x5 : Int32) (x6 : Int32) (x7 : Int32) (x9 : Int32) (x10 : Int32) (x11 : Int32) (x12 : Int32) (x13 : Int32) (x14 : Int32) (h : hm_H), hm_loop (fun _ _ _ _ _ _ _ _ _ _ _ _ _ _ _ => none) (fX6_readSprite_196 K146) fu x0 x1 x2 x3 x4 x5 x6 x7 x9 x10 x11 x12 x13 x14 h = some (r, h') → ∀ (H : Heap) (locs : List Loc) (ls : Array Slot), hm_I D vwCl kA (hm_A h0) s.heap h H locs → lv_has ls 15 [(0, va_rf x0), (1, .int x1), (2, .int x2), (3, .int x3), (4, .int x4), (5, .int x5), (6, .int x6), (7, .int x7), (9, .int x9), (10, .int x10), (11, .int x11), (12, .int x12), (13, .int x13), (14, .int x14)] → W p l e (headSpec wsX6_readSprite { frames := 1, cells := 0, slots := 0, locals := 23 }).room s m args below meth c H locs 0 0 (MQ below (hm_Q D vwCl kA (hm_ty kA) h0 (some (.int r)) h') args s 0 0 (hm_A h0)) (F0 m 196 ls []) := by
            intro fu
            induction fu with
            | zero => intro x0 x1 x2 x3 x4 x5 x6 x7 x9 x10 x11 x12 x13 x14 h hf; cases hf
            | succ fu ih196 =>
              rw [hm_loop_s]
              generalize hm_loop (fun _ _ _ _ _ _ _ _ _ _ _ _ _ _ _ => none) (fX6_readSprite_196 K146) fu = K196 at ih196 ⊢
              have B210 : ∀ (x0 : Option Nat) (x1 : Int32) (x2 : Int32) (x3 : Int32) (x4 : Int32) (x5 : Int32) (x6 : Int32) (x7 : Int32) (x9 : Int32) (x10 : Int32) (x11 : Int32) (x12 : Int32) (x13 : Int32) (x14 : Int32) (s0 : Int32) (s1 : Int32) (h : hm_H), fX6_readSprite_210 K146 K196 x0 x1 x2 x3 x4 x5 x6 x7 x9 x10 x11 x12 x13 x14 s0 s1 h = some (r, h') → ∀ (H : Heap) (locs : List Loc) (ls : Array Slot), hm_I D vwCl kA (hm_A h0) s.heap h H locs → lv_has ls 15 [(0, va_rf x0), (1, .int x1), (2, .int x2), (3, .int x3), (4, .int x4), (5, .int x5), (6, .int x6), (7, .int x7), (9, .int x9), (10, .int x10), (11, .int x11), (12, .int x12), (13, .int x13), (14, .int x14)] → W p l e (headSpec wsX6_readSprite { frames := 1, cells := 0, slots := 0, locals := 23 }).room s m args below meth c H locs 0 0 (MQ below (hm_Q D vwCl kA (hm_ty kA) h0 (some (.int r)) h') args s 0 0 (hm_A h0)) (F0 m 210 ls [.int s0, .int s1]) := by
                intro x0 x1 x2 x3 x4 x5 x6 x7 x9 x10 x11 x12 x13 x14 s0 s1 h hf H locs ls hI hl
                unfold fX6_readSprite_210 at hf
                refine lv_icmp_ge (tgt := 235) hx hb dX6_readSprite_210 (by decide) (fun c => ?_) (fun c => ?_)
                · rw [if_pos c] at hf
                  refine lv_iinc (v := x7 + (1 : Int32)) (lv' := [(7, .int (x7 + (1 : Int32))), (0, va_rf x0), (1, .int x1), (2, .int x2), (3, .int x3), (4, .int x4), (5, .int x5), (6, .int x6), (9, .int x9), (10, .int x10), (11, .int x11), (12, .int x12), (13, .int x13), (14, .int x14)]) hx hb dX6_readSprite_235 hl (k := 7) rfl rfl (by decide) rfl (fun ls hl => ?_)
                  refine lv_iinc (v := x12 + (1 : Int32)) (lv' := [(12, .int (x12 + (1 : Int32))), (7, .int (x7 + (1 : Int32))), (0, va_rf x0), (1, .int x1), (2, .int x2), (3, .int x3), (4, .int x4), (5, .int x5), (6, .int x6), (9, .int x9), (10, .int x10), (11, .int x11), (13, .int x13), (14, .int x14)]) hx hb dX6_readSprite_238 hl (k := 11) rfl rfl (by decide) rfl (fun ls hl => ?_)
                  refine lv_goto (tgt := 146) hx hb dX6_readSprite_241 (by decide) ?_
                  exact ih146 x0 x1 x2 x3 x4 x5 x6 (x7 + (1 : Int32)) x9 x10 x11 (x12 + (1 : Int32)) h hf _ _ _ hI (lv_sub hl [2, 3, 4, 5, 6, 7, 8, 1, 9, 10, 11, 0] rfl)
                · rw [if_neg c] at hf
                  refine hm_aload_n hx hb dX6_readSprite_213 rfl (lv_at hl 0 rfl) ?_
                  refine lv_iload hx hb dX6_readSprite_214 (lv_at hl 5 rfl) ?_
                  refine lv_iload hx hb dX6_readSprite_216 (lv_at hl 11 rfl) ?_
                  refine lv_iadd hx hb dX6_readSprite_218 ?_
                  refine lv_iload hx hb dX6_readSprite_219 (lv_at hl 13 rfl) ?_
                  refine lv_iadd hx hb dX6_readSprite_221 ?_
                  refine lv_iload hx hb dX6_readSprite_222 (lv_at hl 4 rfl) ?_
                  refine lv_iload hx hb dX6_readSprite_224 (lv_at hl 12 rfl) ?_
                  obtain ⟨b15, eb15, hf⟩ := hm_b_s hf
                  obtain ⟨h14, eh14, hf⟩ := hm_b_s hf
                  refine hm_cV (As := [.int ((x5 + x12) + x14), .int x4, .int x13]) (rest := []) ⟨hx, hb, hml, hown, hts⟩ hK hI eb15 rfl rfl (kX6_add l D kA b15 ((x5 + x12) + x14) x4 x13 h h14 eh14) (cwV 3 hts gX6_readSprite_X6_add rfl rfl rfl (by decide +kernel) ⟨Nat.le_of_ble_eq_true rfl, Nat.le_of_ble_eq_true rfl⟩) rfl hl.1 rfl (by first | exact Nat.le_of_ble_eq_true rfl | (simp only [List.map, hm_rf_cat, hm_ci, hm_cl, List.sum_cons, List.sum_nil] <;> decide)) dX6_readSprite_226 ⟨Nat.le_of_ble_eq_true rfl, Nat.le_of_ble_eq_true rfl⟩ (fun H locs hI => ?_)
                  refine W.eq (g2 := F0 m 229 ls []) rfl ?_
                  refine lv_iinc (v := x14 + (1 : Int32)) (lv' := [(14, .int (x14 + (1 : Int32))), (0, va_rf x0), (1, .int x1), (2, .int x2), (3, .int x3), (4, .int x4), (5, .int x5), (6, .int x6), (7, .int x7), (9, .int x9), (10, .int x10), (11, .int x11), (12, .int x12), (13, .int x13)]) hx hb dX6_readSprite_229 hl (k := 13) rfl rfl (by decide) rfl (fun ls hl => ?_)
                  refine lv_goto (tgt := 196) hx hb dX6_readSprite_232 (by decide) ?_
                  exact ih196 x0 x1 x2 x3 x4 x5 x6 x7 x9 x10 x11 x12 x13 (x14 + (1 : Int32)) h14 hf _ _ _ hI (lv_sub hl [1, 2, 3, 4, 5, 6, 7, 8, 9, 10, 11, 12, 13, 0] rfl)
              intro x0 x1 x2 x3 x4 x5 x6 x7 x9 x10 x11 x12 x13 x14 h hf H locs ls hI hl
              unfold fX6_readSprite_196 at hf
              refine lv_iload hx hb dX6_readSprite_196 (lv_at hl 13 rfl) ?_
              refine lv_iload hx hb dX6_readSprite_198 (lv_at hl 9 rfl) ?_
              refine lv_iconst (v := (2 : Int32)) hx hb dX6_readSprite_200 (by decide) ?_
              refine lv_icmp_ne (tgt := 209) hx hb dX6_readSprite_201 (by decide) (fun c => ?_) (fun c => ?_)
              · rw [if_neg c] at hf
                refine lv_iconst (v := (1 : Int32)) hx hb dX6_readSprite_209 (by decide) ?_
                exact B210 x0 x1 x2 x3 x4 x5 x6 x7 x9 x10 x11 x12 x13 x14 (1 : Int32) x14 h hf _ _ _ hI (lv_sub hl [0, 1, 2, 3, 4, 5, 6, 7, 8, 9, 10, 11, 12, 13] rfl)
              · rw [if_pos c] at hf
                refine lv_iload hx hb dX6_readSprite_204 (lv_at hl 8 rfl) ?_
                refine lv_goto (tgt := 210) hx hb dX6_readSprite_206 (by decide) ?_
                exact B210 x0 x1 x2 x3 x4 x5 x6 x7 x9 x10 x11 x12 x13 x14 x9 x14 h hf _ _ _ hI (lv_sub hl [0, 1, 2, 3, 4, 5, 6, 7, 8, 9, 10, 11, 12, 13] rfl)
          intro x0 x1 x2 x3 x4 x5 x6 x7 x9 x10 x11 x12 h hf H locs ls hI hl
          unfold fX6_readSprite_146 at hf
          refine lv_iload hx hb dX6_readSprite_146 (lv_at hl 11 rfl) ?_
          refine lv_iload hx hb dX6_readSprite_148 (lv_at hl 10 rfl) ?_
          refine lv_icmp_ge (tgt := 244) hx hb dX6_readSprite_150 (by decide) (fun c => ?_) (fun c => ?_)
          · rw [if_pos c] at hf
            refine lv_iload hx hb dX6_readSprite_244 (lv_at hl 5 rfl) ?_
            refine lv_iload hx hb dX6_readSprite_246 (lv_at hl 8 rfl) ?_
            refine lv_iadd hx hb dX6_readSprite_248 ?_
            obtain ⟨v8, ev8, hf⟩ := hm_let_s hf
            refine hm_ti ev8 ?_
            refine lv_istore (lv' := [(5, .int v8), (0, va_rf x0), (1, .int x1), (2, .int x2), (3, .int x3), (4, .int x4), (6, .int x6), (7, .int x7), (9, .int x9), (10, .int x10), (11, .int x11), (12, .int x12)]) hx hb dX6_readSprite_249 hl (by decide) rfl (fun ls hl => ?_)
            refine lv_goto (tgt := 24) hx hb dX6_readSprite_251 (by decide) ?_
            exact ih24 x0 x1 x2 x3 x4 v8 x6 x7 h hf _ _ _ hI (lv_sub hl [1, 2, 3, 4, 5, 0, 6, 7] rfl)
          · rw [if_neg c] at hf
            refine lv_iload hx hb dX6_readSprite_153 (lv_at hl 7 rfl) ?_
            refine lv_iload_n hx hb dX6_readSprite_155 rfl (lv_at hl 3 rfl) ?_
            refine lv_icmp_ne (tgt := 163) hx hb dX6_readSprite_156 (by decide) (fun c => ?_) (fun c => ?_)
            · rw [if_neg c] at hf
              refine hm_aload_n hx hb dX6_readSprite_163 rfl (lv_at hl 0 rfl) ?_
              obtain ⟨v9, ev9, hf⟩ := hm_b_s hf
              refine hm_get (ci := 6) (k := 9) (C := RX6) (T := TX6) (N := 16) hx hb hts hiX6 hown hK hI rfl (by decide) w3 (hm_gq_s ev9) dX6_readSprite_164 ?_
              refine lv_sipush (v := (5000 : Int32)) hx hb dX6_readSprite_167 (by decide) ?_
              refine lv_iload_n hx hb dX6_readSprite_170 rfl (lv_at hl 1 rfl) ?_
              refine lv_imul hx hb dX6_readSprite_171 ?_
              refine lv_iload hx hb dX6_readSprite_172 (lv_at hl 7 rfl) ?_
              refine lv_iadd hx hb dX6_readSprite_174 ?_
              obtain ⟨v10, ev10, hf⟩ := hm_b_s hf
              refine hm_iald (kd := 0) (t0 := 0) hx hb hK hI rfl ev10 dX6_readSprite_175 ?_
              refine lv_istore (lv' := [(13, .int v10), (0, va_rf x0), (1, .int x1), (2, .int x2), (3, .int x3), (4, .int x4), (5, .int x5), (6, .int x6), (7, .int x7), (9, .int x9), (10, .int x10), (11, .int x11), (12, .int x12)]) hx hb dX6_readSprite_176 hl (by decide) rfl (fun ls hl => ?_)
              refine hm_aload_n hx hb dX6_readSprite_178 rfl (lv_at hl 1 rfl) ?_
              refine lv_iload_n hx hb dX6_readSprite_179 rfl (lv_at hl 3 rfl) ?_
              refine lv_iload hx hb dX6_readSprite_180 (lv_at hl 0 rfl) ?_
              obtain ⟨b12, eb12, hf⟩ := hm_b_s hf
              obtain ⟨v13, h11, eh11, hf⟩ := hm_b2_s hf
              refine hm_cV (As := [.int x2, .int v10]) (rest := []) ⟨hx, hb, hml, hown, hts⟩ hK hI eb12 rfl rfl (kX6_fits l D kA b12 x2 v10 h h11 v13 eh11) (cwV 2 hts gX6_readSprite_X6_fits rfl rfl rfl (by decide +kernel) ⟨Nat.le_of_ble_eq_true rfl, Nat.le_of_ble_eq_true rfl⟩) rfl hl.1 rfl (by first | exact Nat.le_of_ble_eq_true rfl | (simp only [List.map, hm_rf_cat, hm_ci, hm_cl, List.sum_cons, List.sum_nil] <;> decide)) dX6_readSprite_182 ⟨Nat.le_of_ble_eq_true rfl, Nat.le_of_ble_eq_true rfl⟩ (fun H locs hI => ?_)
              refine lv_if_ne (tgt := 193) hx hb dX6_readSprite_185 (by decide) (fun c => ?_) (fun c => ?_)
              · rw [if_neg c] at hf
                refine lv_iconst (v := (0 : Int32)) hx hb dX6_readSprite_193 (by decide) ?_
                refine lv_istore (lv' := [(14, .int (0 : Int32)), (13, .int v10), (0, va_rf x0), (1, .int x1), (2, .int x2), (3, .int x3), (4, .int x4), (5, .int x5), (6, .int x6), (7, .int x7), (9, .int x9), (10, .int x10), (11, .int x11), (12, .int x12)]) hx hb dX6_readSprite_194 hl (by decide) rfl (fun ls hl => ?_)
                exact B196 hm_fu x0 x1 x2 x3 x4 x5 x6 x7 x9 x10 x11 x12 v10 (0 : Int32) h11 hf _ _ _ hI (lv_sub hl [2, 3, 4, 5, 6, 7, 8, 9, 10, 11, 12, 13, 1, 0] rfl)
              · rw [if_pos c] at hf
                refine lv_iload hx hb dX6_readSprite_188 (lv_at hl 8 rfl) ?_
                refine lv_iconst (v := (1 : Int32)) hx hb dX6_readSprite_190 (by decide) ?_
                refine lv_iadd hx hb dX6_readSprite_191 ?_
                exact hm_iret_e hf hx hb hr hlocks hK hI (Nat.le_of_ble_eq_true rfl) (Nat.le_of_ble_eq_true rfl) dX6_readSprite_192
            · rw [if_pos c] at hf
              refine lv_iload_n hx hb dX6_readSprite_159 rfl (lv_at hl 3 rfl) ?_
              refine lv_iconst (v := (1 : Int32)) hx hb dX6_readSprite_160 (by decide) ?_
              refine lv_iadd hx hb dX6_readSprite_161 ?_
              exact hm_iret_e hf hx hb hr hlocks hK hI (Nat.le_of_ble_eq_true rfl) (Nat.le_of_ble_eq_true rfl) dX6_readSprite_162
      have B141 : ∀ (x0 : Option Nat) (x1 : Int32) (x2 : Int32) (x3 : Int32) (x4 : Int32) (x5 : Int32) (x6 : Int32) (x7 : Int32) (x9 : Int32) (x10 : Int32) (s0 : Int32) (h : hm_H), fX6_readSprite_141 K24 x0 x1 x2 x3 x4 x5 x6 x7 x9 x10 s0 h = some (r, h') → ∀ (H : Heap) (locs : List Loc) (ls : Array Slot), hm_I D vwCl kA (hm_A h0) s.heap h H locs → lv_has ls 15 [(0, va_rf x0), (1, .int x1), (2, .int x2), (3, .int x3), (4, .int x4), (5, .int x5), (6, .int x6), (7, .int x7), (9, .int x9), (10, .int x10)] → W p l e (headSpec wsX6_readSprite { frames := 1, cells := 0, slots := 0, locals := 23 }).room s m args below meth c H locs 0 0 (MQ below (hm_Q D vwCl kA (hm_ty kA) h0 (some (.int r)) h') args s 0 0 (hm_A h0)) (F0 m 141 ls [.int s0]) := by
        intro x0 x1 x2 x3 x4 x5 x6 x7 x9 x10 s0 h hf H locs ls hI hl
        unfold fX6_readSprite_141 at hf
        refine lv_istore (lv' := [(11, .int s0), (0, va_rf x0), (1, .int x1), (2, .int x2), (3, .int x3), (4, .int x4), (5, .int x5), (6, .int x6), (7, .int x7), (9, .int x9), (10, .int x10)]) hx hb dX6_readSprite_141 hl (by decide) rfl (fun ls hl => ?_)
        refine lv_iconst (v := (0 : Int32)) hx hb dX6_readSprite_143 (by decide) ?_
        refine lv_istore (lv' := [(12, .int (0 : Int32)), (11, .int s0), (0, va_rf x0), (1, .int x1), (2, .int x2), (3, .int x3), (4, .int x4), (5, .int x5), (6, .int x6), (7, .int x7), (9, .int x9), (10, .int x10)]) hx hb dX6_readSprite_144 hl (by decide) rfl (fun ls hl => ?_)
        exact B146 hm_fu x0 x1 x2 x3 x4 x5 x6 x7 x9 x10 s0 (0 : Int32) h hf _ _ _ hI (lv_sub hl [2, 3, 4, 5, 6, 7, 8, 9, 10, 11, 1, 0] rfl)
      have B97 : ∀ (x0 : Option Nat) (x1 : Int32) (x2 : Int32) (x3 : Int32) (x4 : Int32) (x5 : Int32) (x7 : Int32) (x8 : Int32) (x9 : Int32) (x10 : Int32) (h : hm_H), fX6_readSprite_97 K24 x0 x1 x2 x3 x4 x5 x7 x8 x9 x10 h = some (r, h') → ∀ (H : Heap) (locs : List Loc) (ls : Array Slot), hm_I D vwCl kA (hm_A h0) s.heap h H locs → lv_has ls 15 [(0, va_rf x0), (1, .int x1), (2, .int x2), (3, .int x3), (4, .int x4), (5, .int x5), (7, .int x7), (8, .int x8), (9, .int x9), (10, .int x10)] → W p l e (headSpec wsX6_readSprite { frames := 1, cells := 0, slots := 0, locals := 23 }).room s m args below meth c H locs 0 0 (MQ below (hm_Q D vwCl kA (hm_ty kA) h0 (some (.int r)) h') args s 0 0 (hm_A h0)) (F0 m 97 ls []) := by
        intro x0 x1 x2 x3 x4 x5 x7 x8 x9 x10 h hf H locs ls hI hl
        unfold fX6_readSprite_97 at hf
        refine lv_iinc (v := x7 + (1 : Int32)) (lv' := [(7, .int (x7 + (1 : Int32))), (0, va_rf x0), (1, .int x1), (2, .int x2), (3, .int x3), (4, .int x4), (5, .int x5), (8, .int x8), (9, .int x9), (10, .int x10)]) hx hb dX6_readSprite_97 hl (k := 6) rfl rfl (by decide) rfl (fun ls hl => ?_)
        refine lv_iload hx hb dX6_readSprite_100 (lv_at hl 7 rfl) ?_
        refine lv_if_ne (tgt := 117) hx hb dX6_readSprite_102 (by decide) (fun c => ?_) (fun c => ?_)
        · rw [if_neg c] at hf
          refine lv_iconst (v := (1 : Int32)) hx hb dX6_readSprite_117 (by decide) ?_
          refine lv_istore (lv' := [(6, .int (1 : Int32)), (7, .int (x7 + (1 : Int32))), (0, va_rf x0), (1, .int x1), (2, .int x2), (3, .int x3), (4, .int x4), (5, .int x5), (8, .int x8), (9, .int x9), (10, .int x10)]) hx hb dX6_readSprite_118 hl (by decide) rfl (fun ls hl => ?_)
          refine lv_iload hx hb dX6_readSprite_120 (lv_at hl 10 rfl) ?_
          refine lv_if_ne (tgt := 129) hx hb dX6_readSprite_122 (by decide) (fun c => ?_) (fun c => ?_)
          · rw [if_neg c] at hf
            refine lv_iload hx hb dX6_readSprite_129 (lv_at hl 10 rfl) ?_
            refine lv_iconst (v := (1 : Int32)) hx hb dX6_readSprite_131 (by decide) ?_
            refine lv_icmp_ne (tgt := 140) hx hb dX6_readSprite_132 (by decide) (fun c => ?_) (fun c => ?_)
            · rw [if_neg c] at hf
              refine lv_iconst (v := (1 : Int32)) hx hb dX6_readSprite_140 (by decide) ?_
              exact B141 x0 x1 x2 x3 x4 x5 (1 : Int32) (x7 + (1 : Int32)) x9 x10 (1 : Int32) h hf _ _ _ hI (lv_sub hl [2, 3, 4, 5, 6, 7, 0, 1, 9, 10] rfl)
            · rw [if_pos c] at hf
              refine lv_iload hx hb dX6_readSprite_135 (lv_at hl 9 rfl) ?_
              refine lv_goto (tgt := 141) hx hb dX6_readSprite_137 (by decide) ?_
              exact B141 x0 x1 x2 x3 x4 x5 (1 : Int32) (x7 + (1 : Int32)) x9 x10 x9 h hf _ _ _ hI (lv_sub hl [2, 3, 4, 5, 6, 7, 0, 1, 9, 10] rfl)
          · rw [if_pos c] at hf
            refine lv_iconst (v := (0 : Int32)) hx hb dX6_readSprite_125 (by decide) ?_
            refine lv_goto (tgt := 141) hx hb dX6_readSprite_126 (by decide) ?_
            exact B141 x0 x1 x2 x3 x4 x5 (1 : Int32) (x7 + (1 : Int32)) x9 x10 (0 : Int32) h hf _ _ _ hI (lv_sub hl [2, 3, 4, 5, 6, 7, 0, 1, 9, 10] rfl)
        · rw [if_pos c] at hf
          refine lv_iinc (v := x4 + (1 : Int32)) (lv' := [(4, .int (x4 + (1 : Int32))), (7, .int (x7 + (1 : Int32))), (0, va_rf x0), (1, .int x1), (2, .int x2), (3, .int x3), (5, .int x5), (8, .int x8), (9, .int x9), (10, .int x10)]) hx hb dX6_readSprite_105 hl (k := 5) rfl rfl (by decide) rfl (fun ls hl => ?_)
          refine lv_iconst (v := (0 : Int32)) hx hb dX6_readSprite_108 (by decide) ?_
          refine lv_istore (lv' := [(5, .int (0 : Int32)), (4, .int (x4 + (1 : Int32))), (7, .int (x7 + (1 : Int32))), (0, va_rf x0), (1, .int x1), (2, .int x2), (3, .int x3), (8, .int x8), (9, .int x9), (10, .int x10)]) hx hb dX6_readSprite_109 hl (by decide) rfl (fun ls hl => ?_)
          refine lv_iconst (v := (0 : Int32)) hx hb dX6_readSprite_111 (by decide) ?_
          refine lv_istore (lv' := [(6, .int (0 : Int32)), (5, .int (0 : Int32)), (4, .int (x4 + (1 : Int32))), (7, .int (x7 + (1 : Int32))), (0, va_rf x0), (1, .int x1), (2, .int x2), (3, .int x3), (8, .int x8), (9, .int x9), (10, .int x10)]) hx hb dX6_readSprite_112 hl (by decide) rfl (fun ls hl => ?_)
          refine lv_goto (tgt := 24) hx hb dX6_readSprite_114 (by decide) ?_
          exact ih24 x0 x1 x2 x3 (x4 + (1 : Int32)) (0 : Int32) (0 : Int32) (x7 + (1 : Int32)) h hf _ _ _ hI (lv_sub hl [4, 5, 6, 7, 2, 1, 0, 3] rfl)
      intro x0 x1 x2 x3 x4 x5 x6 x7 h hf H locs ls hI hl
      unfold fX6_readSprite_24 at hf
      refine lv_iload hx hb dX6_readSprite_24 (lv_at hl 7 rfl) ?_
      refine lv_iload_n hx hb dX6_readSprite_26 rfl (lv_at hl 3 rfl) ?_
      refine lv_icmp_ge (tgt := 254) hx hb dX6_readSprite_27 (by decide) (fun c => ?_) (fun c => ?_)
      · rw [if_pos c] at hf
        refine lv_iload hx hb dX6_readSprite_254 (lv_at hl 6 rfl) ?_
        refine lv_if_eq (tgt := 265) hx hb dX6_readSprite_256 (by decide) (fun c => ?_) (fun c => ?_)
        · rw [if_pos c] at hf
          refine lv_iconst (v := (0 : Int32)) hx hb dX6_readSprite_265 (by decide) ?_
          exact hm_iret_e hf hx hb hr hlocks hK hI (Nat.le_of_ble_eq_true rfl) (Nat.le_of_ble_eq_true rfl) dX6_readSprite_266
        · rw [if_neg c] at hf
          refine lv_iload_n hx hb dX6_readSprite_259 rfl (lv_at hl 3 rfl) ?_
          refine lv_iconst (v := (1 : Int32)) hx hb dX6_readSprite_260 (by decide) ?_
          refine lv_iadd hx hb dX6_readSprite_261 ?_
          refine lv_goto (tgt := 266) hx hb dX6_readSprite_262 (by decide) ?_
          exact hm_iret_e hf hx hb hr hlocks hK hI (Nat.le_of_ble_eq_true rfl) (Nat.le_of_ble_eq_true rfl) dX6_readSprite_266
      · rw [if_neg c] at hf
        refine hm_aload_n hx hb dX6_readSprite_30 rfl (lv_at hl 0 rfl) ?_
        obtain ⟨v4, ev4, hf⟩ := hm_b_s hf
        refine hm_get (ci := 6) (k := 9) (C := RX6) (T := TX6) (N := 16) hx hb hts hiX6 hown hK hI rfl (by decide) w3 (hm_gq_s ev4) dX6_readSprite_31 ?_
        refine lv_sipush (v := (5000 : Int32)) hx hb dX6_readSprite_34 (by decide) ?_
        refine lv_iload_n hx hb dX6_readSprite_37 rfl (lv_at hl 1 rfl) ?_
        refine lv_imul hx hb dX6_readSprite_38 ?_
        refine lv_iload hx hb dX6_readSprite_39 (lv_at hl 7 rfl) ?_
        refine lv_iadd hx hb dX6_readSprite_41 ?_
        obtain ⟨v5, ev5, hf⟩ := hm_b_s hf
        refine hm_iald (kd := 0) (t0 := 0) hx hb hK hI rfl ev5 dX6_readSprite_42 ?_
        refine lv_istore (lv' := [(8, .int v5), (0, va_rf x0), (1, .int x1), (2, .int x2), (3, .int x3), (4, .int x4), (5, .int x5), (6, .int x6), (7, .int x7)]) hx hb dX6_readSprite_43 hl (by decide) rfl (fun ls hl => ?_)
        refine lv_iload hx hb dX6_readSprite_45 (lv_at hl 0 rfl) ?_
        refine lv_bipush (v := (63 : Int32)) hx hb dX6_readSprite_47 (by decide) ?_
        refine lv_iand hx hb dX6_readSprite_49 ?_
        obtain ⟨v6, ev6, hf⟩ := hm_let_s hf
        refine hm_ti ev6 ?_
        refine lv_istore (lv' := [(9, .int v6), (8, .int v5), (0, va_rf x0), (1, .int x1), (2, .int x2), (3, .int x3), (4, .int x4), (5, .int x5), (6, .int x6), (7, .int x7)]) hx hb dX6_readSprite_50 hl (by decide) rfl (fun ls hl => ?_)
        refine lv_iload hx hb dX6_readSprite_52 (lv_at hl 1 rfl) ?_
        refine lv_bipush (v := (6 : Int32)) hx hb dX6_readSprite_54 (by decide) ?_
        refine lv_ishr hx hb dX6_readSprite_56 ?_
        obtain ⟨v7, ev7, hf⟩ := hm_let_s hf
        refine hm_ti ev7 ?_
        refine lv_istore (lv' := [(10, .int v7), (9, .int v6), (8, .int v5), (0, va_rf x0), (1, .int x1), (2, .int x2), (3, .int x3), (4, .int x4), (5, .int x5), (6, .int x6), (7, .int x7)]) hx hb dX6_readSprite_57 hl (by decide) rfl (fun ls hl => ?_)
        refine lv_iload hx hb dX6_readSprite_59 (lv_at hl 7 rfl) ?_
        refine lv_bipush (v := (64 : Int32)) hx hb dX6_readSprite_61 (by decide) ?_
        refine lv_icmp_eq (tgt := 92) hx hb dX6_readSprite_63 (by decide) (fun c => ?_) (fun c => ?_)
        · rw [if_pos c] at hf
          refine lv_iload hx hb dX6_readSprite_92 (lv_at hl 10 rfl) ?_
          refine lv_iconst (v := (1 : Int32)) hx hb dX6_readSprite_94 (by decide) ?_
          refine lv_iadd hx hb dX6_readSprite_95 ?_
          exact hm_iret_e hf hx hb hr hlocks hK hI (Nat.le_of_ble_eq_true rfl) (Nat.le_of_ble_eq_true rfl) dX6_readSprite_96
        · rw [if_neg c] at hf
          refine lv_iload hx hb dX6_readSprite_66 (lv_at hl 2 rfl) ?_
          refine lv_if_le (tgt := 97) hx hb dX6_readSprite_68 (by decide) (fun c => ?_) (fun c => ?_)
          · rw [if_pos c] at hf
            exact B97 x0 x1 x2 x3 x4 x5 x7 v5 v6 v7 h hf _ _ _ hI (lv_sub hl [3, 4, 5, 6, 7, 8, 10, 2, 1, 0] rfl)
          · rw [if_neg c] at hf
            refine lv_iload hx hb dX6_readSprite_71 (lv_at hl 0 rfl) ?_
            refine lv_iconst (v := (3 : Int32)) hx hb dX6_readSprite_73 (by decide) ?_
            refine lv_icmp_eq (tgt := 92) hx hb dX6_readSprite_74 (by decide) (fun c => ?_) (fun c => ?_)
            · rw [if_pos c] at hf
              refine lv_iload hx hb dX6_readSprite_92 (lv_at hl 10 rfl) ?_
              refine lv_iconst (v := (1 : Int32)) hx hb dX6_readSprite_94 (by decide) ?_
              refine lv_iadd hx hb dX6_readSprite_95 ?_
              exact hm_iret_e hf hx hb hr hlocks hK hI (Nat.le_of_ble_eq_true rfl) (Nat.le_of_ble_eq_true rfl) dX6_readSprite_96
            · rw [if_neg c] at hf
              refine lv_iload hx hb dX6_readSprite_77 (lv_at hl 1 rfl) ?_
              refine lv_if_eq (tgt := 92) hx hb dX6_readSprite_79 (by decide) (fun c => ?_) (fun c => ?_)
              · rw [if_pos c] at hf
                refine lv_iload hx hb dX6_readSprite_92 (lv_at hl 10 rfl) ?_
                refine lv_iconst (v := (1 : Int32)) hx hb dX6_readSprite_94 (by decide) ?_
                refine lv_iadd hx hb dX6_readSprite_95 ?_
                exact hm_iret_e hf hx hb hr hlocks hK hI (Nat.le_of_ble_eq_true rfl) (Nat.le_of_ble_eq_true rfl) dX6_readSprite_96
              · rw [if_neg c] at hf
                refine lv_iload hx hb dX6_readSprite_82 (lv_at hl 8 rfl) ?_
                refine lv_iload hx hb dX6_readSprite_84 (lv_at hl 1 rfl) ?_
                refine lv_iadd hx hb dX6_readSprite_86 ?_
                refine lv_bipush (v := (64 : Int32)) hx hb dX6_readSprite_87 (by decide) ?_
                refine lv_icmp_le (tgt := 97) hx hb dX6_readSprite_89 (by decide) (fun c => ?_) (fun c => ?_)
                · rw [if_pos c] at hf
                  exact B97 x0 x1 x2 x3 x4 x5 x7 v5 v6 v7 h hf _ _ _ hI (lv_sub hl [3, 4, 5, 6, 7, 8, 10, 2, 1, 0] rfl)
                · rw [if_neg c] at hf
                  refine lv_iload hx hb dX6_readSprite_92 (lv_at hl 10 rfl) ?_
                  refine lv_iconst (v := (1 : Int32)) hx hb dX6_readSprite_94 (by decide) ?_
                  refine lv_iadd hx hb dX6_readSprite_95 ?_
                  exact hm_iret_e hf hx hb hr hlocks hK hI (Nat.le_of_ble_eq_true rfl) (Nat.le_of_ble_eq_true rfl) dX6_readSprite_96
  rw [show entryFrame m args 15 = entryFrame m ([.ref t, .int a1, .int a2] : List Value).toArray 15 from by rw [hargs]]
  have hl := lv_entry ([.ref t, .int a1, .int a2]) (n := 15) (Nat.le_of_ble_eq_true rfl)
  rw [lg_entry_eq]
  generalize (lg_sl ([.ref t, .int a1, .int a2]) ++ List.replicate (15 - (lg_sl ([.ref t, .int a1, .int a2])).length) Slot.unset).toArray = ls at hl ⊢
  have hl : lv_has ls 15 [(0, va_rf (some t)), (1, .int a1), (2, .int a2)] := hl
  unfold fX6_readSprite at hf
  refine hm_aload_n hx hb dX6_readSprite_0 rfl (lv_at hl 0 rfl) ?_
  refine lv_iconst (v := (0 : Int32)) hx hb dX6_readSprite_1 (by decide) ?_
  obtain ⟨h1, eh1, hf⟩ := hm_b_s hf
  refine hm_put (ci := 6) (k := 12) (C := RX6) (T := TX6) (N := 16) hx hb hts hiX6 tyX6 tyX6_ok nmX6 hown hK hI rfl (by decide) w1 rfl eh1 rfl rfl dX6_readSprite_2 (fun H locs hI => ?_)
  refine hm_aload_n hx hb dX6_readSprite_5 rfl (lv_at hl 0 rfl) ?_
  obtain ⟨v2, ev2, hf⟩ := hm_b_s hf
  refine hm_get (ci := 6) (k := 8) (C := RX6) (T := TX6) (N := 16) hx hb hts hiX6 hown hK hI rfl (by decide) w2 (hm_gq_s ev2) dX6_readSprite_6 ?_
  refine lv_iload_n hx hb dX6_readSprite_9 rfl (lv_at hl 1 rfl) ?_
  obtain ⟨v3, ev3, hf⟩ := hm_b_s hf
  refine hm_iald (kd := 0) (t0 := 0) hx hb hK hI rfl ev3 dX6_readSprite_10 ?_
  refine lv_istore_n (lv' := [(3, .int v3), (0, va_rf (some t)), (1, .int a1), (2, .int a2)]) hx hb dX6_readSprite_11 rfl hl (by decide) rfl (fun ls hl => ?_)
  refine lv_iconst (v := (0 : Int32)) hx hb dX6_readSprite_12 (by decide) ?_
  refine lv_istore (lv' := [(4, .int (0 : Int32)), (3, .int v3), (0, va_rf (some t)), (1, .int a1), (2, .int a2)]) hx hb dX6_readSprite_13 hl (by decide) rfl (fun ls hl => ?_)
  refine lv_iconst (v := (0 : Int32)) hx hb dX6_readSprite_15 (by decide) ?_
  refine lv_istore (lv' := [(5, .int (0 : Int32)), (4, .int (0 : Int32)), (3, .int v3), (0, va_rf (some t)), (1, .int a1), (2, .int a2)]) hx hb dX6_readSprite_16 hl (by decide) rfl (fun ls hl => ?_)
  refine lv_iconst (v := (0 : Int32)) hx hb dX6_readSprite_18 (by decide) ?_
  refine lv_istore (lv' := [(6, .int (0 : Int32)), (5, .int (0 : Int32)), (4, .int (0 : Int32)), (3, .int v3), (0, va_rf (some t)), (1, .int a1), (2, .int a2)]) hx hb dX6_readSprite_19 hl (by decide) rfl (fun ls hl => ?_)
  refine lv_iconst (v := (0 : Int32)) hx hb dX6_readSprite_21 (by decide) ?_
  refine lv_istore (lv' := [(7, .int (0 : Int32)), (6, .int (0 : Int32)), (5, .int (0 : Int32)), (4, .int (0 : Int32)), (3, .int v3), (0, va_rf (some t)), (1, .int a1), (2, .int a2)]) hx hb dX6_readSprite_22 hl (by decide) rfl (fun ls hl => ?_)
  exact B24 hm_fu (some t) a1 a2 v3 (0 : Int32) (0 : Int32) (0 : Int32) (0 : Int32) h1 hf _ _ _ hI (lv_sub hl [5, 6, 7, 4, 3, 2, 1, 0] rfl)
/-! ==== X6_draw: BlitBoardModel.draw(IIII)I ==== -/
def fX6_draw_110 (K29 : Option Nat → Int32 → Int32 → Int32 → Int32 → Int32 → hm_H → Option (Int32 × hm_H)) (x0 : Option Nat) (x2 : Int32) (x3 : Int32) (x4 : Int32) (x5 : Int32) (x6 : Int32) (h : hm_H) : Option (Int32 × hm_H) :=
  K29 x0 x2 x3 x4 x5 (x6 + (1 : Int32)) h
def fX6_draw_29 (K29 : Option Nat → Int32 → Int32 → Int32 → Int32 → Int32 → hm_H → Option (Int32 × hm_H)) (x0 : Option Nat) (x2 : Int32) (x3 : Int32) (x4 : Int32) (x5 : Int32) (x6 : Int32) (h : hm_H) : Option (Int32 × hm_H) :=
  hm_b (hm_gi 6 12 h x0) fun v10 =>
  if v10 ≤ x6 then
    some (x5, h)
  else
    if x5 = 0 then
      hm_b (hm_gq 6 13 h x0) fun v11 =>
      hm_b (hm_ai 0 h v11 x6) fun v12 =>
      hm_let (((x3).toInt64) + ((v12).toInt64)) fun v13 =>
      hm_b (hm_gq 6 14 h x0) fun v14 =>
      hm_b (hm_ai 0 h v14 x6) fun v15 =>
      hm_let (((x4).toInt64) + ((v15).toInt64)) fun v16 =>
      hm_b (hm_rc 6 h x0) fun b18 =>
      hm_b2 (fX6_isInClip b18 x2 v13 v16 h) fun v19 h17 =>
      if v19 = 0 then
        fX6_draw_110 K29 x0 x2 x3 x4 x5 x6 h17
      else
        hm_b (hm_gq 6 5 h17 x0) fun v20 =>
        hm_b (hm_gq 6 15 h17 x0) fun v21 =>
        hm_b (hm_ai 0 h17 v21 x6) fun v22 =>
        hm_b (hm_si 0 h17 v20 ((((4096 : Int32) * x2) + ((64 : Int32) * ((v16).toInt32))) + ((v13).toInt32)) v22) fun h23 =>
        fX6_draw_110 K29 x0 x2 x3 x4 x5 x6 h23
    else
      some (x5, h)
def fX6_draw (t : Nat) (a1 : Int32) (a2 : Int32) (a3 : Int32) (a4 : Int32) (h0 : hm_H) : Option (Int32 × hm_H) :=
  hm_b (hm_rc 6 h0 (some t)) fun b2 =>
  hm_b2 (fX6_isSprite b2 a1 h0) fun v3 h1 =>
  if v3 = 0 then
    some ((-1 : Int32), h1)
  else
    hm_b (hm_rc 6 h1 (some t)) fun b5 =>
    hm_b2 (fX6_isSurface b5 a2 h1) fun v6 h4 =>
    if v6 = 0 then
      some ((-1 : Int32), h4)
    else
      hm_b (hm_rc 6 h4 (some t)) fun b8 =>
      hm_b2 (fX6_readSprite b8 a1 a2 h4) fun v9 h7 =>
      hm_loop (fun _ _ _ _ _ _ _ => none) (fX6_draw_29) hm_fu (some t) a2 a3 a4 v9 (0 : Int32) h7
set_option maxRecDepth 100000 in
set_option maxHeartbeats 8000000 in
theorem kX6_draw (l : Launch) (D : va_G) (kA : Nat → ClassId) (t : Nat) (a1 : Int32) (a2 : Int32) (a3 : Int32) (a4 : Int32) (h0 h' : hm_H) (r : Int32) (hf : fX6_draw t a1 a2 a3 a4 h0 = some (r, h')) : hm_C l yX6_draw wsX6_draw { frames := 2, cells := 0, slots := 0, locals := 57 } D vwCl kA (hm_ty kA) [.ref t, .int a1, .int a2, .int a3, .int a4] h0 (some (.int r)) h' 0 0 := by
  refine Met.ofW (cc := cX6_draw) (maxL := 11) (ret := (some .int)) (by decide) rfl ?_
  intro p e s m args below meth c s₁ B hml hv
  obtain ⟨hargs, hB⟩ := hv
  have hx := B.exec
  have hb := B.bytes
  have hr := B.returns
  have hts := atoms_spec (ws := wsX6_draw) B.pre
  have hown : s.vm.findClass RX6 = some m.cls := findClass_of_methodNamed B.named
  have hlocks := B.notSynchronized
  have hK := hB.2
  have hI := hm_start hB
  have w1 := hts (.fieldLink RX6 123 "BlitBoardModel" "drawn" "I") (by decide +kernel)
  have w2 := hts (.fieldLink RX6 42 "BlitBoardModel" "columns" "[I") (by decide +kernel)
  have w3 := hts (.fieldLink RX6 45 "BlitBoardModel" "rows" "[I") (by decide +kernel)
  have w4 := hts (.fieldLink RX6 23 "BlitBoardModel" "dots" "[I") (by decide +kernel)
  have w5 := hts (.fieldLink RX6 48 "BlitBoardModel" "numbers" "[I") (by decide +kernel)
  have hiX6 : ∀ w ∈ wsX60, w ∈ wsX6_draw := by decide +kernel
  have B29 : ∀ (fu : Nat) (x0 : Option Nat) (x2 : Int32) (x3 : Int32) (x4 : Int32) (x5 : Int32) (x6 : Int32) (h : hm_H), hm_loop (fun _ _ _ _ _ _ _ => none) (fX6_draw_29) fu x0 x2 x3 x4 x5 x6 h = some (r, h') → ∀ (H : Heap) (locs : List Loc) (ls : Array Slot), hm_I D vwCl kA (hm_A h0) s.heap h H locs → lv_has ls 11 [(0, va_rf x0), (2, .int x2), (3, .int x3), (4, .int x4), (5, .int x5), (6, .int x6)] → W p l e (headSpec wsX6_draw { frames := 2, cells := 0, slots := 0, locals := 57 }).room s m args below meth c H locs 0 0 (MQ below (hm_Q D vwCl kA (hm_ty kA) h0 (some (.int r)) h') args s 0 0 (hm_A h0)) (F0 m 29 ls []) := by
    intro fu
    induction fu with
    | zero => intro x0 x2 x3 x4 x5 x6 h hf; cases hf
    | succ fu ih29 =>
      rw [hm_loop_s]
      generalize hm_loop (fun _ _ _ _ _ _ _ => none) (fX6_draw_29) fu = K29 at ih29 ⊢
      have B110 : ∀ (x0 : Option Nat) (x2 : Int32) (x3 : Int32) (x4 : Int32) (x5 : Int32) (x6 : Int32) (h : hm_H), fX6_draw_110 K29 x0 x2 x3 x4 x5 x6 h = some (r, h') → ∀ (H : Heap) (locs : List Loc) (ls : Array Slot), hm_I D vwCl kA (hm_A h0) s.heap h H locs → lv_has ls 11 [(0, va_rf x0), (2, .int x2), (3, .int x3), (4, .int x4), (5, .int x5), (6, .int x6)] → W p l e (headSpec wsX6_draw { frames := 2, cells := 0, slots := 0, locals := 57 }).room s m args below meth c H locs 0 0 (MQ below (hm_Q D vwCl kA (hm_ty kA) h0 (some (.int r)) h') args s 0 0 (hm_A h0)) (F0 m 110 ls []) := by
        intro x0 x2 x3 x4 x5 x6 h hf H locs ls hI hl
        unfold fX6_draw_110 at hf
        refine lv_iinc (v := x6 + (1 : Int32)) (lv' := [(6, .int (x6 + (1 : Int32))), (0, va_rf x0), (2, .int x2), (3, .int x3), (4, .int x4), (5, .int x5)]) hx hb dX6_draw_110 hl (k := 5) rfl rfl (by decide) rfl (fun ls hl => ?_)
        refine lv_goto (tgt := 29) hx hb dX6_draw_113 (by decide) ?_
        exact ih29 x0 x2 x3 x4 x5 (x6 + (1 : Int32)) h hf _ _ _ hI (lv_sub hl [1, 2, 3, 4, 5, 0] rfl)
      intro x0 x2 x3 x4 x5 x6 h hf H locs ls hI hl
      unfold fX6_draw_29 at hf
      refine lv_iload hx hb dX6_draw_29 (lv_at hl 5 rfl) ?_
      refine hm_aload_n hx hb dX6_draw_31 rfl (lv_at hl 0 rfl) ?_
      obtain ⟨v10, ev10, hf⟩ := hm_b_s hf
      refine hm_get (ci := 6) (k := 12) (C := RX6) (T := TX6) (N := 16) hx hb hts hiX6 hown hK hI rfl (by decide) w1 (hm_gi_s ev10) dX6_draw_32 ?_
      refine lv_icmp_ge (tgt := 116) hx hb dX6_draw_35 (by decide) (fun c => ?_) (fun c => ?_)
      · rw [if_pos c] at hf
        refine lv_iload hx hb dX6_draw_116 (lv_at hl 4 rfl) ?_
        exact hm_iret_e hf hx hb hr hlocks hK hI (Nat.le_of_ble_eq_true rfl) (Nat.le_of_ble_eq_true rfl) dX6_draw_118
      · rw [if_neg c] at hf
        refine lv_iload hx hb dX6_draw_38 (lv_at hl 4 rfl) ?_
        refine lv_if_ne (tgt := 116) hx hb dX6_draw_40 (by decide) (fun c => ?_) (fun c => ?_)
        · rw [if_neg c] at hf
          refine lv_iload hx hb dX6_draw_116 (lv_at hl 4 rfl) ?_
          exact hm_iret_e hf hx hb hr hlocks hK hI (Nat.le_of_ble_eq_true rfl) (Nat.le_of_ble_eq_true rfl) dX6_draw_118
        · rw [if_pos c] at hf
          refine lv_iload_n hx hb dX6_draw_43 rfl (lv_at hl 2 rfl) ?_
          refine lv_i2l (v := (x3).toInt64) hx hb dX6_draw_44 rfl ?_
          refine hm_aload_n hx hb dX6_draw_45 rfl (lv_at hl 0 rfl) ?_
          obtain ⟨v11, ev11, hf⟩ := hm_b_s hf
          refine hm_get (ci := 6) (k := 13) (C := RX6) (T := TX6) (N := 16) hx hb hts hiX6 hown hK hI rfl (by decide) w2 (hm_gq_s ev11) dX6_draw_46 ?_
          refine lv_iload hx hb dX6_draw_49 (lv_at hl 5 rfl) ?_
          obtain ⟨v12, ev12, hf⟩ := hm_b_s hf
          refine hm_iald (kd := 0) (t0 := 0) hx hb hK hI rfl ev12 dX6_draw_51 ?_
          refine lv_i2l (v := (v12).toInt64) hx hb dX6_draw_52 rfl ?_
          refine lv_ladd hx hb dX6_draw_53 ?_
          obtain ⟨v13, ev13, hf⟩ := hm_let_s hf
          refine hm_tj ev13 ?_
          refine lv_lstore (lv' := [(7, .long v13), (0, va_rf x0), (2, .int x2), (3, .int x3), (4, .int x4), (5, .int x5), (6, .int x6)]) hx hb dX6_draw_54 hl (by decide) rfl (fun ls hl => ?_)
          refine lv_iload hx hb dX6_draw_56 (lv_at hl 4 rfl) ?_
          refine lv_i2l (v := (x4).toInt64) hx hb dX6_draw_58 rfl ?_
          refine hm_aload_n hx hb dX6_draw_59 rfl (lv_at hl 1 rfl) ?_
          obtain ⟨v14, ev14, hf⟩ := hm_b_s hf
          refine hm_get (ci := 6) (k := 14) (C := RX6) (T := TX6) (N := 16) hx hb hts hiX6 hown hK hI rfl (by decide) w3 (hm_gq_s ev14) dX6_draw_60 ?_
          refine lv_iload hx hb dX6_draw_63 (lv_at hl 6 rfl) ?_
          obtain ⟨v15, ev15, hf⟩ := hm_b_s hf
          refine hm_iald (kd := 0) (t0 := 0) hx hb hK hI rfl ev15 dX6_draw_65 ?_
          refine lv_i2l (v := (v15).toInt64) hx hb dX6_draw_66 rfl ?_
          refine lv_ladd hx hb dX6_draw_67 ?_
          obtain ⟨v16, ev16, hf⟩ := hm_let_s hf
          refine hm_tj ev16 ?_
          refine lv_lstore (lv' := [(9, .long v16), (7, .long v13), (0, va_rf x0), (2, .int x2), (3, .int x3), (4, .int x4), (5, .int x5), (6, .int x6)]) hx hb dX6_draw_68 hl (by decide) rfl (fun ls hl => ?_)
          refine hm_aload_n hx hb dX6_draw_70 rfl (lv_at hl 2 rfl) ?_
          refine lv_iload_n hx hb dX6_draw_71 rfl (lv_at hl 3 rfl) ?_
          refine lv_lload hx hb dX6_draw_72 (lv_at hl 1 rfl) ?_
          refine lv_lload hx hb dX6_draw_74 (lv_at hl 0 rfl) ?_
          obtain ⟨b18, eb18, hf⟩ := hm_b_s hf
          obtain ⟨v19, h17, eh17, hf⟩ := hm_b2_s hf
          refine hm_cV (As := [.int x2, .long v13, .long v16]) (rest := []) ⟨hx, hb, hml, hown, hts⟩ hK hI eb18 rfl rfl (kX6_isInClip l D kA b18 x2 v13 v16 h h17 v19 eh17) (cwV 3 hts gX6_draw_X6_isInClip rfl rfl rfl (by decide +kernel) ⟨Nat.le_of_ble_eq_true rfl, Nat.le_of_ble_eq_true rfl⟩) rfl hl.1 rfl (by first | exact Nat.le_of_ble_eq_true rfl | (simp only [List.map, hm_rf_cat, hm_ci, hm_cl, List.sum_cons, List.sum_nil] <;> decide)) dX6_draw_76 ⟨Nat.le_of_ble_eq_true rfl, Nat.le_of_ble_eq_true rfl⟩ (fun H locs hI => ?_)
          refine lv_if_eq (tgt := 110) hx hb dX6_draw_79 (by decide) (fun c => ?_) (fun c => ?_)
          · rw [if_pos c] at hf
            exact B110 x0 x2 x3 x4 x5 x6 h17 hf _ _ _ hI (lv_sub hl [2, 3, 4, 5, 6, 7] rfl)
          · rw [if_neg c] at hf
            refine hm_aload_n hx hb dX6_draw_82 rfl (lv_at hl 2 rfl) ?_
            obtain ⟨v20, ev20, hf⟩ := hm_b_s hf
            refine hm_get (ci := 6) (k := 5) (C := RX6) (T := TX6) (N := 16) hx hb hts hiX6 hown hK hI rfl (by decide) w4 (hm_gq_s ev20) dX6_draw_83 ?_
            refine lv_sipush (v := (4096 : Int32)) hx hb dX6_draw_86 (by decide) ?_
            refine lv_iload_n hx hb dX6_draw_89 rfl (lv_at hl 3 rfl) ?_
            refine lv_imul hx hb dX6_draw_90 ?_
            refine lv_bipush (v := (64 : Int32)) hx hb dX6_draw_91 (by decide) ?_
            refine lv_lload hx hb dX6_draw_93 (lv_at hl 0 rfl) ?_
            refine lv_l2i (v := (v16).toInt32) hx hb dX6_draw_95 rfl ?_
            refine lv_imul hx hb dX6_draw_96 ?_
            refine lv_iadd hx hb dX6_draw_97 ?_
            refine lv_lload hx hb dX6_draw_98 (lv_at hl 1 rfl) ?_
            refine lv_l2i (v := (v13).toInt32) hx hb dX6_draw_100 rfl ?_
            refine lv_iadd hx hb dX6_draw_101 ?_
            refine hm_aload_n hx hb dX6_draw_102 rfl (lv_at hl 2 rfl) ?_
            obtain ⟨v21, ev21, hf⟩ := hm_b_s hf
            refine hm_get (ci := 6) (k := 15) (C := RX6) (T := TX6) (N := 16) hx hb hts hiX6 hown hK hI rfl (by decide) w5 (hm_gq_s ev21) dX6_draw_103 ?_
            refine lv_iload hx hb dX6_draw_106 (lv_at hl 7 rfl) ?_
            obtain ⟨v22, ev22, hf⟩ := hm_b_s hf
            refine hm_iald (kd := 0) (t0 := 0) hx hb hK hI rfl ev22 dX6_draw_108 ?_
            obtain ⟨h23, eh23, hf⟩ := hm_b_s hf
            refine hm_iast (kd := 0) (t0 := 0) hx hb hK hI rfl eh23 dX6_draw_109 (fun H locs hI => ?_)
            exact B110 x0 x2 x3 x4 x5 x6 h23 hf _ _ _ hI (lv_sub hl [2, 3, 4, 5, 6, 7] rfl)
  rw [show entryFrame m args 11 = entryFrame m ([.ref t, .int a1, .int a2, .int a3, .int a4] : List Value).toArray 11 from by rw [hargs]]
  have hl := lv_entry ([.ref t, .int a1, .int a2, .int a3, .int a4]) (n := 11) (Nat.le_of_ble_eq_true rfl)
  rw [lg_entry_eq]
  generalize (lg_sl ([.ref t, .int a1, .int a2, .int a3, .int a4]) ++ List.replicate (11 - (lg_sl ([.ref t, .int a1, .int a2, .int a3, .int a4])).length) Slot.unset).toArray = ls at hl ⊢
  have hl : lv_has ls 11 [(0, va_rf (some t)), (1, .int a1), (2, .int a2), (3, .int a3), (4, .int a4)] := hl
  unfold fX6_draw at hf
  refine hm_aload_n hx hb dX6_draw_0 rfl (lv_at hl 0 rfl) ?_
  refine lv_iload_n hx hb dX6_draw_1 rfl (lv_at hl 1 rfl) ?_
  obtain ⟨b2, eb2, hf⟩ := hm_b_s hf
  obtain ⟨v3, h1, eh1, hf⟩ := hm_b2_s hf
  refine hm_cV (As := [.int a1]) (rest := []) ⟨hx, hb, hml, hown, hts⟩ hK hI eb2 rfl rfl (kX6_isSprite l D kA b2 a1 h0 h1 v3 eh1) (cwV 1 hts gX6_draw_X6_isSprite rfl rfl rfl (by decide +kernel) ⟨Nat.le_of_ble_eq_true rfl, Nat.le_of_ble_eq_true rfl⟩) rfl hl.1 rfl (by first | exact Nat.le_of_ble_eq_true rfl | (simp only [List.map, hm_rf_cat, hm_ci, hm_cl, List.sum_cons, List.sum_nil] <;> decide)) dX6_draw_2 ⟨Nat.le_of_ble_eq_true rfl, Nat.le_of_ble_eq_true rfl⟩ (fun H locs hI => ?_)
  refine lv_if_eq (tgt := 16) hx hb dX6_draw_5 (by decide) (fun c => ?_) (fun c => ?_)
  · rw [if_pos c] at hf
    refine lv_iconst (v := (-1 : Int32)) hx hb dX6_draw_16 (by decide) ?_
    exact hm_iret_e hf hx hb hr hlocks hK hI (Nat.le_of_ble_eq_true rfl) (Nat.le_of_ble_eq_true rfl) dX6_draw_17
  · rw [if_neg c] at hf
    refine hm_aload_n hx hb dX6_draw_8 rfl (lv_at hl 0 rfl) ?_
    refine lv_iload_n hx hb dX6_draw_9 rfl (lv_at hl 2 rfl) ?_
    obtain ⟨b5, eb5, hf⟩ := hm_b_s hf
    obtain ⟨v6, h4, eh4, hf⟩ := hm_b2_s hf
    refine hm_cV (As := [.int a2]) (rest := []) ⟨hx, hb, hml, hown, hts⟩ hK hI eb5 rfl rfl (kX6_isSurface l D kA b5 a2 h1 h4 v6 eh4) (cwV 1 hts gX6_draw_X6_isSurface rfl rfl rfl (by decide +kernel) ⟨Nat.le_of_ble_eq_true rfl, Nat.le_of_ble_eq_true rfl⟩) rfl hl.1 rfl (by first | exact Nat.le_of_ble_eq_true rfl | (simp only [List.map, hm_rf_cat, hm_ci, hm_cl, List.sum_cons, List.sum_nil] <;> decide)) dX6_draw_10 ⟨Nat.le_of_ble_eq_true rfl, Nat.le_of_ble_eq_true rfl⟩ (fun H locs hI => ?_)
    refine lv_if_ne (tgt := 18) hx hb dX6_draw_13 (by decide) (fun c => ?_) (fun c => ?_)
    · rw [if_neg c] at hf
      refine hm_aload_n hx hb dX6_draw_18 rfl (lv_at hl 0 rfl) ?_
      refine lv_iload_n hx hb dX6_draw_19 rfl (lv_at hl 1 rfl) ?_
      refine lv_iload_n hx hb dX6_draw_20 rfl (lv_at hl 2 rfl) ?_
      obtain ⟨b8, eb8, hf⟩ := hm_b_s hf
      obtain ⟨v9, h7, eh7, hf⟩ := hm_b2_s hf
      refine hm_cV (As := [.int a1, .int a2]) (rest := []) ⟨hx, hb, hml, hown, hts⟩ hK hI eb8 rfl rfl (kX6_readSprite l D kA b8 a1 a2 h4 h7 v9 eh7) (cwV 2 hts gX6_draw_X6_readSprite rfl rfl rfl (by decide +kernel) ⟨Nat.le_of_ble_eq_true rfl, Nat.le_of_ble_eq_true rfl⟩) rfl hl.1 rfl (by first | exact Nat.le_of_ble_eq_true rfl | (simp only [List.map, hm_rf_cat, hm_ci, hm_cl, List.sum_cons, List.sum_nil] <;> decide)) dX6_draw_21 ⟨Nat.le_of_ble_eq_true rfl, Nat.le_of_ble_eq_true rfl⟩ (fun H locs hI => ?_)
      refine lv_istore (lv' := [(5, .int v9), (0, va_rf (some t)), (1, .int a1), (2, .int a2), (3, .int a3), (4, .int a4)]) hx hb dX6_draw_24 hl (by decide) rfl (fun ls hl => ?_)
      refine lv_iconst (v := (0 : Int32)) hx hb dX6_draw_26 (by decide) ?_
      refine lv_istore (lv' := [(6, .int (0 : Int32)), (5, .int v9), (0, va_rf (some t)), (1, .int a1), (2, .int a2), (3, .int a3), (4, .int a4)]) hx hb dX6_draw_27 hl (by decide) rfl (fun ls hl => ?_)
      exact B29 hm_fu (some t) a2 a3 a4 v9 (0 : Int32) h7 hf _ _ _ hI (lv_sub hl [2, 4, 5, 6, 1, 0] rfl)
    · rw [if_pos c] at hf
      refine lv_iconst (v := (-1 : Int32)) hx hb dX6_draw_16 (by decide) ?_
      exact hm_iret_e hf hx hb hr hlocks hK hI (Nat.le_of_ble_eq_true rfl) (Nat.le_of_ble_eq_true rfl) dX6_draw_17
/-! ==== X6_check: BlitBoardModel.check()I ==== -/
def fX6_check (t : Nat) (h0 : hm_H) : Option (Int32 × hm_H) :=
  some ((1 : Int32), h0)
set_option maxRecDepth 100000 in
set_option maxHeartbeats 8000000 in
theorem kX6_check (l : Launch) (D : va_G) (kA : Nat → ClassId) (t : Nat) (h0 h' : hm_H) (r : Int32) (hf : fX6_check t h0 = some (r, h')) : hm_C l yX6_check wsX6_check { frames := 0, cells := 0, slots := 0, locals := 0 } D vwCl kA (hm_ty kA) [.ref t] h0 (some (.int r)) h' 0 0 := by
  refine Met.ofW (cc := cX6_check) (maxL := 1) (ret := (some .int)) (by decide) rfl ?_
  intro p e s m args below meth c s₁ B hml hv
  obtain ⟨hargs, hB⟩ := hv
  have hx := B.exec
  have hb := B.bytes
  have hr := B.returns
  have hts := atoms_spec (ws := wsX6_check) B.pre
  have hown : s.vm.findClass RX6 = some m.cls := findClass_of_methodNamed B.named
  have hlocks := B.notSynchronized
  have hK := hB.2
  have hI := hm_start hB
  rw [show entryFrame m args 1 = entryFrame m ([.ref t] : List Value).toArray 1 from by rw [hargs]]
  have hl := lv_entry ([.ref t]) (n := 1) (Nat.le_of_ble_eq_true rfl)
  rw [lg_entry_eq]
  generalize (lg_sl ([.ref t]) ++ List.replicate (1 - (lg_sl ([.ref t])).length) Slot.unset).toArray = ls at hl ⊢
  have hl : lv_has ls 1 [(0, va_rf (some t))] := hl
  unfold fX6_check at hf
  refine lv_iconst (v := (1 : Int32)) hx hb dX6_check_0 (by decide) ?_
  exact hm_iret_e hf hx hb hr hlocks hK hI (Nat.le_of_ble_eq_true rfl) (Nat.le_of_ble_eq_true rfl) dX6_check_1
