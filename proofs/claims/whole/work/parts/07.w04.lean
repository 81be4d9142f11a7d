/-! ==== X5_moveOf: BlitBoard.moveOf(LBlitBoard$Surface;LBlitBoard$Area;LBlitBoard$Surface;II)LBlitBoard$Move; ==== -/
def fX5_moveOf (a1 : Option Nat) (a2 : Option Nat) (a3 : Option Nat) (a4 : Int32) (a5 : Int32) (h0 : hm_H) : Option (Option Nat × hm_H) :=
  if a1 = none then
    some (none, h0)
  else
    if a3 = none then
      some (none, h0)
    else
      hm_b (hm_gi 0 2 h0 a2) fun v1 =>
      hm_b2 (fX5_isSide v1 h0) fun v3 h2 =>
      if v3 = 0 then
        some (none, h2)
      else
        hm_b (hm_gi 0 3 h2 a2) fun v4 =>
        hm_b2 (fX5_isSide v4 h2) fun v6 h5 =>
        if v6 = 0 then
          some (none, h5)
        else
          hm_let (hm_n h5 (.inr (1, [.null, .null, .null, .null]))) fun h7 =>
          hm_b (fX1_init h5.2 a1 a2 a3 a4 a5 h7) fun h8 =>
          some (some h5.2, h8)
set_option maxRecDepth 100000 in
set_option maxHeartbeats 8000000 in
theorem kX5_moveOf (l : Launch) (D : va_G) (kA : Nat → ClassId) (a1 : Option Nat) (a2 : Option Nat) (a3 : Option Nat) (a4 : Int32) (a5 : Int32) (h0 h' : hm_H) (r : Option Nat) (hf : fX5_moveOf a1 a2 a3 a4 a5 h0 = some (r, h')) : hm_C l yX5_moveOf wsX5_moveOf { frames := 4, cells := 5, slots := 20, locals := 104 } D vwCl kA (hm_ty kA) [va_rf a1, va_rf a2, va_rf a3, .int a4, .int a5] h0 (some (va_rf r)) h' 5 20 := by
  refine Met.ofW (cc := cX5_moveOf) (maxL := 5) (ret := (some (.object "BlitBoard$Move"))) (by decide) rfl ?_
  intro p e s m args below meth c s₁ B hml hv
  obtain ⟨hargs, hB⟩ := hv
  have hx := B.exec
  have hb := B.bytes
  have hr := B.returns
  have hts := atoms_spec (ws := wsX5_moveOf) B.pre
  have hown : s.vm.findClass RX5 = some m.cls := findClass_of_methodNamed B.named
  have hlocks := B.notSynchronized
  have hK := hB.2
  have hI := hm_start hB
  have w1 := hts (.fieldLink RX5 82 "BlitBoard$Area" "wide" "I") (by decide +kernel)
  have w2 := hts (.fieldLink RX5 85 "BlitBoard$Area" "high" "I") (by decide +kernel)
  have w3 := hts (.classLink RX5 113 RX1) (by decide +kernel)
  have w4 := hts (.instantiable RX1 4) (by decide +kernel)
  have w5 := hts (.initialized RX1) (by decide +kernel)
  have w6 := hts (.methodLink RX5 191 yX1_init) (by decide +kernel)
  have w7 := hts (.instanceMethod yX1_init) (by decide +kernel)
  have hiX0 : ∀ w ∈ wsX00, w ∈ wsX5_moveOf := by decide +kernel
  have hiX1 : ∀ w ∈ wsX10, w ∈ wsX5_moveOf := by decide +kernel
  rw [show entryFrame m args 5 = entryFrame m ([va_rf a1, va_rf a2, va_rf a3, .int a4, .int a5] : List Value).toArray 5 from by rw [hargs]]
  have hl := lv_entry ([va_rf a1, va_rf a2, va_rf a3, .int a4, .int a5]) (n := 5) (by simp only [hm_sl_q, hm_sl_i, hm_sl_l, hm_sl_r, hm_sl_n, List.length_cons, List.length_nil] <;> decide)
  rw [lg_entry_eq]
  generalize (lg_sl ([va_rf a1, va_rf a2, va_rf a3, .int a4, .int a5]) ++ List.replicate (5 - (lg_sl ([va_rf a1, va_rf a2, va_rf a3, .int a4, .int a5])).length) Slot.unset).toArray = ls at hl ⊢
  rw [show lv_args 0 [va_rf a1, va_rf a2, va_rf a3, .int a4, .int a5] = [(0, va_rf a1), (1, va_rf a2), (2, va_rf a3), (3, .int a4), (4, .int a5)] from by simp only [hm_ar_q, hm_ar_i, hm_ar_l, hm_ar_r, hm_ar_n]] at hl
  have hl : lv_has ls 5 [(0, va_rf a1), (1, va_rf a2), (2, va_rf a3), (3, .int a4), (4, .int a5)] := hl
  unfold fX5_moveOf at hf
  refine hm_aload_n hx hb dX5_moveOf_0 rfl (lv_at hl 0 rfl) ?_
  refine hm_ifnull (tgt := 28) hx hb dX5_moveOf_1 (by decide) (fun c => ?_) (fun c => ?_)
  · rw [if_pos c] at hf
    refine lv_null hx hb dX5_moveOf_28 ?_
    refine W.eq (g2 := F0 m 29 ls (va_rf none :: [])) rfl ?_
    exact hm_aret_e hf hx hb hr hlocks hK hI (Nat.le_of_ble_eq_true rfl) (Nat.le_of_ble_eq_true rfl) dX5_moveOf_29
  · rw [if_neg c] at hf
    refine hm_aload_n hx hb dX5_moveOf_4 rfl (lv_at hl 2 rfl) ?_
    refine hm_ifnull (tgt := 28) hx hb dX5_moveOf_5 (by decide) (fun c => ?_) (fun c => ?_)
    · rw [if_pos c] at hf
      refine lv_null hx hb dX5_moveOf_28 ?_
      refine W.eq (g2 := F0 m 29 ls (va_rf none :: [])) rfl ?_
      exact hm_aret_e hf hx hb hr hlocks hK hI (Nat.le_of_ble_eq_true rfl) (Nat.le_of_ble_eq_true rfl) dX5_moveOf_29
    · rw [if_neg c] at hf
      refine hm_aload_n hx hb dX5_moveOf_8 rfl (lv_at hl 1 rfl) ?_
      obtain ⟨v1, ev1, hf⟩ := hm_b_s hf
      refine hm_get (ci := 0) (k := 2) (C := RX0) (T := TX0) (N := 4) hx hb hts hiX0 hown hK hI rfl (by decide) w1 (hm_gi_s ev1) dX5_moveOf_9 ?_
      obtain ⟨v3, h2, eh2, hf⟩ := hm_b2_s hf
      refine hm_cS (As := [.int v1]) (rest := []) ⟨hx, hb, hml, hown, hts⟩ hK hI (kX5_isSide l D kA v1 h0 h2 v3 eh2) (va_cwS 1 hts gX5_moveOf_X5_isSide rfl rfl rfl (by decide +kernel) ⟨Nat.le_of_ble_eq_true rfl, Nat.le_of_ble_eq_true rfl⟩) rfl hl.1 rfl (by first | exact Nat.le_of_ble_eq_true rfl | (simp only [List.map, hm_rf_cat, hm_ci, hm_cl, List.sum_cons, List.sum_nil] <;> decide)) dX5_moveOf_12 ⟨Nat.le_of_ble_eq_true rfl, Nat.le_of_ble_eq_true rfl⟩ (fun H locs hI => ?_)
      refine lv_if_eq (tgt := 28) hx hb dX5_moveOf_15 (by decide) (fun c => ?_) (fun c => ?_)
      · rw [if_pos c] at hf
        refine lv_null hx hb dX5_moveOf_28 ?_
        refine W.eq (g2 := F0 m 29 ls (va_rf none :: [])) rfl ?_
        exact hm_aret_e hf hx hb hr hlocks hK hI (Nat.le_of_ble_eq_true rfl) (Nat.le_of_ble_eq_true rfl) dX5_moveOf_29
      · rw [if_neg c] at hf
        refine hm_aload_n hx hb dX5_moveOf_18 rfl (lv_at hl 1 rfl) ?_
        obtain ⟨v4, ev4, hf⟩ := hm_b_s hf
        refine hm_get (ci := 0) (k := 3) (C := RX0) (T := TX0) (N := 4) hx hb hts hiX0 hown hK hI rfl (by decide) w2 (hm_gi_s ev4) dX5_moveOf_19 ?_
        obtain ⟨v6, h5, eh5, hf⟩ := hm_b2_s hf
        refine hm_cS (As := [.int v4]) (rest := []) ⟨hx, hb, hml, hown, hts⟩ hK hI (kX5_isSide l D kA v4 h2 h5 v6 eh5) (va_cwS 1 hts gX5_moveOf_X5_isSide rfl rfl rfl (by decide +kernel) ⟨Nat.le_of_ble_eq_true rfl, Nat.le_of_ble_eq_true rfl⟩) rfl hl.1 rfl (by first | exact Nat.le_of_ble_eq_true rfl | (simp only [List.map, hm_rf_cat, hm_ci, hm_cl, List.sum_cons, List.sum_nil] <;> decide)) dX5_moveOf_22 ⟨Nat.le_of_ble_eq_true rfl, Nat.le_of_ble_eq_true rfl⟩ (fun H locs hI => ?_)
        refine lv_if_ne (tgt := 30) hx hb dX5_moveOf_25 (by decide) (fun c => ?_) (fun c => ?_)
        · rw [if_neg c] at hf
          obtain ⟨h7, eh7, hf⟩ := hm_let_s hf
          refine hm_new (ci := 1) (fs := [.null, .null, .null, .null]) (C := RX1) (T := TX1) (N := 4) hx hb hts hiX1 tyX1 tyX1_ok hown w3 w4 w5 hK hI rfl (fun j hj => by rcases (show j = 0 ∨ j = 1 ∨ j = 2 ∨ j = 3 by omega) with rfl | rfl | rfl | rfl <;> rfl) (Nat.le_of_ble_eq_true rfl) (Nat.le_of_ble_eq_true rfl) dX5_moveOf_30 (fun H hI => ?_)
          rw [← eh7] at hI
          refine W.cs (cells' := 1) (slots' := 4) rfl rfl ?_
          refine lv_dup hx hb dX5_moveOf_33 (hm_rf_cat _) ?_
          refine hm_aload_n hx hb dX5_moveOf_34 rfl (lv_at hl 0 rfl) ?_
          refine hm_aload_n hx hb dX5_moveOf_35 rfl (lv_at hl 1 rfl) ?_
          refine hm_aload_n hx hb dX5_moveOf_36 rfl (lv_at hl 2 rfl) ?_
          refine lv_iload_n hx hb dX5_moveOf_37 rfl (lv_at hl 3 rfl) ?_
          refine lv_iload hx hb dX5_moveOf_38 (lv_at hl 4 rfl) ?_
          obtain ⟨h8, eh8, hf⟩ := hm_b_s hf
          refine hm_cI (As := [va_rf a1, va_rf a2, va_rf a3, .int a4, .int a5]) (rest := [va_rf (some h5.2)]) ⟨hx, hb, hml, hown, hts⟩ hK hI (kX1_init l D kA h5.2 a1 a2 a3 a4 a5 h7 h8 eh8) (cwI 5 hts gX5_moveOf_X1_init rfl rfl rfl w5 w6 w7 rfl (by decide +kernel) ⟨Nat.le_of_ble_eq_true rfl, Nat.le_of_ble_eq_true rfl⟩) rfl hl.1 rfl (by first | exact Nat.le_of_ble_eq_true rfl | (simp only [List.map, hm_rf_cat, hm_ci, hm_cl, List.sum_cons, List.sum_nil] <;> decide)) dX5_moveOf_40 ⟨Nat.le_of_ble_eq_true rfl, Nat.le_of_ble_eq_true rfl⟩ (fun H locs hI => ?_)
          refine W.cs (cells' := 5) (slots' := 20) rfl rfl ?_
          refine W.eq (g2 := F0 m 43 ls [va_rf (some h5.2)]) rfl ?_
          exact hm_aret_e hf hx hb hr hlocks hK hI (Nat.le_of_ble_eq_true rfl) (Nat.le_of_ble_eq_true rfl) dX5_moveOf_43
        · rw [if_pos c] at hf
          refine lv_null hx hb dX5_moveOf_28 ?_
          refine W.eq (g2 := F0 m 29 ls (va_rf none :: [])) rfl ?_
          exact hm_aret_e hf hx hb hr hlocks hK hI (Nat.le_of_ble_eq_true rfl) (Nat.le_of_ble_eq_true rfl) dX5_moveOf_29
/-! ==== X5_takeDots: BlitBoard.takeDots(LBlitBoard$Move;)V ==== -/
def fX5_takeDots_7 (K7 : Option Nat → Option Nat → Option Nat → Int32 → hm_H → Option hm_H) (x0 : Option Nat) (x1 : Option Nat) (x2 : Option Nat) (x3 : Int32) (h : hm_H) : Option hm_H :=
  hm_b (hm_gi 0 3 h x2) fun v2 =>
  if v2 ≤ x3 then
    some h
  else
    hm_b (hm_gq 1 0 h x1) fun v3 =>
    hm_b (hm_gl 0 0 h x2) fun v4 =>
    hm_b (hm_gl 0 1 h x2) fun v5 =>
    hm_b (hm_rc 3 h v3) fun b7 =>
    hm_b2 (fX3_indexOf b7 v4 (v5 + ((x3).toInt64)) h) fun v8 h6 =>
    hm_b (hm_gq 1 0 h6 x1) fun v9 =>
    hm_b (hm_gq 3 3 h6 v9) fun v10 =>
    hm_b (hm_gq 5 4 h6 x0) fun v11 =>
    hm_b (hm_gi 0 2 h6 x2) fun v12 =>
    hm_b (hm_gi 0 2 h6 x2) fun v13 =>
    hm_b (hm_cp h6 v10 v8 v11 (x3 * v12) v13) fun h14 =>
    K7 x0 x1 x2 (x3 + (1 : Int32)) h14
def fX5_takeDots (t : Nat) (a1 : Option Nat) (h0 : hm_H) : Option hm_H :=
  hm_b (hm_gq 1 2 h0 a1) fun v1 =>
  hm_loop (fun _ _ _ _ _ => none) (fX5_takeDots_7) hm_fu (some t) a1 v1 (0 : Int32) h0
set_option maxRecDepth 100000 in
set_option maxHeartbeats 8000000 in
theorem kX5_takeDots (l : Launch) (D : va_G) (kA : Nat → ClassId) (t : Nat) (a1 : Option Nat) (h0 h' : hm_H) (hf : fX5_takeDots t a1 h0 = some h') : hm_C l yX5_takeDots wsX5_takeDots { frames := 1, cells := 0, slots := 0, locals := 60 } D vwCl kA (hm_ty kA) [.ref t, va_rf a1] h0 none h' 0 0 := by
  refine Met.ofW (cc := cX5_takeDots) (maxL := 5) (ret := none) (by decide) rfl ?_
  intro p e s m args below meth c s₁ B hml hv
  obtain ⟨hargs, hB⟩ := hv
  have hx := B.exec
  have hb := B.bytes
  have hr := B.returns
  have hts := atoms_spec (ws := wsX5_takeDots) B.pre
  have hown : s.vm.findClass RX5 = some m.cls := findClass_of_methodNamed B.named
  have hlocks := B.notSynchronized
  have hK := hB.2
  have hI := hm_start hB
  have w1 := hts (.fieldLink RX5 133 "BlitBoard$Move" "source" "LBlitBoard$Area;") (by decide +kernel)
  have w2 := hts (.fieldLink RX5 85 "BlitBoard$Area" "high" "I") (by decide +kernel)
  have w3 := hts (.fieldLink RX5 140 "BlitBoard$Move" "from" "LBlitBoard$Surface;") (by decide +kernel)
  have w4 := hts (.fieldLink RX5 88 "BlitBoard$Area" "left" "J") (by decide +kernel)
  have w5 := hts (.fieldLink RX5 92 "BlitBoard$Area" "top" "J") (by decide +kernel)
  have w6 := hts (.fieldLink RX5 72 "BlitBoard$Surface" "dots" "[I") (by decide +kernel)
  have w7 := hts (.fieldLink RX5 30 "BlitBoard" "taken" "[I") (by decide +kernel)
  have w8 := hts (.fieldLink RX5 82 "BlitBoard$Area" "wide" "I") (by decide +kernel)
  have w9 := hts (.methodLink RX5 194 arraycopyName) (by decide +kernel)
  have w10 := hts (.native arraycopyName) (by decide +kernel)
  have w11 := hts (.static arraycopyName) (by decide +kernel)
  have w12 := hts (.initialized "java/lang/System") (by decide +kernel)
  have hiX1 : ∀ w ∈ wsX10, w ∈ wsX5_takeDots := by decide +kernel
  have hiX0 : ∀ w ∈ wsX00, w ∈ wsX5_takeDots := by decide +kernel
  have hiX3 : ∀ w ∈ wsX30, w ∈ wsX5_takeDots := by decide +kernel
  have hiX5 : ∀ w ∈ wsX50, w ∈ wsX5_takeDots := by decide +kernel
  have B7 : ∀ (fu : Nat) (x0 : Option Nat) (x1 : Option Nat) (x2 : Option Nat) (x3 : Int32) (h : hm_H), hm_loop (fun _ _ _ _ _ => none) (fX5_takeDots_7) fu x0 x1 x2 x3 h = some h' → ∀ (H : Heap) (locs : List Loc) (ls : Array Slot), hm_I D vwCl kA (hm_A h0) s.heap h H locs → lv_has ls 5 [(0, va_rf x0), (1, va_rf x1), (2, va_rf x2), (3, .int x3)] → W p l e (headSpec wsX5_takeDots { frames := 1, cells := 0, slots := 0, locals := 60 }).room s m args below meth c H locs 0 0 (MQ below (hm_Q D vwCl kA (hm_ty kA) h0 none h') args s 0 0 (hm_A h0)) (F0 m 7 ls []) := by
    intro fu
    induction fu with
    | zero => intro x0 x1 x2 x3 h hf; cases hf
    | succ fu ih7 =>
      rw [hm_loop_s]
      generalize hm_loop (fun _ _ _ _ _ => none) (fX5_takeDots_7) fu = K7 at ih7 ⊢
      intro x0 x1 x2 x3 h hf H locs ls hI hl
      unfold fX5_takeDots_7 at hf
      refine lv_iload_n hx hb dX5_takeDots_7 rfl (lv_at hl 3 rfl) ?_
      refine hm_aload_n hx hb dX5_takeDots_8 rfl (lv_at hl 2 rfl) ?_
      obtain ⟨v2, ev2, hf⟩ := hm_b_s hf
      refine hm_get (ci := 0) (k := 3) (C := RX0) (T := TX0) (N := 4) hx hb hts hiX0 hown hK hI rfl (by decide) w2 (hm_gi_s ev2) dX5_takeDots_9 ?_
      refine lv_icmp_ge (tgt := 67) hx hb dX5_takeDots_12 (by decide) (fun c => ?_) (fun c => ?_)
      · rw [if_pos c] at hf
        exact hm_vret_e hf hx hb hr hlocks hK hI (Nat.le_of_ble_eq_true rfl) (Nat.le_of_ble_eq_true rfl) dX5_takeDots_67
      · rw [if_neg c] at hf
        refine hm_aload_n hx hb dX5_takeDots_15 rfl (lv_at hl 1 rfl) ?_
        obtain ⟨v3, ev3, hf⟩ := hm_b_s hf
        refine hm_get (ci := 1) (k := 0) (C := RX1) (T := TX1) (N := 4) hx hb hts hiX1 hown hK hI rfl (by decide) w3 (hm_gq_s ev3) dX5_takeDots_16 ?_
        refine hm_aload_n hx hb dX5_takeDots_19 rfl (lv_at hl 2 rfl) ?_
        obtain ⟨v4, ev4, hf⟩ := hm_b_s hf
        refine hm_get (ci := 0) (k := 0) (C := RX0) (T := TX0) (N := 4) hx hb hts hiX0 hown hK hI rfl (by decide) w4 (hm_gl_s ev4) dX5_takeDots_20 ?_
        refine hm_aload_n hx hb dX5_takeDots_23 rfl (lv_at hl 2 rfl) ?_
        obtain ⟨v5, ev5, hf⟩ := hm_b_s hf
        refine hm_get (ci := 0) (k := 1) (C := RX0) (T := TX0) (N := 4) hx hb hts hiX0 hown hK hI rfl (by decide) w5 (hm_gl_s ev5) dX5_takeDots_24 ?_
        refine lv_iload_n hx hb dX5_takeDots_27 rfl (lv_at hl 3 rfl) ?_
        refine lv_i2l (v := (x3).toInt64) hx hb dX5_takeDots_28 rfl ?_
        refine lv_ladd hx hb dX5_takeDots_29 ?_
        obtain ⟨b7, eb7, hf⟩ := hm_b_s hf
        obtain ⟨v8, h6, eh6, hf⟩ := hm_b2_s hf
        refine hm_cV (As := [.long v4, .long (v5 + ((x3).toInt64))]) (rest := []) ⟨hx, hb, hml, hown, hts⟩ hK hI eb7 rfl rfl (kX3_indexOf l D kA b7 v4 (v5 + ((x3).toInt64)) h h6 v8 eh6) (cwV 2 hts gX5_takeDots_X3_indexOf rfl rfl rfl (by decide +kernel) ⟨Nat.le_of_ble_eq_true rfl, Nat.le_of_ble_eq_true rfl⟩) rfl hl.1 rfl (by first | exact Nat.le_of_ble_eq_true rfl | (simp only [List.map, hm_rf_cat, hm_ci, hm_cl, List.sum_cons, List.sum_nil] <;> decide)) dX5_takeDots_30 ⟨Nat.le_of_ble_eq_true rfl, Nat.le_of_ble_eq_true rfl⟩ (fun H locs hI => ?_)
        refine lv_istore (lv' := [(4, .int v8), (0, va_rf x0), (1, va_rf x1), (2, va_rf x2), (3, .int x3)]) hx hb dX5_takeDots_33 hl (by decide) rfl (fun ls hl => ?_)
        refine hm_aload_n hx hb dX5_takeDots_35 rfl (lv_at hl 2 rfl) ?_
        obtain ⟨v9, ev9, hf⟩ := hm_b_s hf
        refine hm_get (ci := 1) (k := 0) (C := RX1) (T := TX1) (N := 4) hx hb hts hiX1 hown hK hI rfl (by decide) w3 (hm_gq_s ev9) dX5_takeDots_36 ?_
        obtain ⟨v10, ev10, hf⟩ := hm_b_s hf
        refine hm_get (ci := 3) (k := 3) (C := RX3) (T := TX3) (N := 5) hx hb hts hiX3 hown hK hI rfl (by decide) w6 (hm_gq_s ev10) dX5_takeDots_39 ?_
        refine lv_iload hx hb dX5_takeDots_42 (lv_at hl 0 rfl) ?_
        refine hm_aload_n hx hb dX5_takeDots_44 rfl (lv_at hl 1 rfl) ?_
        obtain ⟨v11, ev11, hf⟩ := hm_b_s hf
        refine hm_get (ci := 5) (k := 4) (C := RX5) (T := TX5) (N := 5) hx hb hts hiX5 hown hK hI rfl (by decide) w7 (hm_gq_s ev11) dX5_takeDots_45 ?_
        refine lv_iload_n hx hb dX5_takeDots_48 rfl (lv_at hl 4 rfl) ?_
        refine hm_aload_n hx hb dX5_takeDots_49 rfl (lv_at hl 3 rfl) ?_
        obtain ⟨v12, ev12, hf⟩ := hm_b_s hf
        refine hm_get (ci := 0) (k := 2) (C := RX0) (T := TX0) (N := 4) hx hb hts hiX0 hown hK hI rfl (by decide) w8 (hm_gi_s ev12) dX5_takeDots_50 ?_
        refine lv_imul hx hb dX5_takeDots_53 ?_
        refine hm_aload_n hx hb dX5_takeDots_54 rfl (lv_at hl 3 rfl) ?_
        obtain ⟨v13, ev13, hf⟩ := hm_b_s hf
        refine hm_get (ci := 0) (k := 2) (C := RX0) (T := TX0) (N := 4) hx hb hts hiX0 hown hK hI rfl (by decide) w8 (hm_gi_s ev13) dX5_takeDots_55 ?_
        obtain ⟨h14, eh14, hf⟩ := hm_b_s hf
        refine hm_copy (t0 := 0) hx hb (hml.trans hl.1.symm) hown w9 w10 w11 w12 hK hI rfl eh14 (Nat.le_of_ble_eq_true rfl) (by first | exact Nat.le_of_ble_eq_true rfl | (simp only [List.map, hm_rf_cat, hm_ci, hm_cl, List.sum_cons, List.sum_nil] <;> exact Nat.le_of_ble_eq_true rfl)) dX5_takeDots_58 (fun H locs hI => ?_)
        refine lv_iinc (v := x3 + (1 : Int32)) (lv' := [(3, .int (x3 + (1 : Int32))), (4, .int v8), (0, va_rf x0), (1, va_rf x1), (2, va_rf x2)]) hx hb dX5_takeDots_61 hl (k := 4) rfl rfl (by decide) (by simp only [List.filter, hm_cat2, Bool.and_false, Bool.not_false] <;> rfl) (fun ls hl => ?_)
        refine lv_goto (tgt := 7) hx hb dX5_takeDots_64 (by decide) ?_
        exact ih7 x0 x1 x2 (x3 + (1 : Int32)) h14 hf _ _ _ hI (lv_sub hl [2, 3, 4, 0] rfl)
  rw [show entryFrame m args 5 = entryFrame m ([.ref t, va_rf a1] : List Value).toArray 5 from by rw [hargs]]
  have hl := lv_entry ([.ref t, va_rf a1]) (n := 5) (by simp only [hm_sl_q, hm_sl_i, hm_sl_l, hm_sl_r, hm_sl_n, List.length_cons, List.length_nil] <;> decide)
  rw [lg_entry_eq]
  generalize (lg_sl ([.ref t, va_rf a1]) ++ List.replicate (5 - (lg_sl ([.ref t, va_rf a1])).length) Slot.unset).toArray = ls at hl ⊢
  rw [show lv_args 0 [.ref t, va_rf a1] = [(0, va_rf (some t)), (1, va_rf a1)] from by simp only [hm_ar_q, hm_ar_i, hm_ar_l, hm_ar_r, hm_ar_n]] at hl
  have hl : lv_has ls 5 [(0, va_rf (some t)), (1, va_rf a1)] := hl
  unfold fX5_takeDots at hf
  refine hm_aload_n hx hb dX5_takeDots_0 rfl (lv_at hl 1 rfl) ?_
  obtain ⟨v1, ev1, hf⟩ := hm_b_s hf
  refine hm_get (ci := 1) (k := 2) (C := RX1) (T := TX1) (N := 4) hx hb hts hiX1 hown hK hI rfl (by decide) w1 (hm_gq_s ev1) dX5_takeDots_1 ?_
  refine hm_astore_n (lv' := [(2, va_rf v1), (0, va_rf (some t)), (1, va_rf a1)]) hx hb dX5_takeDots_4 rfl hl (by decide) (by simp only [List.filter, hm_cat2, Bool.and_false, Bool.not_false] <;> rfl) (fun ls hl => ?_)
  refine lv_iconst (v := (0 : Int32)) hx hb dX5_takeDots_5 (by decide) ?_
  refine lv_istore_n (lv' := [(3, .int (0 : Int32)), (2, va_rf v1), (0, va_rf (some t)), (1, va_rf a1)]) hx hb dX5_takeDots_6 rfl hl (by decide) (by simp only [List.filter, hm_cat2, Bool.and_false, Bool.not_false] <;> rfl) (fun ls hl => ?_)
  exact B7 hm_fu (some t) a1 v1 (0 : Int32) h0 hf _ _ _ hI (lv_sub hl [2, 3, 1, 0] rfl)
/-! ==== X5_copy: BlitBoard.copy(IIIIIIIII)I ==== -/
def fX5_copy (t : Nat) (a1 : Int32) (a2 : Int32) (a3 : Int32) (a4 : Int32) (a5 : Int32) (a6 : Int32) (a7 : Int32) (a8 : Int32) (a9 : Int32) (h0 : hm_H) : Option (Int32 × hm_H) :=
  hm_b (hm_rc 5 h0 (some t)) fun b2 =>
  hm_b2 (fX5_surfaceAt b2 a1 h0) fun v3 h1 =>
  hm_let (hm_n h1 (.inr (0, [.long 0, .long 0, .int 0, .int 0]))) fun h4 =>
  hm_b (fX0_init h1.2 ((a2).toInt64) ((a3).toInt64) a4 a5 h4) fun h5 =>
  hm_b (hm_rc 5 h5 (some t)) fun b7 =>
  hm_b2 (fX5_surfaceAt b7 a6 h5) fun v8 h6 =>
  hm_b2 (fX5_moveOf v3 (some h1.2) v8 a7 a8 h6) fun v10 h9 =>
  if v10 = none then
    some ((-1 : Int32), h9)
  else
    hm_b (hm_rc 1 h9 v10) fun b12 =>
    hm_b2 (fX1_keepsDepth b12 h9) fun v13 h11 =>
    if v13 = 0 then
      some ((-1 : Int32), h11)
    else
      hm_b2 (fX5_isOperation a9 h11) fun v15 h14 =>
      if v15 = 0 then
        some ((-1 : Int32), h14)
      else
        hm_b (hm_rc 5 h14 (some t)) fun b17 =>
        hm_b (fX5_takeDots b17 v10 h14) fun h16 =>
        hm_b (hm_gq 1 1 h16 v10) fun v18 =>
        hm_b (hm_gq 1 3 h16 v10) fun v19 =>
        hm_b (hm_rc 5 h16 (some t)) fun b21 =>
        hm_b (fX5_putDots b21 v18 v19 a9 h16) fun h20 =>
        hm_b (hm_gq 1 3 h20 v10) fun v22 =>
        hm_b (hm_rc 0 h20 v22) fun b24 =>
        hm_b2 (fX0_size b24 h20) fun v25 h23 =>
        some (v25, h23)
set_option maxRecDepth 100000 in
set_option maxHeartbeats 8000000 in
theorem kX5_copy (l : Launch) (D : va_G) (kA : Nat → ClassId) (t : Nat) (a1 : Int32) (a2 : Int32) (a3 : Int32) (a4 : Int32) (a5 : Int32) (a6 : Int32) (a7 : Int32) (a8 : Int32) (a9 : Int32) (h0 h' : hm_H) (r : Int32) (hf : fX5_copy t a1 a2 a3 a4 a5 a6 a7 a8 a9 h0 = some (r, h')) : hm_C l yX5_copy wsX5_copy { frames := 5, cells := 6, slots := 24, locals := 128 } D vwCl kA (hm_ty kA) [.ref t, .int a1, .int a2, .int a3, .int a4, .int a5, .int a6, .int a7, .int a8, .int a9] h0 (some (.int r)) h' 6 24 := by
  refine Met.ofW (cc := cX5_copy) (maxL := 11) (ret := (some .int)) (by decide) rfl ?_
  intro p e s m args below meth c s₁ B hml hv
  obtain ⟨hargs, hB⟩ := hv
  have hx := B.exec
  have hb := B.bytes
  have hr := B.returns
  have hts := atoms_spec (ws := wsX5_copy) B.pre
  have hown : s.vm.findClass RX5 = some m.cls := findClass_of_methodNamed B.named
  have hlocks := B.notSynchronized
  have hK := hB.2
  have hI := hm_start hB
  have w1 := hts (.classLink RX5 49 RX0) (by decide +kernel)
  have w2 := hts (.instantiable RX0 4) (by decide +kernel)
  have w3 := hts (.initialized RX0) (by decide +kernel)
  have w4 := hts (.methodLink RX5 51 yX0_init) (by decide +kernel)
  have w5 := hts (.instanceMethod yX0_init) (by decide +kernel)
  have w6 := hts (.fieldLink RX5 122 "BlitBoard$Move" "to" "LBlitBoard$Surface;") (by decide +kernel)
  have w7 := hts (.fieldLink RX5 126 "BlitBoard$Move" "target" "LBlitBoard$Area;") (by decide +kernel)
  have hiX0 : ∀ w ∈ wsX00, w ∈ wsX5_copy := by decide +kernel
  have hiX1 : ∀ w ∈ wsX10, w ∈ wsX5_copy := by decide +kernel
  rw [show entryFrame m args 11 = entryFrame m ([.ref t, .int a1, .int a2, .int a3, .int a4, .int a5, .int a6, .int a7, .int a8, .int a9] : List Value).toArray 11 from by rw [hargs]]
  have hl := lv_entry ([.ref t, .int a1, .int a2, .int a3, .int a4, .int a5, .int a6, .int a7, .int a8, .int a9]) (n := 11) (Nat.le_of_ble_eq_true rfl)
  rw [lg_entry_eq]
  generalize (lg_sl ([.ref t, .int a1, .int a2, .int a3, .int a4, .int a5, .int a6, .int a7, .int a8, .int a9]) ++ List.replicate (11 - (lg_sl ([.ref t, .int a1, .int a2, .int a3, .int a4, .int a5, .int a6, .int a7, .int a8, .int a9])).length) Slot.unset).toArray = ls at hl ⊢
  have hl : lv_has ls 11 [(0, va_rf (some t)), (1, .int a1), (2, .int a2), (3, .int a3), (4, .int a4), (5, .int a5), (6, .int a6), (7, .int a7), (8, .int a8), (9, .int a9)] := hl
  unfold fX5_copy at hf
  refine hm_aload_n hx hb dX5_copy_0 rfl (lv_at hl 0 rfl) ?_
  refine lv_iload_n hx hb dX5_copy_1 rfl (lv_at hl 1 rfl) ?_
  obtain ⟨b2, eb2, hf⟩ := hm_b_s hf
  obtain ⟨v3, h1, eh1, hf⟩ := hm_b2_s hf
  refine hm_cV (As := [.int a1]) (rest := []) ⟨hx, hb, hml, hown, hts⟩ hK hI eb2 rfl rfl (kX5_surfaceAt l D kA b2 a1 h0 h1 v3 eh1) (cwV 1 hts gX5_copy_X5_surfaceAt rfl rfl rfl (by decide +kernel) ⟨Nat.le_of_ble_eq_true rfl, Nat.le_of_ble_eq_true rfl⟩) rfl hl.1 rfl (by first | exact Nat.le_of_ble_eq_true rfl | (simp only [List.map, hm_rf_cat, hm_ci, hm_cl, List.sum_cons, List.sum_nil] <;> decide)) dX5_copy_2 ⟨Nat.le_of_ble_eq_true rfl, Nat.le_of_ble_eq_true rfl⟩ (fun H locs hI => ?_)
  obtain ⟨h4, eh4, hf⟩ := hm_let_s hf
  refine hm_new (ci := 0) (fs := [.long 0, .long 0, .int 0, .int 0]) (C := RX0) (T := TX0) (N := 4) hx hb hts hiX0 tyX0 tyX0_ok hown w1 w2 w3 hK hI rfl (fun j hj => by rcases (show j = 0 ∨ j = 1 ∨ j = 2 ∨ j = 3 by omega) with rfl | rfl | rfl | rfl <;> rfl) (Nat.le_of_ble_eq_true rfl) (Nat.le_of_ble_eq_true rfl) dX5_copy_5 (fun H hI => ?_)
  rw [← eh4] at hI
  refine W.cs (cells' := 1) (slots' := 4) rfl rfl ?_
  refine lv_dup hx hb dX5_copy_8 (hm_rf_cat _) ?_
  refine lv_iload_n hx hb dX5_copy_9 rfl (lv_at hl 2 rfl) ?_
  refine lv_i2l (v := (a2).toInt64) hx hb dX5_copy_10 rfl ?_
  refine lv_iload_n hx hb dX5_copy_11 rfl (lv_at hl 3 rfl) ?_
  refine lv_i2l (v := (a3).toInt64) hx hb dX5_copy_12 rfl ?_
  refine lv_iload hx hb dX5_copy_13 (lv_at hl 4 rfl) ?_
  refine lv_iload hx hb dX5_copy_15 (lv_at hl 5 rfl) ?_
  obtain ⟨h5, eh5, hf⟩ := hm_b_s hf
  refine hm_cI (As := [.long ((a2).toInt64), .long ((a3).toInt64), .int a4, .int a5]) (rest := [va_rf (some h1.2), va_rf v3]) ⟨hx, hb, hml, hown, hts⟩ hK hI (kX0_init l D kA h1.2 ((a2).toInt64) ((a3).toInt64) a4 a5 h4 h5 eh5) (cwI 4 hts gX5_copy_X0_init rfl rfl rfl w3 w4 w5 rfl (by decide +kernel) ⟨Nat.le_of_ble_eq_true rfl, Nat.le_of_ble_eq_true rfl⟩) rfl hl.1 rfl (by first | exact Nat.le_of_ble_eq_true rfl | (simp only [List.map, hm_rf_cat, hm_ci, hm_cl, List.sum_cons, List.sum_nil] <;> decide)) dX5_copy_17 ⟨Nat.le_of_ble_eq_true rfl, Nat.le_of_ble_eq_true rfl⟩ (fun H locs hI => ?_)
  refine W.eq (g2 := F0 m 20 ls [va_rf (some h1.2), va_rf v3]) rfl ?_
  refine hm_aload_n hx hb dX5_copy_20 rfl (lv_at hl 0 rfl) ?_
  refine lv_iload hx hb dX5_copy_21 (lv_at hl 6 rfl) ?_
  obtain ⟨b7, eb7, hf⟩ := hm_b_s hf
  obtain ⟨v8, h6, eh6, hf⟩ := hm_b2_s hf
  refine hm_cV (As := [.int a6]) (rest := [va_rf (some h1.2), va_rf v3]) ⟨hx, hb, hml, hown, hts⟩ hK hI eb7 rfl rfl (kX5_surfaceAt l D kA b7 a6 h5 h6 v8 eh6) (cwV 1 hts gX5_copy_X5_surfaceAt rfl rfl rfl (by decide +kernel) ⟨Nat.le_of_ble_eq_true rfl, Nat.le_of_ble_eq_true rfl⟩) rfl hl.1 rfl (by first | exact Nat.le_of_ble_eq_true rfl | (simp only [List.map, hm_rf_cat, hm_ci, hm_cl, List.sum_cons, List.sum_nil] <;> decide)) dX5_copy_23 ⟨Nat.le_of_ble_eq_true rfl, Nat.le_of_ble_eq_true rfl⟩ (fun H locs hI => ?_)
  refine lv_iload hx hb dX5_copy_26 (lv_at hl 7 rfl) ?_
  refine lv_iload hx hb dX5_copy_28 (lv_at hl 8 rfl) ?_
  obtain ⟨v10, h9, eh9, hf⟩ := hm_b2_s hf
  refine hm_cS (As := [va_rf v3, va_rf (some h1.2), va_rf v8, .int a7, .int a8]) (rest := []) ⟨hx, hb, hml, hown, hts⟩ hK hI (kX5_moveOf l D kA v3 (some h1.2) v8 a7 a8 h6 h9 v10 eh9) (va_cwS 5 hts gX5_copy_X5_moveOf rfl rfl rfl (by decide +kernel) ⟨Nat.le_of_ble_eq_true rfl, Nat.le_of_ble_eq_true rfl⟩) rfl hl.1 rfl (by first | exact Nat.le_of_ble_eq_true rfl | (simp only [List.map, hm_rf_cat, hm_ci, hm_cl, List.sum_cons, List.sum_nil] <;> decide)) dX5_copy_30 ⟨Nat.le_of_ble_eq_true rfl, Nat.le_of_ble_eq_true rfl⟩ (fun H locs hI => ?_)
  refine W.cs (cells' := 6) (slots' := 24) rfl rfl ?_
  refine hm_astore (lv' := [(10, va_rf v10), (0, va_rf (some t)), (1, .int a1), (2, .int a2), (3, .int a3), (4, .int a4), (5, .int a5), (6, .int a6), (7, .int a7), (8, .int a8), (9, .int a9)]) hx hb dX5_copy_33 hl (by decide) rfl (fun ls hl => ?_)
  refine hm_aload hx hb dX5_copy_35 (lv_at hl 0 rfl) ?_
  refine hm_ifnull (tgt := 56) hx hb dX5_copy_37 (by decide) (fun c => ?_) (fun c => ?_)
  · rw [if_pos c] at hf
    refine lv_iconst (v := (-1 : Int32)) hx hb dX5_copy_56 (by decide) ?_
    exact hm_iret_e hf hx hb hr hlocks hK hI (Nat.le_of_ble_eq_true rfl) (Nat.le_of_ble_eq_true rfl) dX5_copy_57
  · rw [if_neg c] at hf
    refine hm_aload hx hb dX5_copy_40 (lv_at hl 0 rfl) ?_
    obtain ⟨b12, eb12, hf⟩ := hm_b_s hf
    obtain ⟨v13, h11, eh11, hf⟩ := hm_b2_s hf
    refine hm_cV (As := []) (rest := []) ⟨hx, hb, hml, hown, hts⟩ hK hI eb12 rfl rfl (kX1_keepsDepth l D kA b12 h9 h11 v13 eh11) (cwV 0 hts gX5_copy_X1_keepsDepth rfl rfl rfl (by decide +kernel) ⟨Nat.le_of_ble_eq_true rfl, Nat.le_of_ble_eq_true rfl⟩) rfl hl.1 rfl (by first | exact Nat.le_of_ble_eq_true rfl | (simp only [List.map, hm_rf_cat, hm_ci, hm_cl, List.sum_cons, List.sum_nil] <;> decide)) dX5_copy_42 ⟨Nat.le_of_ble_eq_true rfl, Nat.le_of_ble_eq_true rfl⟩ (fun H locs hI => ?_)
    refine lv_if_eq (tgt := 56) hx hb dX5_copy_45 (by decide) (fun c => ?_) (fun c => ?_)
    · rw [if_pos c] at hf
      refine lv_iconst (v := (-1 : Int32)) hx hb dX5_copy_56 (by decide) ?_
      exact hm_iret_e hf hx hb hr hlocks hK hI (Nat.le_of_ble_eq_true rfl) (Nat.le_of_ble_eq_true rfl) dX5_copy_57
    · rw [if_neg c] at hf
      refine lv_iload hx hb dX5_copy_48 (lv_at hl 10 rfl) ?_
      obtain ⟨v15, h14, eh14, hf⟩ := hm_b2_s hf
      refine hm_cS (As := [.int a9]) (rest := []) ⟨hx, hb, hml, hown, hts⟩ hK hI (kX5_isOperation l D kA a9 h11 h14 v15 eh14) (va_cwS 1 hts gX5_copy_X5_isOperation rfl rfl rfl (by decide +kernel) ⟨Nat.le_of_ble_eq_true rfl, Nat.le_of_ble_eq_true rfl⟩) rfl hl.1 rfl (by first | exact Nat.le_of_ble_eq_true rfl | (simp only [List.map, hm_rf_cat, hm_ci, hm_cl, List.sum_cons, List.sum_nil] <;> decide)) dX5_copy_50 ⟨Nat.le_of_ble_eq_true rfl, Nat.le_of_ble_eq_true rfl⟩ (fun H locs hI => ?_)
      refine lv_if_ne (tgt := 58) hx hb dX5_copy_53 (by decide) (fun c => ?_) (fun c => ?_)
      · rw [if_neg c] at hf
        refine hm_aload_n hx hb dX5_copy_58 rfl (lv_at hl 1 rfl) ?_
        refine hm_aload hx hb dX5_copy_59 (lv_at hl 0 rfl) ?_
        obtain ⟨b17, eb17, hf⟩ := hm_b_s hf
        obtain ⟨h16, eh16, hf⟩ := hm_b_s hf
        refine hm_cV (As := [va_rf v10]) (rest := []) ⟨hx, hb, hml, hown, hts⟩ hK hI eb17 rfl rfl (kX5_takeDots l D kA b17 v10 h14 h16 eh16) (cwV 1 hts gX5_copy_X5_takeDots rfl rfl rfl (by decide +kernel) ⟨Nat.le_of_ble_eq_true rfl, Nat.le_of_ble_eq_true rfl⟩) rfl hl.1 rfl (by first | exact Nat.le_of_ble_eq_true rfl | (simp only [List.map, hm_rf_cat, hm_ci, hm_cl, List.sum_cons, List.sum_nil] <;> decide)) dX5_copy_61 ⟨Nat.le_of_ble_eq_true rfl, Nat.le_of_ble_eq_true rfl⟩ (fun H locs hI => ?_)
        refine W.eq (g2 := F0 m 64 ls []) rfl ?_
        refine hm_aload_n hx hb dX5_copy_64 rfl (lv_at hl 1 rfl) ?_
        refine hm_aload hx hb dX5_copy_65 (lv_at hl 0 rfl) ?_
        obtain ⟨v18, ev18, hf⟩ := hm_b_s hf
        refine hm_get (ci := 1) (k := 1) (C := RX1) (T := TX1) (N := 4) hx hb hts hiX1 hown hK hI rfl (by decide) w6 (hm_gq_s ev18) dX5_copy_67 ?_
        refine hm_aload hx hb dX5_copy_70 (lv_at hl 0 rfl) ?_
        obtain ⟨v19, ev19, hf⟩ := hm_b_s hf
        refine hm_get (ci := 1) (k := 3) (C := RX1) (T := TX1) (N := 4) hx hb hts hiX1 hown hK hI rfl (by decide) w7 (hm_gq_s ev19) dX5_copy_72 ?_
        refine lv_iload hx hb dX5_copy_75 (lv_at hl 10 rfl) ?_
        obtain ⟨b21, eb21, hf⟩ := hm_b_s hf
        obtain ⟨h20, eh20, hf⟩ := hm_b_s hf
        refine hm_cV (As := [va_rf v18, va_rf v19, .int a9]) (rest := []) ⟨hx, hb, hml, hown, hts⟩ hK hI eb21 rfl rfl (kX5_putDots l D kA b21 v18 v19 a9 h16 h20 eh20) (cwV 3 hts gX5_copy_X5_putDots rfl rfl rfl (by decide +kernel) ⟨Nat.le_of_ble_eq_true rfl, Nat.le_of_ble_eq_true rfl⟩) rfl hl.1 rfl (by first | exact Nat.le_of_ble_eq_true rfl | (simp only [List.map, hm_rf_cat, hm_ci, hm_cl, List.sum_cons, List.sum_nil] <;> decide)) dX5_copy_77 ⟨Nat.le_of_ble_eq_true rfl, Nat.le_of_ble_eq_true rfl⟩ (fun H locs hI => ?_)
        refine W.eq (g2 := F0 m 80 ls []) rfl ?_
        refine hm_aload hx hb dX5_copy_80 (lv_at hl 0 rfl) ?_
        obtain ⟨v22, ev22, hf⟩ := hm_b_s hf
        refine hm_get (ci := 1) (k := 3) (C := RX1) (T := TX1) (N := 4) hx hb hts hiX1 hown hK hI rfl (by decide) w7 (hm_gq_s ev22) dX5_copy_82 ?_
        obtain ⟨b24, eb24, hf⟩ := hm_b_s hf
        obtain ⟨v25, h23, eh23, hf⟩ := hm_b2_s hf
        refine hm_cV (As := []) (rest := []) ⟨hx, hb, hml, hown, hts⟩ hK hI eb24 rfl rfl (kX0_size l D kA b24 h20 h23 v25 eh23) (cwV 0 hts gX5_copy_X0_size rfl rfl rfl (by decide +kernel) ⟨Nat.le_of_ble_eq_true rfl, Nat.le_of_ble_eq_true rfl⟩) rfl hl.1 rfl (by first | exact Nat.le_of_ble_eq_true rfl | (simp only [List.map, hm_rf_cat, hm_ci, hm_cl, List.sum_cons, List.sum_nil] <;> decide)) dX5_copy_85 ⟨Nat.le_of_ble_eq_true rfl, Nat.le_of_ble_eq_true rfl⟩ (fun H locs hI => ?_)
        exact hm_iret_e hf hx hb hr hlocks hK hI (Nat.le_of_ble_eq_true rfl) (Nat.le_of_ble_eq_true rfl) dX5_copy_88
      · rw [if_pos c] at hf
        refine lv_iconst (v := (-1 : Int32)) hx hb dX5_copy_56 (by decide) ?_
        exact hm_iret_e hf hx hb hr hlocks hK hI (Nat.le_of_ble_eq_true rfl) (Nat.le_of_ble_eq_true rfl) dX5_copy_57
/-! ==== X5_dropKey: BlitBoard.dropKey(II)V ==== -/
def fX5_dropKey_24 (K2 : Option Nat → Int32 → Int32 → Int32 → hm_H → Option hm_H) (x0 : Option Nat) (x1 : Int32) (x2 : Int32) (x3 : Int32) (h : hm_H) : Option hm_H :=
  K2 x0 x1 x2 (x3 + (1 : Int32)) h
def fX5_dropKey_2 (K2 : Option Nat → Int32 → Int32 → Int32 → hm_H → Option hm_H) (x0 : Option Nat) (x1 : Int32) (x2 : Int32) (x3 : Int32) (h : hm_H) : Option hm_H :=
  if x1 ≤ x3 then
    some h
  else
    hm_b (hm_gq 5 4 h x0) fun v1 =>
    hm_b (hm_ai 0 h v1 x3) fun v2 =>
    if v2 = x2 then
      hm_b (hm_gq 5 4 h x0) fun v3 =>
      hm_b (hm_si 0 h v3 x3 (-1 : Int32)) fun h4 =>
      fX5_dropKey_24 K2 x0 x1 x2 x3 h4
    else
      fX5_dropKey_24 K2 x0 x1 x2 x3 h
def fX5_dropKey (t : Nat) (a1 : Int32) (a2 : Int32) (h0 : hm_H) : Option hm_H :=
  hm_loop (fun _ _ _ _ _ => none) (fX5_dropKey_2) hm_fu (some t) a1 a2 (0 : Int32) h0
set_option maxRecDepth 100000 in
set_option maxHeartbeats 8000000 in
theorem kX5_dropKey (l : Launch) (D : va_G) (kA : Nat → ClassId) (t : Nat) (a1 : Int32) (a2 : Int32) (h0 h' : hm_H) (hf : fX5_dropKey t a1 a2 h0 = some h') : hm_C l yX5_dropKey wsX5_dropKey { frames := 0, cells := 0, slots := 0, locals := 0 } D vwCl kA (hm_ty kA) [.ref t, .int a1, .int a2] h0 none h' 0 0 := by
  refine Met.ofW (cc := cX5_dropKey) (maxL := 4) (ret := none) (by decide) rfl ?_
  intro p e s m args below meth c s₁ B hml hv
  obtain ⟨hargs, hB⟩ := hv
  have hx := B.exec
  have hb := B.bytes
  have hr := B.returns
  have hts := atoms_spec (ws := wsX5_dropKey) B.pre
  have hown : s.vm.findClass RX5 = some m.cls := findClass_of_methodNamed B.named
  have hlocks := B.notSynchronized
  have hK := hB.2
  have hI := hm_start hB
  have w1 := hts (.fieldLink RX5 30 "BlitBoard" "taken" "[I") (by decide +kernel)
  have hiX5 : ∀ w ∈ wsX50, w ∈ wsX5_dropKey := by decide +kernel
  have B2 : ∀ (fu : Nat) (x0 : Option Nat) (x1 : Int32) (x2 : Int32) (x3 : Int32) (h : hm_H), hm_loop (fun _ _ _ _ _ => none) (fX5_dropKey_2) fu x0 x1 x2 x3 h = some h' → ∀ (H : Heap) (locs : List Loc) (ls : Array Slot), hm_I D vwCl kA (hm_A h0) s.heap h H locs → lv_has ls 4 [(0, va_rf x0), (1, .int x1), (2, .int x2), (3, .int x3)] → W p l e (headSpec wsX5_dropKey { frames := 0, cells := 0, slots := 0, locals := 0 }).room s m args below meth c H locs 0 0 (MQ below (hm_Q D vwCl kA (hm_ty kA) h0 none h') args s 0 0 (hm_A h0)) (F0 m 2 ls []) := by
    intro fu
    induction fu with
    | zero => intro x0 x1 x2 x3 h hf; cases hf
    | succ fu ih2 =>
      rw [hm_loop_s]
      generalize hm_loop (fun _ _ _ _ _ => none) (fX5_dropKey_2) fu = K2 at ih2 ⊢
      have B24 : ∀ (x0 : Option Nat) (x1 : Int32) (x2 : Int32) (x3 : Int32) (h : hm_H), fX5_dropKey_24 K2 x0 x1 x2 x3 h = some h' → ∀ (H : Heap) (locs : List Loc) (ls : Array Slot), hm_I D vwCl kA (hm_A h0) s.heap h H locs → lv_has ls 4 [(0, va_rf x0), (1, .int x1), (2, .int x2), (3, .int x3)] → W p l e (headSpec wsX5_dropKey { frames := 0, cells := 0, slots := 0, locals := 0 }).room s m args below meth c H locs 0 0 (MQ below (hm_Q D vwCl kA (hm_ty kA) h0 none h') args s 0 0 (hm_A h0)) (F0 m 24 ls []) := by
        intro x0 x1 x2 x3 h hf H locs ls hI hl
        unfold fX5_dropKey_24 at hf
        refine lv_iinc (v := x3 + (1 : Int32)) (lv' := [(3, .int (x3 + (1 : Int32))), (0, va_rf x0), (1, .int x1), (2, .int x2)]) hx hb dX5_dropKey_24 hl (k := 3) rfl rfl (by decide) rfl (fun ls hl => ?_)
        refine lv_goto (tgt := 2) hx hb dX5_dropKey_27 (by decide) ?_
        exact ih2 x0 x1 x2 (x3 + (1 : Int32)) h hf _ _ _ hI (lv_sub hl [1, 2, 3, 0] rfl)
      intro x0 x1 x2 x3 h hf H locs ls hI hl
      unfold fX5_dropKey_2 at hf
      refine lv_iload_n hx hb dX5_dropKey_2 rfl (lv_at hl 3 rfl) ?_
      refine lv_iload_n hx hb dX5_dropKey_3 rfl (lv_at hl 1 rfl) ?_
      refine lv_icmp_ge (tgt := 30) hx hb dX5_dropKey_4 (by decide) (fun c => ?_) (fun c => ?_)
      · rw [if_pos c] at hf
        exact hm_vret_e hf hx hb hr hlocks hK hI (Nat.le_of_ble_eq_true rfl) (Nat.le_of_ble_eq_true rfl) dX5_dropKey_30
      · rw [if_neg c] at hf
        refine hm_aload_n hx hb dX5_dropKey_7 rfl (lv_at hl 0 rfl) ?_
        obtain ⟨v1, ev1, hf⟩ := hm_b_s hf
        refine hm_get (ci := 5) (k := 4) (C := RX5) (T := TX5) (N := 5) hx hb hts hiX5 hown hK hI rfl (by decide) w1 (hm_gq_s ev1) dX5_dropKey_8 ?_
        refine lv_iload_n hx hb dX5_dropKey_11 rfl (lv_at hl 3 rfl) ?_
        obtain ⟨v2, ev2, hf⟩ := hm_b_s hf
        refine hm_iald (kd := 0) (t0 := 0) hx hb hK hI rfl ev2 dX5_dropKey_12 ?_
        refine lv_iload_n hx hb dX5_dropKey_13 rfl (lv_at hl 2 rfl) ?_
        refine lv_icmp_ne (tgt := 24) hx hb dX5_dropKey_14 (by decide) (fun c => ?_) (fun c => ?_)
        · rw [if_neg c] at hf
          exact B24 x0 x1 x2 x3 h hf _ _ _ hI (lv_sub hl [0, 1, 2, 3] rfl)
        · rw [if_pos c] at hf
          refine hm_aload_n hx hb dX5_dropKey_17 rfl (lv_at hl 0 rfl) ?_
          obtain ⟨v3, ev3, hf⟩ := hm_b_s hf
          refine hm_get (ci := 5) (k := 4) (C := RX5) (T := TX5) (N := 5) hx hb hts hiX5 hown hK hI rfl (by decide) w1 (hm_gq_s ev3) dX5_dropKey_18 ?_
          refine lv_iload_n hx hb dX5_dropKey_21 rfl (lv_at hl 3 rfl) ?_
          refine lv_iconst (v := (-1 : Int32)) hx hb dX5_dropKey_22 (by decide) ?_
          obtain ⟨h4, eh4, hf⟩ := hm_b_s hf
          refine hm_iast (kd := 0) (t0 := 0) hx hb hK hI rfl eh4 dX5_dropKey_23 (fun H locs hI => ?_)
          exact B24 x0 x1 x2 x3 h4 hf _ _ _ hI (lv_sub hl [0, 1, 2, 3] rfl)
  rw [show entryFrame m args 4 = entryFrame m ([.ref t, .int a1, .int a2] : List Value).toArray 4 from by rw [hargs]]
  have hl := lv_entry ([.ref t, .int a1, .int a2]) (n := 4) (Nat.le_of_ble_eq_true rfl)
  rw [lg_entry_eq]
  generalize (lg_sl ([.ref t, .int a1, .int a2]) ++ List.replicate (4 - (lg_sl ([.ref t, .int a1, .int a2])).length) Slot.unset).toArray = ls at hl ⊢
  have hl : lv_has ls 4 [(0, va_rf (some t)), (1, .int a1), (2, .int a2)] := hl
  unfold fX5_dropKey at hf
  refine lv_iconst (v := (0 : Int32)) hx hb dX5_dropKey_0 (by decide) ?_
  refine lv_istore_n (lv' := [(3, .int (0 : Int32)), (0, va_rf (some t)), (1, .int a1), (2, .int a2)]) hx hb dX5_dropKey_1 rfl hl (by decide) rfl (fun ls hl => ?_)
  exact B2 hm_fu (some t) a1 a2 (0 : Int32) h0 hf _ _ _ hI (lv_sub hl [1, 2, 3, 0] rfl)
/-! ==== X5_keyed: BlitBoard.keyed(IIIIIIIII)I ==== -/
def fX5_keyed (t : Nat) (a1 : Int32) (a2 : Int32) (a3 : Int32) (a4 : Int32) (a5 : Int32) (a6 : Int32) (a7 : Int32) (a8 : Int32) (a9 : Int32) (h0 : hm_H) : Option (Int32 × hm_H) :=
  hm_b (hm_rc 5 h0 (some t)) fun b2 =>
  hm_b2 (fX5_surfaceAt b2 a1 h0) fun v3 h1 =>
  hm_let (hm_n h1 (.inr (0, [.long 0, .long 0, .int 0, .int 0]))) fun h4 =>
  hm_b (fX0_init h1.2 ((a2).toInt64) ((a3).toInt64) a4 a5 h4) fun h5 =>
  hm_b (hm_rc 5 h5 (some t)) fun b7 =>
  hm_b2 (fX5_surfaceAt b7 a6 h5) fun v8 h6 =>
  hm_b2 (fX5_moveOf v3 (some h1.2) v8 a7 a8 h6) fun v10 h9 =>
  if v10 = none then
    some ((-1 : Int32), h9)
  else
    hm_b (hm_rc 1 h9 v10) fun b12 =>
    hm_b2 (fX1_keepsDepth b12 h9) fun v13 h11 =>
    if v13 = 0 then
      some ((-1 : Int32), h11)
    else
      hm_b (hm_gq 1 1 h11 v10) fun v14 =>
      hm_b (hm_rc 3 h11 v14) fun b16 =>
      hm_b2 (fX3_fits b16 a9 h11) fun v17 h15 =>
      if v17 = 0 then
        some ((-1 : Int32), h15)
      else
        hm_b (hm_rc 5 h15 (some t)) fun b19 =>
        hm_b (fX5_takeDots b19 v10 h15) fun h18 =>
        hm_b (hm_gq 1 3 h18 v10) fun v20 =>
        hm_b (hm_rc 0 h18 v20) fun b22 =>
        hm_b2 (fX0_size b22 h18) fun v23 h21 =>
        hm_b (hm_rc 5 h21 (some t)) fun b25 =>
        hm_b (fX5_dropKey b25 v23 a9 h21) fun h24 =>
        hm_b (hm_gq 1 1 h24 v10) fun v26 =>
        hm_b (hm_gq 1 3 h24 v10) fun v27 =>
        hm_b (hm_rc 5 h24 (some t)) fun b29 =>
        hm_b (fX5_putDots b29 v26 v27 (12 : Int32) h24) fun h28 =>
        hm_b (hm_gq 1 3 h28 v10) fun v30 =>
        hm_b (hm_rc 0 h28 v30) fun b32 =>
        hm_b2 (fX0_size b32 h28) fun v33 h31 =>
        some (v33, h31)
set_option maxRecDepth 100000 in
set_option maxHeartbeats 8000000 in
theorem kX5_keyed (l : Launch) (D : va_G) (kA : Nat → ClassId) (t : Nat) (a1 : Int32) (a2 : Int32) (a3 : Int32) (a4 : Int32) (a5 : Int32) (a6 : Int32) (a7 : Int32) (a8 : Int32) (a9 : Int32) (h0 h' : hm_H) (r : Int32) (hf : fX5_keyed t a1 a2 a3 a4 a5 a6 a7 a8 a9 h0 = some (r, h')) : hm_C l yX5_keyed wsX5_keyed { frames := 5, cells := 6, slots := 24, locals := 128 } D vwCl kA (hm_ty kA) [.ref t, .int a1, .int a2, .int a3, .int a4, .int a5, .int a6, .int a7, .int a8, .int a9] h0 (some (.int r)) h' 6 24 := by
  refine Met.ofW (cc := cX5_keyed) (maxL := 11) (ret := (some .int)) (by decide) rfl ?_
  intro p e s m args below meth c s₁ B hml hv
  obtain ⟨hargs, hB⟩ := hv
  have hx := B.exec
  have hb := B.bytes
  have hr := B.returns
  have hts := atoms_spec (ws := wsX5_keyed) B.pre
  have hown : s.vm.findClass RX5 = some m.cls := findClass_of_methodNamed B.named
  have hlocks := B.notSynchronized
  have hK := hB.2
  have hI := hm_start hB
  have w1 := hts (.classLink RX5 49 RX0) (by decide +kernel)
  have w2 := hts (.instantiable RX0 4) (by decide +kernel)
  have w3 := hts (.initialized RX0) (by decide +kernel)
  have w4 := hts (.methodLink RX5 51 yX0_init) (by decide +kernel)
  have w5 := hts (.instanceMethod yX0_init) (by decide +kernel)
  have w6 := hts (.fieldLink RX5 122 "BlitBoard$Move" "to" "LBlitBoard$Surface;") (by decide +kernel)
  have w7 := hts (.fieldLink RX5 126 "BlitBoard$Move" "target" "LBlitBoard$Area;") (by decide +kernel)
  have hiX0 : ∀ w ∈ wsX00, w ∈ wsX5_keyed := by decide +kernel
  have hiX1 : ∀ w ∈ wsX10, w ∈ wsX5_keyed := by decide +kernel
  rw [show entryFrame m args 11 = entryFrame m ([.ref t, .int a1, .int a2, .int a3, .int a4, .int a5, .int a6, .int a7, .int a8, .int a9] : List Value).toArray 11 from by rw [hargs]]
  have hl := lv_entry ([.ref t, .int a1, .int a2, .int a3, .int a4, .int a5, .int a6, .int a7, .int a8, .int a9]) (n := 11) (Nat.le_of_ble_eq_true rfl)
  rw [lg_entry_eq]
  generalize (lg_sl ([.ref t, .int a1, .int a2, .int a3, .int a4, .int a5, .int a6, .int a7, .int a8, .int a9]) ++ List.replicate (11 - (lg_sl ([.ref t, .int a1, .int a2, .int a3, .int a4, .int a5, .int a6, .int a7, .int a8, .int a9])).length) Slot.unset).toArray = ls at hl ⊢
  have hl : lv_has ls 11 [(0, va_rf (some t)), (1, .int a1), (2, .int a2), (3, .int a3), (4, .int a4), (5, .int a5), (6, .int a6), (7, .int a7), (8, .int a8), (9, .int a9)] := hl
  unfold fX5_keyed at hf
  refine hm_aload_n hx hb dX5_keyed_0 rfl (lv_at hl 0 rfl) ?_
  refine lv_iload_n hx hb dX5_keyed_1 rfl (lv_at hl 1 rfl) ?_
  obtain ⟨b2, eb2, hf⟩ := hm_b_s hf
  obtain ⟨v3, h1, eh1, hf⟩ := hm_b2_s hf
  refine hm_cV (As := [.int a1]) (rest := []) ⟨hx, hb, hml, hown, hts⟩ hK hI eb2 rfl rfl (kX5_surfaceAt l D kA b2 a1 h0 h1 v3 eh1) (cwV 1 hts gX5_keyed_X5_surfaceAt rfl rfl rfl (by decide +kernel) ⟨Nat.le_of_ble_eq_true rfl, Nat.le_of_ble_eq_true rfl⟩) rfl hl.1 rfl (by first | exact Nat.le_of_ble_eq_true rfl | (simp only [List.map, hm_rf_cat, hm_ci, hm_cl, List.sum_cons, List.sum_nil] <;> decide)) dX5_keyed_2 ⟨Nat.le_of_ble_eq_true rfl, Nat.le_of_ble_eq_true rfl⟩ (fun H locs hI => ?_)
  obtain ⟨h4, eh4, hf⟩ := hm_let_s hf
  refine hm_new (ci := 0) (fs := [.long 0, .long 0, .int 0, .int 0]) (C := RX0) (T := TX0) (N := 4) hx hb hts hiX0 tyX0 tyX0_ok hown w1 w2 w3 hK hI rfl (fun j hj => by rcases (show j = 0 ∨ j = 1 ∨ j = 2 ∨ j = 3 by omega) with rfl | rfl | rfl | rfl <;> rfl) (Nat.le_of_ble_eq_true rfl) (Nat.le_of_ble_eq_true rfl) dX5_keyed_5 (fun H hI => ?_)
  rw [← eh4] at hI
  refine W.cs (cells' := 1) (slots' := 4) rfl rfl ?_
  refine lv_dup hx hb dX5_keyed_8 (hm_rf_cat _) ?_
  refine lv_iload_n hx hb dX5_keyed_9 rfl (lv_at hl 2 rfl) ?_
  refine lv_i2l (v := (a2).toInt64) hx hb dX5_keyed_10 rfl ?_
  refine lv_iload_n hx hb dX5_keyed_11 rfl (lv_at hl 3 rfl) ?_
  refine lv_i2l (v := (a3).toInt64) hx hb dX5_keyed_12 rfl ?_
  refine lv_iload hx hb dX5_keyed_13 (lv_at hl 4 rfl) ?_
  refine lv_iload hx hb dX5_keyed_15 (lv_at hl 5 rfl) ?_
  obtain ⟨h5, eh5, hf⟩ := hm_b_s hf
  refine hm_cI (As := [.long ((a2).toInt64), .long ((a3).toInt64), .int a4, .int a5]) (rest := [va_rf (some h1.2), va_rf v3]) ⟨hx, hb, hml, hown, hts⟩ hK hI (kX0_init l D kA h1.2 ((a2).toInt64) ((a3).toInt64) a4 a5 h4 h5 eh5) (cwI 4 hts gX5_keyed_X0_init rfl rfl rfl w3 w4 w5 rfl (by decide +kernel) ⟨Nat.le_of_ble_eq_true rfl, Nat.le_of_ble_eq_true rfl⟩) rfl hl.1 rfl (by first | exact Nat.le_of_ble_eq_true rfl | (simp only [List.map, hm_rf_cat, hm_ci, hm_cl, List.sum_cons, List.sum_nil] <;> decide)) dX5_keyed_17 ⟨Nat.le_of_ble_eq_true rfl, Nat.le_of_ble_eq_true rfl⟩ (fun H locs hI => ?_)
  refine W.eq (g2 := F0 m 20 ls [va_rf (some h1.2), va_rf v3]) rfl ?_
  refine hm_aload_n hx hb dX5_keyed_20 rfl (lv_at hl 0 rfl) ?_
  refine lv_iload hx hb dX5_keyed_21 (lv_at hl 6 rfl) ?_
  obtain ⟨b7, eb7, hf⟩ := hm_b_s hf
  obtain ⟨v8, h6, eh6, hf⟩ := hm_b2_s hf
  refine hm_cV (As := [.int a6]) (rest := [va_rf (some h1.2), va_rf v3]) ⟨hx, hb, hml, hown, hts⟩ hK hI eb7 rfl rfl (kX5_surfaceAt l D kA b7 a6 h5 h6 v8 eh6) (cwV 1 hts gX5_keyed_X5_surfaceAt rfl rfl rfl (by decide +kernel) ⟨Nat.le_of_ble_eq_true rfl, Nat.le_of_ble_eq_true rfl⟩) rfl hl.1 rfl (by first | exact Nat.le_of_ble_eq_true rfl | (simp only [List.map, hm_rf_cat, hm_ci, hm_cl, List.sum_cons, List.sum_nil] <;> decide)) dX5_keyed_23 ⟨Nat.le_of_ble_eq_true rfl, Nat.le_of_ble_eq_true rfl⟩ (fun H locs hI => ?_)
  refine lv_iload hx hb dX5_keyed_26 (lv_at hl 7 rfl) ?_
  refine lv_iload hx hb dX5_keyed_28 (lv_at hl 8 rfl) ?_
  obtain ⟨v10, h9, eh9, hf⟩ := hm_b2_s hf
  refine hm_cS (As := [va_rf v3, va_rf (some h1.2), va_rf v8, .int a7, .int a8]) (rest := []) ⟨hx, hb, hml, hown, hts⟩ hK hI (kX5_moveOf l D kA v3 (some h1.2) v8 a7 a8 h6 h9 v10 eh9) (va_cwS 5 hts gX5_keyed_X5_moveOf rfl rfl rfl (by decide +kernel) ⟨Nat.le_of_ble_eq_true rfl, Nat.le_of_ble_eq_true rfl⟩) rfl hl.1 rfl (by first | exact Nat.le_of_ble_eq_true rfl | (simp only [List.map, hm_rf_cat, hm_ci, hm_cl, List.sum_cons, List.sum_nil] <;> decide)) dX5_keyed_30 ⟨Nat.le_of_ble_eq_true rfl, Nat.le_of_ble_eq_true rfl⟩ (fun H locs hI => ?_)
  refine W.cs (cells' := 6) (slots' := 24) rfl rfl ?_
  refine hm_astore (lv' := [(10, va_rf v10), (0, va_rf (some t)), (1, .int a1), (2, .int a2), (3, .int a3), (4, .int a4), (5, .int a5), (6, .int a6), (7, .int a7), (8, .int a8), (9, .int a9)]) hx hb dX5_keyed_33 hl (by decide) rfl (fun ls hl => ?_)
  refine hm_aload hx hb dX5_keyed_35 (lv_at hl 0 rfl) ?_
  refine hm_ifnull (tgt := 61) hx hb dX5_keyed_37 (by decide) (fun c => ?_) (fun c => ?_)
  · rw [if_pos c] at hf
    refine lv_iconst (v := (-1 : Int32)) hx hb dX5_keyed_61 (by decide) ?_
    exact hm_iret_e hf hx hb hr hlocks hK hI (Nat.le_of_ble_eq_true rfl) (Nat.le_of_ble_eq_true rfl) dX5_keyed_62
  · rw [if_neg c] at hf
    refine hm_aload hx hb dX5_keyed_40 (lv_at hl 0 rfl) ?_
    obtain ⟨b12, eb12, hf⟩ := hm_b_s hf
    obtain ⟨v13, h11, eh11, hf⟩ := hm_b2_s hf
    refine hm_cV (As := []) (rest := []) ⟨hx, hb, hml, hown, hts⟩ hK hI eb12 rfl rfl (kX1_keepsDepth l D kA b12 h9 h11 v13 eh11) (cwV 0 hts gX5_keyed_X1_keepsDepth rfl rfl rfl (by decide +kernel) ⟨Nat.le_of_ble_eq_true rfl, Nat.le_of_ble_eq_true rfl⟩) rfl hl.1 rfl (by first | exact Nat.le_of_ble_eq_true rfl | (simp only [List.map, hm_rf_cat, hm_ci, hm_cl, List.sum_cons, List.sum_nil] <;> decide)) dX5_keyed_42 ⟨Nat.le_of_ble_eq_true rfl, Nat.le_of_ble_eq_true rfl⟩ (fun H locs hI => ?_)
    refine lv_if_eq (tgt := 61) hx hb dX5_keyed_45 (by decide) (fun c => ?_) (fun c => ?_)
    · rw [if_pos c] at hf
      refine lv_iconst (v := (-1 : Int32)) hx hb dX5_keyed_61 (by decide) ?_
      exact hm_iret_e hf hx hb hr hlocks hK hI (Nat.le_of_ble_eq_true rfl) (Nat.le_of_ble_eq_true rfl) dX5_keyed_62
    · rw [if_neg c] at hf
      refine hm_aload hx hb dX5_keyed_48 (lv_at hl 0 rfl) ?_
      obtain ⟨v14, ev14, hf⟩ := hm_b_s hf
      refine hm_get (ci := 1) (k := 1) (C := RX1) (T := TX1) (N := 4) hx hb hts hiX1 hown hK hI rfl (by decide) w6 (hm_gq_s ev14) dX5_keyed_50 ?_
      refine lv_iload hx hb dX5_keyed_53 (lv_at hl 10 rfl) ?_
      obtain ⟨b16, eb16, hf⟩ := hm_b_s hf
      obtain ⟨v17, h15, eh15, hf⟩ := hm_b2_s hf
      refine hm_cV (As := [.int a9]) (rest := []) ⟨hx, hb, hml, hown, hts⟩ hK hI eb16 rfl rfl (kX3_fits l D kA b16 a9 h11 h15 v17 eh15) (cwV 1 hts gX5_keyed_X3_fits rfl rfl rfl (by decide +kernel) ⟨Nat.le_of_ble_eq_true rfl, Nat.le_of_ble_eq_true rfl⟩) rfl hl.1 rfl (by first | exact Nat.le_of_ble_eq_true rfl | (simp only [List.map, hm_rf_cat, hm_ci, hm_cl, List.sum_cons, List.sum_nil] <;> decide)) dX5_keyed_55 ⟨Nat.le_of_ble_eq_true rfl, Nat.le_of_ble_eq_true rfl⟩ (fun H locs hI => ?_)
      refine lv_if_ne (tgt := 63) hx hb dX5_keyed_58 (by decide) (fun c => ?_) (fun c => ?_)
      · rw [if_neg c] at hf
        refine hm_aload_n hx hb dX5_keyed_63 rfl (lv_at hl 1 rfl) ?_
        refine hm_aload hx hb dX5_keyed_64 (lv_at hl 0 rfl) ?_
        obtain ⟨b19, eb19, hf⟩ := hm_b_s hf
        obtain ⟨h18, eh18, hf⟩ := hm_b_s hf
        refine hm_cV (As := [va_rf v10]) (rest := []) ⟨hx, hb, hml, hown, hts⟩ hK hI eb19 rfl rfl (kX5_takeDots l D kA b19 v10 h15 h18 eh18) (cwV 1 hts gX5_keyed_X5_takeDots rfl rfl rfl (by decide +kernel) ⟨Nat.le_of_ble_eq_true rfl, Nat.le_of_ble_eq_true rfl⟩) rfl hl.1 rfl (by first | exact Nat.le_of_ble_eq_true rfl | (simp only [List.map, hm_rf_cat, hm_ci, hm_cl, List.sum_cons, List.sum_nil] <;> decide)) dX5_keyed_66 ⟨Nat.le_of_ble_eq_true rfl, Nat.le_of_ble_eq_true rfl⟩ (fun H locs hI => ?_)
        refine W.eq (g2 := F0 m 69 ls []) rfl ?_
        refine hm_aload_n hx hb dX5_keyed_69 rfl (lv_at hl 1 rfl) ?_
        refine hm_aload hx hb dX5_keyed_70 (lv_at hl 0 rfl) ?_
        obtain ⟨v20, ev20, hf⟩ := hm_b_s hf
        refine hm_get (ci := 1) (k := 3) (C := RX1) (T := TX1) (N := 4) hx hb hts hiX1 hown hK hI rfl (by decide) w7 (hm_gq_s ev20) dX5_keyed_72 ?_
        obtain ⟨b22, eb22, hf⟩ := hm_b_s hf
        obtain ⟨v23, h21, eh21, hf⟩ := hm_b2_s hf
        refine hm_cV (As := []) (rest := [va_rf (some t)]) ⟨hx, hb, hml, hown, hts⟩ hK hI eb22 rfl rfl (kX0_size l D kA b22 h18 h21 v23 eh21) (cwV 0 hts gX5_keyed_X0_size rfl rfl rfl (by decide +kernel) ⟨Nat.le_of_ble_eq_true rfl, Nat.le_of_ble_eq_true rfl⟩) rfl hl.1 rfl (by first | exact Nat.le_of_ble_eq_true rfl | (simp only [List.map, hm_rf_cat, hm_ci, hm_cl, List.sum_cons, List.sum_nil] <;> decide)) dX5_keyed_75 ⟨Nat.le_of_ble_eq_true rfl, Nat.le_of_ble_eq_true rfl⟩ (fun H locs hI => ?_)
        refine lv_iload hx hb dX5_keyed_78 (lv_at hl 10 rfl) ?_
        obtain ⟨b25, eb25, hf⟩ := hm_b_s hf
        obtain ⟨h24, eh24, hf⟩ := hm_b_s hf
        refine hm_cV (As := [.int v23, .int a9]) (rest := []) ⟨hx, hb, hml, hown, hts⟩ hK hI eb25 rfl rfl (kX5_dropKey l D kA b25 v23 a9 h21 h24 eh24) (cwV 2 hts gX5_keyed_X5_dropKey rfl rfl rfl (by decide +kernel) ⟨Nat.le_of_ble_eq_true rfl, Nat.le_of_ble_eq_true rfl⟩) rfl hl.1 rfl (by first | exact Nat.le_of_ble_eq_true rfl | (simp only [List.map, hm_rf_cat, hm_ci, hm_cl, List.sum_cons, List.sum_nil] <;> decide)) dX5_keyed_80 ⟨Nat.le_of_ble_eq_true rfl, Nat.le_of_ble_eq_true rfl⟩ (fun H locs hI => ?_)
        refine W.eq (g2 := F0 m 83 ls []) rfl ?_
        refine hm_aload_n hx hb dX5_keyed_83 rfl (lv_at hl 1 rfl) ?_
        refine hm_aload hx hb dX5_keyed_84 (lv_at hl 0 rfl) ?_
        obtain ⟨v26, ev26, hf⟩ := hm_b_s hf
        refine hm_get (ci := 1) (k := 1) (C := RX1) (T := TX1) (N := 4) hx hb hts hiX1 hown hK hI rfl (by decide) w6 (hm_gq_s ev26) dX5_keyed_86 ?_
        refine hm_aload hx hb dX5_keyed_89 (lv_at hl 0 rfl) ?_
        obtain ⟨v27, ev27, hf⟩ := hm_b_s hf
        refine hm_get (ci := 1) (k := 3) (C := RX1) (T := TX1) (N := 4) hx hb hts hiX1 hown hK hI rfl (by decide) w7 (hm_gq_s ev27) dX5_keyed_91 ?_
        refine lv_bipush (v := (12 : Int32)) hx hb dX5_keyed_94 (by decide) ?_
        obtain ⟨b29, eb29, hf⟩ := hm_b_s hf
        obtain ⟨h28, eh28, hf⟩ := hm_b_s hf
        refine hm_cV (As := [va_rf v26, va_rf v27, .int (12 : Int32)]) (rest := []) ⟨hx, hb, hml, hown, hts⟩ hK hI eb29 rfl rfl (kX5_putDots l D kA b29 v26 v27 (12 : Int32) h24 h28 eh28) (cwV 3 hts gX5_keyed_X5_putDots rfl rfl rfl (by decide +kernel) ⟨Nat.le_of_ble_eq_true rfl, Nat.le_of_ble_eq_true rfl⟩) rfl hl.1 rfl (by first | exact Nat.le_of_ble_eq_true rfl | (simp only [List.map, hm_rf_cat, hm_ci, hm_cl, List.sum_cons, List.sum_nil] <;> decide)) dX5_keyed_96 ⟨Nat.le_of_ble_eq_true rfl, Nat.le_of_ble_eq_true rfl⟩ (fun H locs hI => ?_)
        refine W.eq (g2 := F0 m 99 ls []) rfl ?_
        refine hm_aload hx hb dX5_keyed_99 (lv_at hl 0 rfl) ?_
        obtain ⟨v30, ev30, hf⟩ := hm_b_s hf
        refine hm_get (ci := 1) (k := 3) (C := RX1) (T := TX1) (N := 4) hx hb hts hiX1 hown hK hI rfl (by decide) w7 (hm_gq_s ev30) dX5_keyed_101 ?_
        obtain ⟨b32, eb32, hf⟩ := hm_b_s hf
        obtain ⟨v33, h31, eh31, hf⟩ := hm_b2_s hf
        refine hm_cV (As := []) (rest := []) ⟨hx, hb, hml, hown, hts⟩ hK hI eb32 rfl rfl (kX0_size l D kA b32 h28 h31 v33 eh31) (cwV 0 hts gX5_keyed_X0_size rfl rfl rfl (by decide +kernel) ⟨Nat.le_of_ble_eq_true rfl, Nat.le_of_ble_eq_true rfl⟩) rfl hl.1 rfl (by first | exact Nat.le_of_ble_eq_true rfl | (simp only [List.map, hm_rf_cat, hm_ci, hm_cl, List.sum_cons, List.sum_nil] <;> decide)) dX5_keyed_104 ⟨Nat.le_of_ble_eq_true rfl, Nat.le_of_ble_eq_true rfl⟩ (fun H locs hI => ?_)
        exact hm_iret_e hf hx hb hr hlocks hK hI (Nat.le_of_ble_eq_true rfl) (Nat.le_of_ble_eq_true rfl) dX5_keyed_107
      · rw [if_pos c] at hf
        refine lv_iconst (v := (-1 : Int32)) hx hb dX5_keyed_61 (by decide) ?_
        exact hm_iret_e hf hx hb hr hlocks hK hI (Nat.le_of_ble_eq_true rfl) (Nat.le_of_ble_eq_true rfl) dX5_keyed_62
/-! ==== X5_dropMasked: BlitBoard.dropMasked(LBlitBoard$Area;LBlitBoard$Surface;)V ==== -/
def fX5_dropMasked_59 (K13 : Option Nat → Option Nat → Option Nat → Int32 → Int32 → hm_H → Option hm_H) (x0 : Option Nat) (x1 : Option Nat) (x2 : Option Nat) (x3 : Int32) (x4 : Int32) (h : hm_H) : Option hm_H :=
  K13 x0 x1 x2 x3 (x4 + (1 : Int32)) h
def fX5_dropMasked_13 (K2 : Option Nat → Option Nat → Option Nat → Int32 → hm_H → Option hm_H) (K13 : Option Nat → Option Nat → Option Nat → Int32 → Int32 → hm_H → Option hm_H) (x0 : Option Nat) (x1 : Option Nat) (x2 : Option Nat) (x3 : Int32) (x4 : Int32) (h : hm_H) : Option hm_H :=
  hm_b (hm_gi 0 2 h x1) fun v2 =>
  if v2 ≤ x4 then
    K2 x0 x1 x2 (x3 + (1 : Int32)) h
  else
    hm_b (hm_gl 0 0 h x1) fun v3 =>
    hm_b (hm_gl 0 1 h x1) fun v4 =>
    hm_b (hm_rc 3 h x2) fun b6 =>
    hm_b2 (fX3_isOne b6 (v3 + ((x4).toInt64)) (v4 + ((x3).toInt64)) h) fun v7 h5 =>
    if v7 = 0 then
      hm_b (hm_gq 5 4 h5 x0) fun v8 =>
      hm_b (hm_gi 0 2 h5 x1) fun v9 =>
      hm_b (hm_si 0 h5 v8 ((x3 * v9) + x4) (-1 : Int32)) fun h10 =>
      fX5_dropMasked_59 K13 x0 x1 x2 x3 x4 h10
    else
      fX5_dropMasked_59 K13 x0 x1 x2 x3 x4 h5
def fX5_dropMasked_2 (K2 : Option Nat → Option Nat → Option Nat → Int32 → hm_H → Option hm_H) (x0 : Option Nat) (x1 : Option Nat) (x2 : Option Nat) (x3 : Int32) (h : hm_H) : Option hm_H :=
  hm_b (hm_gi 0 3 h x1) fun v1 =>
  if v1 ≤ x3 then
    some h
  else
    hm_loop (fun _ _ _ _ _ _ => none) (fX5_dropMasked_13 K2) hm_fu x0 x1 x2 x3 (0 : Int32) h
def fX5_dropMasked (t : Nat) (a1 : Option Nat) (a2 : Option Nat) (h0 : hm_H) : Option hm_H :=
  hm_loop (fun _ _ _ _ _ => none) (fX5_dropMasked_2) hm_fu (some t) a1 a2 (0 : Int32) h0
set_option maxRecDepth 100000 in
set_option maxHeartbeats 8000000 in
theorem kX5_dropMasked (l : Launch) (D : va_G) (kA : Nat → ClassId) (t : Nat) (a1 : Option Nat) (a2 : Option Nat) (h0 h' : hm_H) (hf : fX5_dropMasked t a1 a2 h0 = some h') : hm_C l yX5_dropMasked wsX5_dropMasked { frames := 2, cells := 0, slots := 0, locals := 48 } D vwCl kA (hm_ty kA) [.ref t, va_rf a1, va_rf a2] h0 none h' 0 0 := by
  refine Met.ofW (cc := cX5_dropMasked) (maxL := 5) (ret := none) (by decide) rfl ?_
  intro p e s m args below meth c s₁ B hml hv
  obtain ⟨hargs, hB⟩ := hv
  have hx := B.exec
  have hb := B.bytes
  have hr := B.returns
  have hts := atoms_spec (ws := wsX5_dropMasked) B.pre
  have hown : s.vm.findClass RX5 = some m.cls := findClass_of_methodNamed B.named
  have hlocks := B.notSynchronized
  have hK := hB.2
  have hI := hm_start hB
  have w1 := hts (.fieldLink RX5 85 "BlitBoard$Area" "high" "I") (by decide +kernel)
  have w2 := hts (.fieldLink RX5 82 "BlitBoard$Area" "wide" "I") (by decide +kernel)
  have w3 := hts (.fieldLink RX5 88 "BlitBoard$Area" "left" "J") (by decide +kernel)
  have w4 := hts (.fieldLink RX5 92 "BlitBoard$Area" "top" "J") (by decide +kernel)
  have w5 := hts (.fieldLink RX5 30 "BlitBoard" "taken" "[I") (by decide +kernel)
  have hiX0 : ∀ w ∈ wsX00, w ∈ wsX5_dropMasked := by decide +kernel
  have hiX5 : ∀ w ∈ wsX50, w ∈ wsX5_dropMasked := by decide +kernel
  have B2 : ∀ (fu : Nat) (x0 : Option Nat) (x1 : Option Nat) (x2 : Option Nat) (x3 : Int32) (h : hm_H), hm_loop (fun _ _ _ _ _ => none) (fX5_dropMasked_2) fu x0 x1 x2 x3 h = some h' → ∀ (H : Heap) (locs : List Loc) (ls : Array Slot), hm_I D vwCl kA (hm_A h0) s.heap h H locs → lv_has ls 5 [(0, va_rf x0), (1, va_rf x1), (2, va_rf x2), (3, .int x3)] → W p l e (headSpec wsX5_dropMasked { frames := 2, cells := 0, slots := 0, locals := 48 }).room s m args below meth c H locs 0 0 (MQ below (hm_Q D vwCl kA (hm_ty kA) h0 none h') args s 0 0 (hm_A h0)) (F0 m 2 ls []) := by
    intro fu
    induction fu with
    | zero => intro x0 x1 x2 x3 h hf; cases hf
    | succ fu ih2 =>
      rw [hm_loop_s]
      generalize hm_loop (fun _ _ _ _ _ => none) (fX5_dropMasked_2) fu = K2 at ih2 ⊢
      have B13 : ∀ (fu : Nat) (x0 : Option Nat) (x1 : Option Nat) (x2 : Option Nat) (x3 : Int32) (x4 : Int32) (h : hm_H), hm_loop (fun _ _ _ _ _ _ => none) (fX5_dropMasked_13 K2) fu x0 x1 x2 x3 x4 h = some h' → ∀ (H : Heap) (locs : List Loc) (ls : Array Slot), hm_I D vwCl kA (hm_A h0) s.heap h H locs → lv_has ls 5 [(0, va_rf x0), (1, va_rf x1), (2, va_rf x2), (3, .int x3), (4, .int x4)] → W p l e (headSpec wsX5_dropMasked { frames := 2, cells := 0, slots := 0, locals := 48 }).room s m args below meth c H locs 0 0 (MQ below (hm_Q D vwCl kA (hm_ty kA) h0 none h') args s 0 0 (hm_A h0)) (F0 m 13 ls []) := by
        intro fu
        induction fu with
        | zero => intro x0 x1 x2 x3 x4 h hf; cases hf
        | succ fu ih13 =>
          rw [hm_loop_s]
          generalize hm_loop (fun _ _ _ _ _ _ => none) (fX5_dropMasked_13 K2) fu = K13 at ih13 ⊢
          have B59 : ∀ (x0 : Option Nat) (x1 : Option Nat) (x2 : Option Nat) (x3 : Int32) (x4 : Int32) (h : hm_H), fX5_dropMasked_59 K13 x0 x1 x2 x3 x4 h = some h' → ∀ (H : Heap) (locs : List Loc) (ls : Array Slot), hm_I D vwCl kA (hm_A h0) s.heap h H locs → lv_has ls 5 [(0, va_rf x0), (1, va_rf x1), (2, va_rf x2), (3, .int x3), (4, .int x4)] → W p l e (headSpec wsX5_dropMasked { frames := 2, cells := 0, slots := 0, locals := 48 }).room s m args below meth c H locs 0 0 (MQ below (hm_Q D vwCl kA (hm_ty kA) h0 none h') args s 0 0 (hm_A h0)) (F0 m 59 ls []) := by
            intro x0 x1 x2 x3 x4 h hf H locs ls hI hl
            unfold fX5_dropMasked_59 at hf
            refine lv_iinc (v := x4 + (1 : Int32)) (lv' := [(4, .int (x4 + (1 : Int32))), (0, va_rf x0), (1, va_rf x1), (2, va_rf x2), (3, .int x3)]) hx hb dX5_dropMasked_59 hl (k := 4) rfl rfl (by decide) rfl (fun ls hl => ?_)
            refine lv_goto (tgt := 13) hx hb dX5_dropMasked_62 (by decide) ?_
            exact ih13 x0 x1 x2 x3 (x4 + (1 : Int32)) h hf _ _ _ hI (lv_sub hl [1, 2, 3, 4, 0] rfl)
          intro x0 x1 x2 x3 x4 h hf H locs ls hI hl
          unfold fX5_dropMasked_13 at hf
          refine lv_iload hx hb dX5_dropMasked_13 (lv_at hl 4 rfl) ?_
          refine hm_aload_n hx hb dX5_dropMasked_15 rfl (lv_at hl 1 rfl) ?_
          obtain ⟨v2, ev2, hf⟩ := hm_b_s hf
          refine hm_get (ci := 0) (k := 2) (C := RX0) (T := TX0) (N := 4) hx hb hts hiX0 hown hK hI rfl (by decide) w2 (hm_gi_s ev2) dX5_dropMasked_16 ?_
          refine lv_icmp_ge (tgt := 65) hx hb dX5_dropMasked_19 (by decide) (fun c => ?_) (fun c => ?_)
          · rw [if_pos c] at hf
            refine lv_iinc (v := x3 + (1 : Int32)) (lv' := [(3, .int (x3 + (1 : Int32))), (0, va_rf x0), (1, va_rf x1), (2, va_rf x2), (4, .int x4)]) hx hb dX5_dropMasked_65 hl (k := 3) rfl rfl (by decide) (by simp only [List.filter, hm_cat2, Bool.and_false, Bool.not_false] <;> rfl) (fun ls hl => ?_)
            refine lv_goto (tgt := 2) hx hb dX5_dropMasked_68 (by decide) ?_
            exact ih2 x0 x1 x2 (x3 + (1 : Int32)) h hf _ _ _ hI (lv_sub hl [1, 2, 3, 0] rfl)
          · rw [if_neg c] at hf
            refine hm_aload_n hx hb dX5_dropMasked_22 rfl (lv_at hl 2 rfl) ?_
            refine hm_aload_n hx hb dX5_dropMasked_23 rfl (lv_at hl 1 rfl) ?_
            obtain ⟨v3, ev3, hf⟩ := hm_b_s hf
            refine hm_get (ci := 0) (k := 0) (C := RX0) (T := TX0) (N := 4) hx hb hts hiX0 hown hK hI rfl (by decide) w3 (hm_gl_s ev3) dX5_dropMasked_24 ?_
            refine lv_iload hx hb dX5_dropMasked_27 (lv_at hl 4 rfl) ?_
            refine lv_i2l (v := (x4).toInt64) hx hb dX5_dropMasked_29 rfl ?_
            refine lv_ladd hx hb dX5_dropMasked_30 ?_
            refine hm_aload_n hx hb dX5_dropMasked_31 rfl (lv_at hl 1 rfl) ?_
            obtain ⟨v4, ev4, hf⟩ := hm_b_s hf
            refine hm_get (ci := 0) (k := 1) (C := RX0) (T := TX0) (N := 4) hx hb hts hiX0 hown hK hI rfl (by decide) w4 (hm_gl_s ev4) dX5_dropMasked_32 ?_
            refine lv_iload_n hx hb dX5_dropMasked_35 rfl (lv_at hl 3 rfl) ?_
            refine lv_i2l (v := (x3).toInt64) hx hb dX5_dropMasked_36 rfl ?_
            refine lv_ladd hx hb dX5_dropMasked_37 ?_
            obtain ⟨b6, eb6, hf⟩ := hm_b_s hf
            obtain ⟨v7, h5, eh5, hf⟩ := hm_b2_s hf
            refine hm_cV (As := [.long (v3 + ((x4).toInt64)), .long (v4 + ((x3).toInt64))]) (rest := []) ⟨hx, hb, hml, hown, hts⟩ hK hI eb6 rfl rfl (kX3_isOne l D kA b6 (v3 + ((x4).toInt64)) (v4 + ((x3).toInt64)) h h5 v7 eh5) (cwV 2 hts gX5_dropMasked_X3_isOne rfl rfl rfl (by decide +kernel) ⟨Nat.le_of_ble_eq_true rfl, Nat.le_of_ble_eq_true rfl⟩) rfl hl.1 rfl (by first | exact Nat.le_of_ble_eq_true rfl | (simp only [List.map, hm_rf_cat, hm_ci, hm_cl, List.sum_cons, List.sum_nil] <;> decide)) dX5_dropMasked_38 ⟨Nat.le_of_ble_eq_true rfl, Nat.le_of_ble_eq_true rfl⟩ (fun H locs hI => ?_)
            refine lv_if_ne (tgt := 59) hx hb dX5_dropMasked_41 (by decide) (fun c => ?_) (fun c => ?_)
            · rw [if_neg c] at hf
              exact B59 x0 x1 x2 x3 x4 h5 hf _ _ _ hI (lv_sub hl [0, 1, 2, 3, 4] rfl)
            · rw [if_pos c] at hf
              refine hm_aload_n hx hb dX5_dropMasked_44 rfl (lv_at hl 0 rfl) ?_
              obtain ⟨v8, ev8, hf⟩ := hm_b_s hf
              refine hm_get (ci := 5) (k := 4) (C := RX5) (T := TX5) (N := 5) hx hb hts hiX5 hown hK hI rfl (by decide) w5 (hm_gq_s ev8) dX5_dropMasked_45 ?_
              refine lv_iload_n hx hb dX5_dropMasked_48 rfl (lv_at hl 3 rfl) ?_
              refine hm_aload_n hx hb dX5_dropMasked_49 rfl (lv_at hl 1 rfl) ?_
              obtain ⟨v9, ev9, hf⟩ := hm_b_s hf
              refine hm_get (ci := 0) (k := 2) (C := RX0) (T := TX0) (N := 4) hx hb hts hiX0 hown hK hI rfl (by decide) w2 (hm_gi_s ev9) dX5_dropMasked_50 ?_
              refine lv_imul hx hb dX5_dropMasked_53 ?_
              refine lv_iload hx hb dX5_dropMasked_54 (lv_at hl 4 rfl) ?_
              refine lv_iadd hx hb dX5_dropMasked_56 ?_
              refine lv_iconst (v := (-1 : Int32)) hx hb dX5_dropMasked_57 (by decide) ?_
              obtain ⟨h10, eh10, hf⟩ := hm_b_s hf
              refine hm_iast (kd := 0) (t0 := 0) hx hb hK hI rfl eh10 dX5_dropMasked_58 (fun H locs hI => ?_)
              exact B59 x0 x1 x2 x3 x4 h10 hf _ _ _ hI (lv_sub hl [0, 1, 2, 3, 4] rfl)
      intro x0 x1 x2 x3 h hf H locs ls hI hl
      unfold fX5_dropMasked_2 at hf
      refine lv_iload_n hx hb dX5_dropMasked_2 rfl (lv_at hl 3 rfl) ?_
      refine hm_aload_n hx hb dX5_dropMasked_3 rfl (lv_at hl 1 rfl) ?_
      obtain ⟨v1, ev1, hf⟩ := hm_b_s hf
      refine hm_get (ci := 0) (k := 3) (C := RX0) (T := TX0) (N := 4) hx hb hts hiX0 hown hK hI rfl (by decide) w1 (hm_gi_s ev1) dX5_dropMasked_4 ?_
      refine lv_icmp_ge (tgt := 71) hx hb dX5_dropMasked_7 (by decide) (fun c => ?_) (fun c => ?_)
      · rw [if_pos c] at hf
        exact hm_vret_e hf hx hb hr hlocks hK hI (Nat.le_of_ble_eq_true rfl) (Nat.le_of_ble_eq_true rfl) dX5_dropMasked_71
      · rw [if_neg c] at hf
        refine lv_iconst (v := (0 : Int32)) hx hb dX5_dropMasked_10 (by decide) ?_
        refine lv_istore (lv' := [(4, .int (0 : Int32)), (0, va_rf x0), (1, va_rf x1), (2, va_rf x2), (3, .int x3)]) hx hb dX5_dropMasked_11 hl (by decide) rfl (fun ls hl => ?_)
        exact B13 hm_fu x0 x1 x2 x3 (0 : Int32) h hf _ _ _ hI (lv_sub hl [1, 2, 3, 4, 0] rfl)
  rw [show entryFrame m args 5 = entryFrame m ([.ref t, va_rf a1, va_rf a2] : List Value).toArray 5 from by rw [hargs]]
  have hl := lv_entry ([.ref t, va_rf a1, va_rf a2]) (n := 5) (by simp only [hm_sl_q, hm_sl_i, hm_sl_l, hm_sl_r, hm_sl_n, List.length_cons, List.length_nil] <;> decide)
  rw [lg_entry_eq]
  generalize (lg_sl ([.ref t, va_rf a1, va_rf a2]) ++ List.replicate (5 - (lg_sl ([.ref t, va_rf a1, va_rf a2])).length) Slot.unset).toArray = ls at hl ⊢
  rw [show lv_args 0 [.ref t, va_rf a1, va_rf a2] = [(0, va_rf (some t)), (1, va_rf a1), (2, va_rf a2)] from by simp only [hm_ar_q, hm_ar_i, hm_ar_l, hm_ar_r, hm_ar_n]] at hl
  have hl : lv_has ls 5 [(0, va_rf (some t)), (1, va_rf a1), (2, va_rf a2)] := hl
  unfold fX5_dropMasked at hf
  refine lv_iconst (v := (0 : Int32)) hx hb dX5_dropMasked_0 (by decide) ?_
  refine lv_istore_n (lv' := [(3, .int (0 : Int32)), (0, va_rf (some t)), (1, va_rf a1), (2, va_rf a2)]) hx hb dX5_dropMasked_1 rfl hl (by decide) (by simp only [List.filter, hm_cat2, Bool.and_false, Bool.not_false] <;> rfl) (fun ls hl => ?_)
  exact B2 hm_fu (some t) a1 a2 (0 : Int32) h0 hf _ _ _ hI (lv_sub hl [1, 2, 3, 0] rfl)
/-! ==== X5_masked: BlitBoard.masked(IIIIIIIII)I ==== -/
def fX5_masked (t : Nat) (a1 : Int32) (a2 : Int32) (a3 : Int32) (a4 : Int32) (a5 : Int32) (a6 : Int32) (a7 : Int32) (a8 : Int32) (a9 : Int32) (h0 : hm_H) : Option (Int32 × hm_H) :=
  hm_b (hm_rc 5 h0 (some t)) fun b2 =>
  hm_b2 (fX5_surfaceAt b2 a1 h0) fun v3 h1 =>
  hm_let (hm_n h1 (.inr (0, [.long 0, .long 0, .int 0, .int 0]))) fun h4 =>
  hm_b (fX0_init h1.2 ((a2).toInt64) ((a3).toInt64) a4 a5 h4) fun h5 =>
  hm_b (hm_rc 5 h5 (some t)) fun b7 =>
  hm_b2 (fX5_surfaceAt b7 a6 h5) fun v8 h6 =>
  hm_b2 (fX5_moveOf v3 (some h1.2) v8 a7 a8 h6) fun v10 h9 =>
  hm_b (hm_rc 5 h9 (some t)) fun b12 =>
  hm_b2 (fX5_surfaceAt b12 a9 h9) fun v13 h11 =>
  if v10 = none then
    some ((-1 : Int32), h11)
  else
    hm_b (hm_rc 1 h11 v10) fun b15 =>
    hm_b2 (fX1_keepsDepth b15 h11) fun v16 h14 =>
    if v16 = 0 then
      some ((-1 : Int32), h14)
    else
      if v13 = none then
        some ((-1 : Int32), h14)
      else
        hm_b (hm_gi 3 0 h14 v13) fun v17 =>
        if v17 = (1 : Int32) then
          hm_b (hm_rc 5 h14 (some t)) fun b19 =>
          hm_b (fX5_takeDots b19 v10 h14) fun h18 =>
          hm_b (hm_gq 1 2 h18 v10) fun v20 =>
          hm_b (hm_rc 5 h18 (some t)) fun b22 =>
          hm_b (fX5_dropMasked b22 v20 v13 h18) fun h21 =>
          hm_b (hm_gq 1 1 h21 v10) fun v23 =>
          hm_b (hm_gq 1 3 h21 v10) fun v24 =>
          hm_b (hm_rc 5 h21 (some t)) fun b26 =>
          hm_b (fX5_putDots b26 v23 v24 (12 : Int32) h21) fun h25 =>
          hm_b (hm_gq 1 3 h25 v10) fun v27 =>
          hm_b (hm_rc 0 h25 v27) fun b29 =>
          hm_b2 (fX0_size b29 h25) fun v30 h28 =>
          some (v30, h28)
        else
          some ((-1 : Int32), h14)
set_option maxRecDepth 100000 in
set_option maxHeartbeats 8000000 in
theorem kX5_masked (l : Launch) (D : va_G) (kA : Nat → ClassId) (t : Nat) (a1 : Int32) (a2 : Int32) (a3 : Int32) (a4 : Int32) (a5 : Int32) (a6 : Int32) (a7 : Int32) (a8 : Int32) (a9 : Int32) (h0 h' : hm_H) (r : Int32) (hf : fX5_masked t a1 a2 a3 a4 a5 a6 a7 a8 a9 h0 = some (r, h')) : hm_C l yX5_masked wsX5_masked { frames := 5, cells := 6, slots := 24, locals := 128 } D vwCl kA (hm_ty kA) [.ref t, .int a1, .int a2, .int a3, .int a4, .int a5, .int a6, .int a7, .int a8, .int a9] h0 (some (.int r)) h' 6 24 := by
  refine Met.ofW (cc := cX5_masked) (maxL := 12) (ret := (some .int)) (by decide) rfl ?_
  intro p e s m args below meth c s₁ B hml hv
  obtain ⟨hargs, hB⟩ := hv
  have hx := B.exec
  have hb := B.bytes
  have hr := B.returns
  have hts := atoms_spec (ws := wsX5_masked) B.pre
  have hown : s.vm.findClass RX5 = some m.cls := findClass_of_methodNamed B.named
  have hlocks := B.notSynchronized
  have hK := hB.2
  have hI := hm_start hB
  have w1 := hts (.classLink RX5 49 RX0) (by decide +kernel)
  have w2 := hts (.instantiable RX0 4) (by decide +kernel)
  have w3 := hts (.initialized RX0) (by decide +kernel)
  have w4 := hts (.methodLink RX5 51 yX0_init) (by decide +kernel)
  have w5 := hts (.instanceMethod yX0_init) (by decide +kernel)
  have w6 := hts (.fieldLink RX5 79 "BlitBoard$Surface" "depth" "I") (by decide +kernel)
  have w7 := hts (.fieldLink RX5 133 "BlitBoard$Move" "source" "LBlitBoard$Area;") (by decide +kernel)
  have w8 := hts (.fieldLink RX5 122 "BlitBoard$Move" "to" "LBlitBoard$Surface;") (by decide +kernel)
  have w9 := hts (.fieldLink RX5 126 "BlitBoard$Move" "target" "LBlitBoard$Area;") (by decide +kernel)
  have hiX0 : ∀ w ∈ wsX00, w ∈ wsX5_masked := by decide +kernel
  have hiX3 : ∀ w ∈ wsX30, w ∈ wsX5_masked := by decide +kernel
  have hiX1 : ∀ w ∈ wsX10, w ∈ wsX5_masked := by decide +kernel
  rw [show entryFrame m args 12 = entryFrame m ([.ref t, .int a1, .int a2, .int a3, .int a4, .int a5, .int a6, .int a7, .int a8, .int a9] : List Value).toArray 12 from by rw [hargs]]
  have hl := lv_entry ([.ref t, .int a1, .int a2, .int a3, .int a4, .int a5, .int a6, .int a7, .int a8, .int a9]) (n := 12) (Nat.le_of_ble_eq_true rfl)
  rw [lg_entry_eq]
  generalize (lg_sl ([.ref t, .int a1, .int a2, .int a3, .int a4, .int a5, .int a6, .int a7, .int a8, .int a9]) ++ List.replicate (12 - (lg_sl ([.ref t, .int a1, .int a2, .int a3, .int a4, .int a5, .int a6, .int a7, .int a8, .int a9])).length) Slot.unset).toArray = ls at hl ⊢
  have hl : lv_has ls 12 [(0, va_rf (some t)), (1, .int a1), (2, .int a2), (3, .int a3), (4, .int a4), (5, .int a5), (6, .int a6), (7, .int a7), (8, .int a8), (9, .int a9)] := hl
  unfold fX5_masked at hf
  refine hm_aload_n hx hb dX5_masked_0 rfl (lv_at hl 0 rfl) ?_
  refine lv_iload_n hx hb dX5_masked_1 rfl (lv_at hl 1 rfl) ?_
  obtain ⟨b2, eb2, hf⟩ := hm_b_s hf
  obtain ⟨v3, h1, eh1, hf⟩ := hm_b2_s hf
  refine hm_cV (As := [.int a1]) (rest := []) ⟨hx, hb, hml, hown, hts⟩ hK hI eb2 rfl rfl (kX5_surfaceAt l D kA b2 a1 h0 h1 v3 eh1) (cwV 1 hts gX5_masked_X5_surfaceAt rfl rfl rfl (by decide +kernel) ⟨Nat.le_of_ble_eq_true rfl, Nat.le_of_ble_eq_true rfl⟩) rfl hl.1 rfl (by first | exact Nat.le_of_ble_eq_true rfl | (simp only [List.map, hm_rf_cat, hm_ci, hm_cl, List.sum_cons, List.sum_nil] <;> decide)) dX5_masked_2 ⟨Nat.le_of_ble_eq_true rfl, Nat.le_of_ble_eq_true rfl⟩ (fun H locs hI => ?_)
  obtain ⟨h4, eh4, hf⟩ := hm_let_s hf
  refine hm_new (ci := 0) (fs := [.long 0, .long 0, .int 0, .int 0]) (C := RX0) (T := TX0) (N := 4) hx hb hts hiX0 tyX0 tyX0_ok hown w1 w2 w3 hK hI rfl (fun j hj => by rcases (show j = 0 ∨ j = 1 ∨ j = 2 ∨ j = 3 by omega) with rfl | rfl | rfl | rfl <;> rfl) (Nat.le_of_ble_eq_true rfl) (Nat.le_of_ble_eq_true rfl) dX5_masked_5 (fun H hI => ?_)
  rw [← eh4] at hI
  refine W.cs (cells' := 1) (slots' := 4) rfl rfl ?_
  refine lv_dup hx hb dX5_masked_8 (hm_rf_cat _) ?_
  refine lv_iload_n hx hb dX5_masked_9 rfl (lv_at hl 2 rfl) ?_
  refine lv_i2l (v := (a2).toInt64) hx hb dX5_masked_10 rfl ?_
  refine lv_iload_n hx hb dX5_masked_11 rfl (lv_at hl 3 rfl) ?_
  refine lv_i2l (v := (a3).toInt64) hx hb dX5_masked_12 rfl ?_
  refine lv_iload hx hb dX5_masked_13 (lv_at hl 4 rfl) ?_
  refine lv_iload hx hb dX5_masked_15 (lv_at hl 5 rfl) ?_
  obtain ⟨h5, eh5, hf⟩ := hm_b_s hf
  refine hm_cI (As := [.long ((a2).toInt64), .long ((a3).toInt64), .int a4, .int a5]) (rest := [va_rf (some h1.2), va_rf v3]) ⟨hx, hb, hml, hown, hts⟩ hK hI (kX0_init l D kA h1.2 ((a2).toInt64) ((a3).toInt64) a4 a5 h4 h5 eh5) (cwI 4 hts gX5_masked_X0_init rfl rfl rfl w3 w4 w5 rfl (by decide +kernel) ⟨Nat.le_of_ble_eq_true rfl, Nat.le_of_ble_eq_true rfl⟩) rfl hl.1 rfl (by first | exact Nat.le_of_ble_eq_true rfl | (simp only [List.map, hm_rf_cat, hm_ci, hm_cl, List.sum_cons, List.sum_nil] <;> decide)) dX5_masked_17 ⟨Nat.le_of_ble_eq_true rfl, Nat.le_of_ble_eq_true rfl⟩ (fun H locs hI => ?_)
  refine W.eq (g2 := F0 m 20 ls [va_rf (some h1.2), va_rf v3]) rfl ?_
  refine hm_aload_n hx hb dX5_masked_20 rfl (lv_at hl 0 rfl) ?_
  refine lv_iload hx hb dX5_masked_21 (lv_at hl 6 rfl) ?_
  obtain ⟨b7, eb7, hf⟩ := hm_b_s hf
  obtain ⟨v8, h6, eh6, hf⟩ := hm_b2_s hf
  refine hm_cV (As := [.int a6]) (rest := [va_rf (some h1.2), va_rf v3]) ⟨hx, hb, hml, hown, hts⟩ hK hI eb7 rfl rfl (kX5_surfaceAt l D kA b7 a6 h5 h6 v8 eh6) (cwV 1 hts gX5_masked_X5_surfaceAt rfl rfl rfl (by decide +kernel) ⟨Nat.le_of_ble_eq_true rfl, Nat.le_of_ble_eq_true rfl⟩) rfl hl.1 rfl (by first | exact Nat.le_of_ble_eq_true rfl | (simp only [List.map, hm_rf_cat, hm_ci, hm_cl, List.sum_cons, List.sum_nil] <;> decide)) dX5_masked_23 ⟨Nat.le_of_ble_eq_true rfl, Nat.le_of_ble_eq_true rfl⟩ (fun H locs hI => ?_)
  refine lv_iload hx hb dX5_masked_26 (lv_at hl 7 rfl) ?_
  refine lv_iload hx hb dX5_masked_28 (lv_at hl 8 rfl) ?_
  obtain ⟨v10, h9, eh9, hf⟩ := hm_b2_s hf
  refine hm_cS (As := [va_rf v3, va_rf (some h1.2), va_rf v8, .int a7, .int a8]) (rest := []) ⟨hx, hb, hml, hown, hts⟩ hK hI (kX5_moveOf l D kA v3 (some h1.2) v8 a7 a8 h6 h9 v10 eh9) (va_cwS 5 hts gX5_masked_X5_moveOf rfl rfl rfl (by decide +kernel) ⟨Nat.le_of_ble_eq_true rfl, Nat.le_of_ble_eq_true rfl⟩) rfl hl.1 rfl (by first | exact Nat.le_of_ble_eq_true rfl | (simp only [List.map, hm_rf_cat, hm_ci, hm_cl, List.sum_cons, List.sum_nil] <;> decide)) dX5_masked_30 ⟨Nat.le_of_ble_eq_true rfl, Nat.le_of_ble_eq_true rfl⟩ (fun H locs hI => ?_)
  refine W.cs (cells' := 6) (slots' := 24) rfl rfl ?_
  refine hm_astore (lv' := [(10, va_rf v10), (0, va_rf (some t)), (1, .int a1), (2, .int a2), (3, .int a3), (4, .int a4), (5, .int a5), (6, .int a6), (7, .int a7), (8, .int a8), (9, .int a9)]) hx hb dX5_masked_33 hl (by decide) rfl (fun ls hl => ?_)
  refine hm_aload_n hx hb dX5_masked_35 rfl (lv_at hl 1 rfl) ?_
  refine lv_iload hx hb dX5_masked_36 (lv_at hl 10 rfl) ?_
  obtain ⟨b12, eb12, hf⟩ := hm_b_s hf
  obtain ⟨v13, h11, eh11, hf⟩ := hm_b2_s hf
  refine hm_cV (As := [.int a9]) (rest := []) ⟨hx, hb, hml, hown, hts⟩ hK hI eb12 rfl rfl (kX5_surfaceAt l D kA b12 a9 h9 h11 v13 eh11) (cwV 1 hts gX5_masked_X5_surfaceAt rfl rfl rfl (by decide +kernel) ⟨Nat.le_of_ble_eq_true rfl, Nat.le_of_ble_eq_true rfl⟩) rfl hl.1 rfl (by first | exact Nat.le_of_ble_eq_true rfl | (simp only [List.map, hm_rf_cat, hm_ci, hm_cl, List.sum_cons, List.sum_nil] <;> decide)) dX5_masked_38 ⟨Nat.le_of_ble_eq_true rfl, Nat.le_of_ble_eq_true rfl⟩ (fun H locs hI => ?_)
  refine hm_astore (lv' := [(11, va_rf v13), (10, va_rf v10), (0, va_rf (some t)), (1, .int a1), (2, .int a2), (3, .int a3), (4, .int a4), (5, .int a5), (6, .int a6), (7, .int a7), (8, .int a8), (9, .int a9)]) hx hb dX5_masked_41 hl (by decide) (by simp only [List.filter, hm_cat2, Bool.and_false, Bool.not_false] <;> rfl) (fun ls hl => ?_)
  refine hm_aload hx hb dX5_masked_43 (lv_at hl 1 rfl) ?_
  refine hm_ifnull (tgt := 70) hx hb dX5_masked_45 (by decide) (fun c => ?_) (fun c => ?_)
  · rw [if_pos c] at hf
    refine lv_iconst (v := (-1 : Int32)) hx hb dX5_masked_70 (by decide) ?_
    exact hm_iret_e hf hx hb hr hlocks hK hI (Nat.le_of_ble_eq_true rfl) (Nat.le_of_ble_eq_true rfl) dX5_masked_71
  · rw [if_neg c] at hf
    refine hm_aload hx hb dX5_masked_48 (lv_at hl 1 rfl) ?_
    obtain ⟨b15, eb15, hf⟩ := hm_b_s hf
    obtain ⟨v16, h14, eh14, hf⟩ := hm_b2_s hf
    refine hm_cV (As := []) (rest := []) ⟨hx, hb, hml, hown, hts⟩ hK hI eb15 rfl rfl (kX1_keepsDepth l D kA b15 h11 h14 v16 eh14) (cwV 0 hts gX5_masked_X1_keepsDepth rfl rfl rfl (by decide +kernel) ⟨Nat.le_of_ble_eq_true rfl, Nat.le_of_ble_eq_true rfl⟩) rfl hl.1 rfl (by first | exact Nat.le_of_ble_eq_true rfl | (simp only [List.map, hm_rf_cat, hm_ci, hm_cl, List.sum_cons, List.sum_nil] <;> decide)) dX5_masked_50 ⟨Nat.le_of_ble_eq_true rfl, Nat.le_of_ble_eq_true rfl⟩ (fun H locs hI => ?_)
    refine lv_if_eq (tgt := 70) hx hb dX5_masked_53 (by decide) (fun c => ?_) (fun c => ?_)
    · rw [if_pos c] at hf
      refine lv_iconst (v := (-1 : Int32)) hx hb dX5_masked_70 (by decide) ?_
      exact hm_iret_e hf hx hb hr hlocks hK hI (Nat.le_of_ble_eq_true rfl) (Nat.le_of_ble_eq_true rfl) dX5_masked_71
    · rw [if_neg c] at hf
      refine hm_aload hx hb dX5_masked_56 (lv_at hl 0 rfl) ?_
      refine hm_ifnull (tgt := 70) hx hb dX5_masked_58 (by decide) (fun c => ?_) (fun c => ?_)
      · rw [if_pos c] at hf
        refine lv_iconst (v := (-1 : Int32)) hx hb dX5_masked_70 (by decide) ?_
        exact hm_iret_e hf hx hb hr hlocks hK hI (Nat.le_of_ble_eq_true rfl) (Nat.le_of_ble_eq_true rfl) dX5_masked_71
      · rw [if_neg c] at hf
        refine hm_aload hx hb dX5_masked_61 (lv_at hl 0 rfl) ?_
        obtain ⟨v17, ev17, hf⟩ := hm_b_s hf
        refine hm_get (ci := 3) (k := 0) (C := RX3) (T := TX3) (N := 5) hx hb hts hiX3 hown hK hI rfl (by decide) w6 (hm_gi_s ev17) dX5_masked_63 ?_
        refine lv_iconst (v := (1 : Int32)) hx hb dX5_masked_66 (by decide) ?_
        refine lv_icmp_eq (tgt := 72) hx hb dX5_masked_67 (by decide) (fun c => ?_) (fun c => ?_)
        · rw [if_pos c] at hf
          refine hm_aload_n hx hb dX5_masked_72 rfl (lv_at hl 2 rfl) ?_
          refine hm_aload hx hb dX5_masked_73 (lv_at hl 1 rfl) ?_
          obtain ⟨b19, eb19, hf⟩ := hm_b_s hf
          obtain ⟨h18, eh18, hf⟩ := hm_b_s hf
          refine hm_cV (As := [va_rf v10]) (rest := []) ⟨hx, hb, hml, hown, hts⟩ hK hI eb19 rfl rfl (kX5_takeDots l D kA b19 v10 h14 h18 eh18) (cwV 1 hts gX5_masked_X5_takeDots rfl rfl rfl (by decide +kernel) ⟨Nat.le_of_ble_eq_true rfl, Nat.le_of_ble_eq_true rfl⟩) rfl hl.1 rfl (by first | exact Nat.le_of_ble_eq_true rfl | (simp only [List.map, hm_rf_cat, hm_ci, hm_cl, List.sum_cons, List.sum_nil] <;> decide)) dX5_masked_75 ⟨Nat.le_of_ble_eq_true rfl, Nat.le_of_ble_eq_true rfl⟩ (fun H locs hI => ?_)
          refine W.eq (g2 := F0 m 78 ls []) rfl ?_
          refine hm_aload_n hx hb dX5_masked_78 rfl (lv_at hl 2 rfl) ?_
          refine hm_aload hx hb dX5_masked_79 (lv_at hl 1 rfl) ?_
          obtain ⟨v20, ev20, hf⟩ := hm_b_s hf
          refine hm_get (ci := 1) (k := 2) (C := RX1) (T := TX1) (N := 4) hx hb hts hiX1 hown hK hI rfl (by decide) w7 (hm_gq_s ev20) dX5_masked_81 ?_
          refine hm_aload hx hb dX5_masked_84 (lv_at hl 0 rfl) ?_
          obtain ⟨b22, eb22, hf⟩ := hm_b_s hf
          obtain ⟨h21, eh21, hf⟩ := hm_b_s hf
          refine hm_cV (As := [va_rf v20, va_rf v13]) (rest := []) ⟨hx, hb, hml, hown, hts⟩ hK hI eb22 rfl rfl (kX5_dropMasked l D kA b22 v20 v13 h18 h21 eh21) (cwV 2 hts gX5_masked_X5_dropMasked rfl rfl rfl (by decide +kernel) ⟨Nat.le_of_ble_eq_true rfl, Nat.le_of_ble_eq_true rfl⟩) rfl hl.1 rfl (by first | exact Nat.le_of_ble_eq_true rfl | (simp only [List.map, hm_rf_cat, hm_ci, hm_cl, List.sum_cons, List.sum_nil] <;> decide)) dX5_masked_86 ⟨Nat.le_of_ble_eq_true rfl, Nat.le_of_ble_eq_true rfl⟩ (fun H locs hI => ?_)
          refine W.eq (g2 := F0 m 89 ls []) rfl ?_
          refine hm_aload_n hx hb dX5_masked_89 rfl (lv_at hl 2 rfl) ?_
          refine hm_aload hx hb dX5_masked_90 (lv_at hl 1 rfl) ?_
          obtain ⟨v23, ev23, hf⟩ := hm_b_s hf
          refine hm_get (ci := 1) (k := 1) (C := RX1) (T := TX1) (N := 4) hx hb hts hiX1 hown hK hI rfl (by decide) w8 (hm_gq_s ev23) dX5_masked_92 ?_
          refine hm_aload hx hb dX5_masked_95 (lv_at hl 1 rfl) ?_
          obtain ⟨v24, ev24, hf⟩ := hm_b_s hf
          refine hm_get (ci := 1) (k := 3) (C := RX1) (T := TX1) (N := 4) hx hb hts hiX1 hown hK hI rfl (by decide) w9 (hm_gq_s ev24) dX5_masked_97 ?_
          refine lv_bipush (v := (12 : Int32)) hx hb dX5_masked_100 (by decide) ?_
          obtain ⟨b26, eb26, hf⟩ := hm_b_s hf
          obtain ⟨h25, eh25, hf⟩ := hm_b_s hf
          refine hm_cV (As := [va_rf v23, va_rf v24, .int (12 : Int32)]) (rest := []) ⟨hx, hb, hml, hown, hts⟩ hK hI eb26 rfl rfl (kX5_putDots l D kA b26 v23 v24 (12 : Int32) h21 h25 eh25) (cwV 3 hts gX5_masked_X5_putDots rfl rfl rfl (by decide +kernel) ⟨Nat.le_of_ble_eq_true rfl, Nat.le_of_ble_eq_true rfl⟩) rfl hl.1 rfl (by first | exact Nat.le_of_ble_eq_true rfl | (simp only [List.map, hm_rf_cat, hm_ci, hm_cl, List.sum_cons, List.sum_nil] <;> decide)) dX5_masked_102 ⟨Nat.le_of_ble_eq_true rfl, Nat.le_of_ble_eq_true rfl⟩ (fun H locs hI => ?_)
          refine W.eq (g2 := F0 m 105 ls []) rfl ?_
          refine hm_aload hx hb dX5_masked_105 (lv_at hl 1 rfl) ?_
          obtain ⟨v27, ev27, hf⟩ := hm_b_s hf
          refine hm_get (ci := 1) (k := 3) (C := RX1) (T := TX1) (N := 4) hx hb hts hiX1 hown hK hI rfl (by decide) w9 (hm_gq_s ev27) dX5_masked_107 ?_
          obtain ⟨b29, eb29, hf⟩ := hm_b_s hf
          obtain ⟨v30, h28, eh28, hf⟩ := hm_b2_s hf
          refine hm_cV (As := []) (rest := []) ⟨hx, hb, hml, hown, hts⟩ hK hI eb29 rfl rfl (kX0_size l D kA b29 h25 h28 v30 eh28) (cwV 0 hts gX5_masked_X0_size rfl rfl rfl (by decide +kernel) ⟨Nat.le_of_ble_eq_true rfl, Nat.le_of_ble_eq_true rfl⟩) rfl hl.1 rfl (by first | exact Nat.le_of_ble_eq_true rfl | (simp only [List.map, hm_rf_cat, hm_ci, hm_cl, List.sum_cons, List.sum_nil] <;> decide)) dX5_masked_110 ⟨Nat.le_of_ble_eq_true rfl, Nat.le_of_ble_eq_true rfl⟩ (fun H locs hI => ?_)
          exact hm_iret_e hf hx hb hr hlocks hK hI (Nat.le_of_ble_eq_true rfl) (Nat.le_of_ble_eq_true rfl) dX5_masked_113
        · rw [if_neg c] at hf
          refine lv_iconst (v := (-1 : Int32)) hx hb dX5_masked_70 (by decide) ?_
          exact hm_iret_e hf hx hb hr hlocks hK hI (Nat.le_of_ble_eq_true rfl) (Nat.le_of_ble_eq_true rfl) dX5_masked_71
/-! ==== X5_spread: BlitBoard.spread(IIIIIIIIII)I ==== -/
def fX5_spread_125 (K89 : Option Nat → Int32 → Int32 → Option Nat → Int32 → hm_H → Option (Int32 × hm_H)) (x0 : Option Nat) (x9 : Int32) (x10 : Int32) (x11 : Option Nat) (x12 : Int32) (s0 : Int32) (s1 : Int32) (s2 : Option Nat) (h : hm_H) : Option (Int32 × hm_H) :=
  hm_b (hm_si 0 h s2 s1 s0) fun h38 =>
  K89 x0 x9 x10 x11 (x12 + (1 : Int32)) h38
def fX5_spread_89 (K89 : Option Nat → Int32 → Int32 → Option Nat → Int32 → hm_H → Option (Int32 × hm_H)) (x0 : Option Nat) (x9 : Int32) (x10 : Int32) (x11 : Option Nat) (x12 : Int32) (h : hm_H) : Option (Int32 × hm_H) :=
  hm_b (hm_gq 1 3 h x11) fun v23 =>
  hm_b (hm_rc 0 h v23) fun b25 =>
  hm_b2 (fX0_size b25 h) fun v26 h24 =>
  if v26 ≤ x12 then
    hm_b (hm_gq 1 1 h24 x11) fun v27 =>
    hm_b (hm_gq 1 3 h24 x11) fun v28 =>
    hm_b (hm_rc 5 h24 x0) fun b30 =>
    hm_b (fX5_putDots b30 v27 v28 (12 : Int32) h24) fun h29 =>
    hm_b (hm_gq 1 3 h29 x11) fun v31 =>
    hm_b (hm_rc 0 h29 v31) fun b33 =>
    hm_b2 (fX0_size b33 h29) fun v34 h32 =>
    some (v34, h32)
  else
    hm_b (hm_gq 5 4 h24 x0) fun v35 =>
    hm_b (hm_gq 5 4 h24 x0) fun v36 =>
    hm_b (hm_ai 0 h24 v36 x12) fun v37 =>
    if v37 = 0 then
      fX5_spread_125 K89 x0 x9 x10 x11 x12 x9 x12 v35 h24
    else
      fX5_spread_125 K89 x0 x9 x10 x11 x12 x10 x12 v35 h24
def fX5_spread (t : Nat) (a1 : Int32) (a2 : Int32) (a3 : Int32) (a4 : Int32) (a5 : Int32) (a6 : Int32) (a7 : Int32) (a8 : Int32) (a9 : Int32) (a10 : Int32) (h0 : hm_H) : Option (Int32 × hm_H) :=
  hm_b (hm_rc 5 h0 (some t)) fun b2 =>
  hm_b2 (fX5_surfaceAt b2 a1 h0) fun v3 h1 =>
  hm_let (hm_n h1 (.inr (0, [.long 0, .long 0, .int 0, .int 0]))) fun h4 =>
  hm_b (fX0_init h1.2 ((a2).toInt64) ((a3).toInt64) a4 a5 h4) fun h5 =>
  hm_b (hm_rc 5 h5 (some t)) fun b7 =>
  hm_b2 (fX5_surfaceAt b7 a6 h5) fun v8 h6 =>
  hm_b2 (fX5_moveOf v3 (some h1.2) v8 a7 a8 h6) fun v10 h9 =>
  if v10 = none then
    some ((-1 : Int32), h9)
  else
    hm_b (hm_gq 1 0 h9 v10) fun v11 =>
    hm_b (hm_gi 3 0 h9 v11) fun v12 =>
    if v12 = (1 : Int32) then
      hm_b (hm_gq 1 1 h9 v10) fun v13 =>
      hm_b (hm_rc 3 h9 v13) fun b15 =>
      hm_b2 (fX3_fits b15 a9 h9) fun v16 h14 =>
      if v16 = 0 then
        some ((-1 : Int32), h14)
      else
        hm_b (hm_gq 1 1 h14 v10) fun v17 =>
        hm_b (hm_rc 3 h14 v17) fun b19 =>
        hm_b2 (fX3_fits b19 a10 h14) fun v20 h18 =>
        if v20 = 0 then
          some ((-1 : Int32), h18)
        else
          hm_b (hm_rc 5 h18 (some t)) fun b22 =>
          hm_b (fX5_takeDots b22 v10 h18) fun h21 =>
          hm_loop (fun _ _ _ _ _ _ => none) (fX5_spread_89) hm_fu (some t) a9 a10 v10 (0 : Int32) h21
    else
      some ((-1 : Int32), h9)
set_option maxRecDepth 100000 in
set_option maxHeartbeats 8000000 in
theorem kX5_spread (l : Launch) (D : va_G) (kA : Nat → ClassId) (t : Nat) (a1 : Int32) (a2 : Int32) (a3 : Int32) (a4 : Int32) (a5 : Int32) (a6 : Int32) (a7 : Int32) (a8 : Int32) (a9 : Int32) (a10 : Int32) (h0 h' : hm_H) (r : Int32) (hf : fX5_spread t a1 a2 a3 a4 a5 a6 a7 a8 a9 a10 h0 = some (r, h')) : hm_C l yX5_spread wsX5_spread { frames := 5, cells := 6, slots := 24, locals := 128 } D vwCl kA (hm_ty kA) [.ref t, .int a1, .int a2, .int a3, .int a4, .int a5, .int a6, .int a7, .int a8, .int a9, .int a10] h0 (some (.int r)) h' 6 24 := by
  refine Met.ofW (cc := cX5_spread) (maxL := 13) (ret := (some .int)) (by decide) rfl ?_
  intro p e s m args below meth c s₁ B hml hv
  obtain ⟨hargs, hB⟩ := hv
  have hx := B.exec
  have hb := B.bytes
  have hr := B.returns
  have hts := atoms_spec (ws := wsX5_spread) B.pre
  have hown : s.vm.findClass RX5 = some m.cls := findClass_of_methodNamed B.named
  have hlocks := B.notSynchronized
  have hK := hB.2
  have hI := hm_start hB
  have w1 := hts (.classLink RX5 49 RX0) (by decide +kernel)
  have w2 := hts (.instantiable RX0 4) (by decide +kernel)
  have w3 := hts (.initialized RX0) (by decide +kernel)
  have w4 := hts (.methodLink RX5 51 yX0_init) (by decide +kernel)
  have w5 := hts (.instanceMethod yX0_init) (by decide +kernel)
  have w6 := hts (.fieldLink RX5 140 "BlitBoard$Move" "from" "LBlitBoard$Surface;") (by decide +kernel)
  have w7 := hts (.fieldLink RX5 79 "BlitBoard$Surface" "depth" "I") (by decide +kernel)
  have w8 := hts (.fieldLink RX5 122 "BlitBoard$Move" "to" "LBlitBoard$Surface;") (by decide +kernel)
  have w9 := hts (.fieldLink RX5 126 "BlitBoard$Move" "target" "LBlitBoard$Area;") (by decide +kernel)
  have w10 := hts (.fieldLink RX5 30 "BlitBoard" "taken" "[I") (by decide +kernel)
  have hiX0 : ∀ w ∈ wsX00, w ∈ wsX5_spread := by decide +kernel
  have hiX1 : ∀ w ∈ wsX10, w ∈ wsX5_spread := by decide +kernel
  have hiX3 : ∀ w ∈ wsX30, w ∈ wsX5_spread := by decide +kernel
  have hiX5 : ∀ w ∈ wsX50, w ∈ wsX5_spread := by decide +kernel
  have B89 : ∀ (fu : Nat) (x0 : Option Nat) (x9 : Int32) (x10 : Int32) (x11 : Option Nat) (x12 : Int32) (h : hm_H), hm_loop (fun _ _ _ _ _ _ => none) (fX5_spread_89) fu x0 x9 x10 x11 x12 h = some (r, h') → ∀ (H : Heap) (locs : List Loc) (ls : Array Slot), hm_I D vwCl kA (hm_A h0) s.heap h H locs → lv_has ls 13 [(0, va_rf x0), (9, .int x9), (10, .int x10), (11, va_rf x11), (12, .int x12)] → W p l e (headSpec wsX5_spread { frames := 5, cells := 6, slots := 24, locals := 128 }).room s m args below meth c H locs 6 24 (MQ below (hm_Q D vwCl kA (hm_ty kA) h0 (some (.int r)) h') args s 6 24 (hm_A h0)) (F0 m 89 ls []) := by
    intro fu
    induction fu with
    | zero => intro x0 x9 x10 x11 x12 h hf; cases hf
    | succ fu ih89 =>
      rw [hm_loop_s]
      generalize hm_loop (fun _ _ _ _ _ _ => none) (fX5_spread_89) fu = K89 at ih89 ⊢
      have B125 : ∀ (x0 : Option Nat) (x9 : Int32) (x10 : Int32) (x11 : Option Nat) (x12 : Int32) (s0 : Int32) (s1 : Int32) (s2 : Option Nat) (h : hm_H), fX5_spread_125 K89 x0 x9 x10 x11 x12 s0 s1 s2 h = some (r, h') → ∀ (H : Heap) (locs : List Loc) (ls : Array Slot), hm_I D vwCl kA (hm_A h0) s.heap h H locs → lv_has ls 13 [(0, va_rf x0), (9, .int x9), (10, .int x10), (11, va_rf x11), (12, .int x12)] → W p l e (headSpec wsX5_spread { frames := 5, cells := 6, slots := 24, locals := 128 }).room s m args below meth c H locs 6 24 (MQ below (hm_Q D vwCl kA (hm_ty kA) h0 (some (.int r)) h') args s 6 24 (hm_A h0)) (F0 m 125 ls [.int s0, .int s1, va_rf s2]) := by
        intro x0 x9 x10 x11 x12 s0 s1 s2 h hf H locs ls hI hl
        unfold fX5_spread_125 at hf
        obtain ⟨h38, eh38, hf⟩ := hm_b_s hf
        refine hm_iast (kd := 0) (t0 := 0) hx hb hK hI rfl eh38 dX5_spread_125 (fun H locs hI => ?_)
        refine lv_iinc (v := x12 + (1 : Int32)) (lv' := [(12, .int (x12 + (1 : Int32))), (0, va_rf x0), (9, .int x9), (10, .int x10), (11, va_rf x11)]) hx hb dX5_spread_126 hl (k := 4) rfl rfl (by decide) (by simp only [List.filter, hm_cat2, Bool.and_false, Bool.not_false] <;> rfl) (fun ls hl => ?_)
        refine lv_goto (tgt := 89) hx hb dX5_spread_129 (by decide) ?_
        exact ih89 x0 x9 x10 x11 (x12 + (1 : Int32)) h38 hf _ _ _ hI (lv_sub hl [1, 2, 3, 4, 0] rfl)
      intro x0 x9 x10 x11 x12 h hf H locs ls hI hl
      unfold fX5_spread_89 at hf
      refine lv_iload hx hb dX5_spread_89 (lv_at hl 4 rfl) ?_
      refine hm_aload hx hb dX5_spread_91 (lv_at hl 3 rfl) ?_
      obtain ⟨v23, ev23, hf⟩ := hm_b_s hf
      refine hm_get (ci := 1) (k := 3) (C := RX1) (T := TX1) (N := 4) hx hb hts hiX1 hown hK hI rfl (by decide) w9 (hm_gq_s ev23) dX5_spread_93 ?_
      obtain ⟨b25, eb25, hf⟩ := hm_b_s hf
      obtain ⟨v26, h24, eh24, hf⟩ := hm_b2_s hf
      refine hm_cV (As := []) (rest := [.int x12]) ⟨hx, hb, hml, hown, hts⟩ hK hI eb25 rfl rfl (kX0_size l D kA b25 h h24 v26 eh24) (cwV 0 hts gX5_spread_X0_size rfl rfl rfl (by decide +kernel) ⟨Nat.le_of_ble_eq_true rfl, Nat.le_of_ble_eq_true rfl⟩) rfl hl.1 rfl (by first | exact Nat.le_of_ble_eq_true rfl | (simp only [List.map, hm_rf_cat, hm_ci, hm_cl, List.sum_cons, List.sum_nil] <;> decide)) dX5_spread_96 ⟨Nat.le_of_ble_eq_true rfl, Nat.le_of_ble_eq_true rfl⟩ (fun H locs hI => ?_)
      refine lv_icmp_ge (tgt := 132) hx hb dX5_spread_99 (by decide) (fun c => ?_) (fun c => ?_)
      · rw [if_pos c] at hf
        refine hm_aload_n hx hb dX5_spread_132 rfl (lv_at hl 0 rfl) ?_
        refine hm_aload hx hb dX5_spread_133 (lv_at hl 3 rfl) ?_
        obtain ⟨v27, ev27, hf⟩ := hm_b_s hf
        refine hm_get (ci := 1) (k := 1) (C := RX1) (T := TX1) (N := 4) hx hb hts hiX1 hown hK hI rfl (by decide) w8 (hm_gq_s ev27) dX5_spread_135 ?_
        refine hm_aload hx hb dX5_spread_138 (lv_at hl 3 rfl) ?_
        obtain ⟨v28, ev28, hf⟩ := hm_b_s hf
        refine hm_get (ci := 1) (k := 3) (C := RX1) (T := TX1) (N := 4) hx hb hts hiX1 hown hK hI rfl (by decide) w9 (hm_gq_s ev28) dX5_spread_140 ?_
        refine lv_bipush (v := (12 : Int32)) hx hb dX5_spread_143 (by decide) ?_
        obtain ⟨b30, eb30, hf⟩ := hm_b_s hf
        obtain ⟨h29, eh29, hf⟩ := hm_b_s hf
        refine hm_cV (As := [va_rf v27, va_rf v28, .int (12 : Int32)]) (rest := []) ⟨hx, hb, hml, hown, hts⟩ hK hI eb30 rfl rfl (kX5_putDots l D kA b30 v27 v28 (12 : Int32) h24 h29 eh29) (cwV 3 hts gX5_spread_X5_putDots rfl rfl rfl (by decide +kernel) ⟨Nat.le_of_ble_eq_true rfl, Nat.le_of_ble_eq_true rfl⟩) rfl hl.1 rfl (by first | exact Nat.le_of_ble_eq_true rfl | (simp only [List.map, hm_rf_cat, hm_ci, hm_cl, List.sum_cons, List.sum_nil] <;> decide)) dX5_spread_145 ⟨Nat.le_of_ble_eq_true rfl, Nat.le_of_ble_eq_true rfl⟩ (fun H locs hI => ?_)
        refine W.eq (g2 := F0 m 148 ls []) rfl ?_
        refine hm_aload hx hb dX5_spread_148 (lv_at hl 3 rfl) ?_
        obtain ⟨v31, ev31, hf⟩ := hm_b_s hf
        refine hm_get (ci := 1) (k := 3) (C := RX1) (T := TX1) (N := 4) hx hb hts hiX1 hown hK hI rfl (by decide) w9 (hm_gq_s ev31) dX5_spread_150 ?_
        obtain ⟨b33, eb33, hf⟩ := hm_b_s hf
        obtain ⟨v34, h32, eh32, hf⟩ := hm_b2_s hf
        refine hm_cV (As := []) (rest := []) ⟨hx, hb, hml, hown, hts⟩ hK hI eb33 rfl rfl (kX0_size l D kA b33 h29 h32 v34 eh32) (cwV 0 hts gX5_spread_X0_size rfl rfl rfl (by decide +kernel) ⟨Nat.le_of_ble_eq_true rfl, Nat.le_of_ble_eq_true rfl⟩) rfl hl.1 rfl (by first | exact Nat.le_of_ble_eq_true rfl | (simp only [List.map, hm_rf_cat, hm_ci, hm_cl, List.sum_cons, List.sum_nil] <;> decide)) dX5_spread_153 ⟨Nat.le_of_ble_eq_true rfl, Nat.le_of_ble_eq_true rfl⟩ (fun H locs hI => ?_)
        exact hm_iret_e hf hx hb hr hlocks hK hI (Nat.le_of_ble_eq_true rfl) (Nat.le_of_ble_eq_true rfl) dX5_spread_156
      · rw [if_neg c] at hf
        refine hm_aload_n hx hb dX5_spread_102 rfl (lv_at hl 0 rfl) ?_
        obtain ⟨v35, ev35, hf⟩ := hm_b_s hf
        refine hm_get (ci := 5) (k := 4) (C := RX5) (T := TX5) (N := 5) hx hb hts hiX5 hown hK hI rfl (by decide) w10 (hm_gq_s ev35) dX5_spread_103 ?_
        refine lv_iload hx hb dX5_spread_106 (lv_at hl 4 rfl) ?_
        refine hm_aload_n hx hb dX5_spread_108 rfl (lv_at hl 0 rfl) ?_
        obtain ⟨v36, ev36, hf⟩ := hm_b_s hf
        refine hm_get (ci := 5) (k := 4) (C := RX5) (T := TX5) (N := 5) hx hb hts hiX5 hown hK hI rfl (by decide) w10 (hm_gq_s ev36) dX5_spread_109 ?_
        refine lv_iload hx hb dX5_spread_112 (lv_at hl 4 rfl) ?_
        obtain ⟨v37, ev37, hf⟩ := hm_b_s hf
        refine hm_iald (kd := 0) (t0 := 0) hx hb hK hI rfl ev37 dX5_spread_114 ?_
        refine lv_if_ne (tgt := 123) hx hb dX5_spread_115 (by decide) (fun c => ?_) (fun c => ?_)
        · rw [if_neg c] at hf
          refine lv_iload hx hb dX5_spread_123 (lv_at hl 2 rfl) ?_
          exact B125 x0 x9 x10 x11 x12 x10 x12 v35 h24 hf _ _ _ hI (lv_sub hl [0, 1, 2, 3, 4] rfl)
        · rw [if_pos c] at hf
          refine lv_iload hx hb dX5_spread_118 (lv_at hl 1 rfl) ?_
          refine lv_goto (tgt := 125) hx hb dX5_spread_120 (by decide) ?_
          exact B125 x0 x9 x10 x11 x12 x9 x12 v35 h24 hf _ _ _ hI (lv_sub hl [0, 1, 2, 3, 4] rfl)
  rw [show entryFrame m args 13 = entryFrame m ([.ref t, .int a1, .int a2, .int a3, .int a4, .int a5, .int a6, .int a7, .int a8, .int a9, .int a10] : List Value).toArray 13 from by rw [hargs]]
  have hl := lv_entry ([.ref t, .int a1, .int a2, .int a3, .int a4, .int a5, .int a6, .int a7, .int a8, .int a9, .int a10]) (n := 13) (Nat.le_of_ble_eq_true rfl)
  rw [lg_entry_eq]
  generalize (lg_sl ([.ref t, .int a1, .int a2, .int a3, .int a4, .int a5, .int a6, .int a7, .int a8, .int a9, .int a10]) ++ List.replicate (13 - (lg_sl ([.ref t, .int a1, .int a2, .int a3, .int a4, .int a5, .int a6, .int a7, .int a8, .int a9, .int a10])).length) Slot.unset).toArray = ls at hl ⊢
  have hl : lv_has ls 13 [(0, va_rf (some t)), (1, .int a1), (2, .int a2), (3, .int a3), (4, .int a4), (5, .int a5), (6, .int a6), (7, .int a7), (8, .int a8), (9, .int a9), (10, .int a10)] := hl
  unfold fX5_spread at hf
  refine hm_aload_n hx hb dX5_spread_0 rfl (lv_at hl 0 rfl) ?_
  refine lv_iload_n hx hb dX5_spread_1 rfl (lv_at hl 1 rfl) ?_
  obtain ⟨b2, eb2, hf⟩ := hm_b_s hf
  obtain ⟨v3, h1, eh1, hf⟩ := hm_b2_s hf
  refine hm_cV (As := [.int a1]) (rest := []) ⟨hx, hb, hml, hown, hts⟩ hK hI eb2 rfl rfl (kX5_surfaceAt l D kA b2 a1 h0 h1 v3 eh1) (cwV 1 hts gX5_spread_X5_surfaceAt rfl rfl rfl (by decide +kernel) ⟨Nat.le_of_ble_eq_true rfl, Nat.le_of_ble_eq_true rfl⟩) rfl hl.1 rfl (by first | exact Nat.le_of_ble_eq_true rfl | (simp only [List.map, hm_rf_cat, hm_ci, hm_cl, List.sum_cons, List.sum_nil] <;> decide)) dX5_spread_2 ⟨Nat.le_of_ble_eq_true rfl, Nat.le_of_ble_eq_true rfl⟩ (fun H locs hI => ?_)
  obtain ⟨h4, eh4, hf⟩ := hm_let_s hf
  refine hm_new (ci := 0) (fs := [.long 0, .long 0, .int 0, .int 0]) (C := RX0) (T := TX0) (N := 4) hx hb hts hiX0 tyX0 tyX0_ok hown w1 w2 w3 hK hI rfl (fun j hj => by rcases (show j = 0 ∨ j = 1 ∨ j = 2 ∨ j = 3 by omega) with rfl | rfl | rfl | rfl <;> rfl) (Nat.le_of_ble_eq_true rfl) (Nat.le_of_ble_eq_true rfl) dX5_spread_5 (fun H hI => ?_)
  rw [← eh4] at hI
  refine W.cs (cells' := 1) (slots' := 4) rfl rfl ?_
  refine lv_dup hx hb dX5_spread_8 (hm_rf_cat _) ?_
  refine lv_iload_n hx hb dX5_spread_9 rfl (lv_at hl 2 rfl) ?_
  refine lv_i2l (v := (a2).toInt64) hx hb dX5_spread_10 rfl ?_
  refine lv_iload_n hx hb dX5_spread_11 rfl (lv_at hl 3 rfl) ?_
  refine lv_i2l (v := (a3).toInt64) hx hb dX5_spread_12 rfl ?_
  refine lv_iload hx hb dX5_spread_13 (lv_at hl 4 rfl) ?_
  refine lv_iload hx hb dX5_spread_15 (lv_at hl 5 rfl) ?_
  obtain ⟨h5, eh5, hf⟩ := hm_b_s hf
  refine hm_cI (As := [.long ((a2).toInt64), .long ((a3).toInt64), .int a4, .int a5]) (rest := [va_rf (some h1.2), va_rf v3]) ⟨hx, hb, hml, hown, hts⟩ hK hI (kX0_init l D kA h1.2 ((a2).toInt64) ((a3).toInt64) a4 a5 h4 h5 eh5) (cwI 4 hts gX5_spread_X0_init rfl rfl rfl w3 w4 w5 rfl (by decide +kernel) ⟨Nat.le_of_ble_eq_true rfl, Nat.le_of_ble_eq_true rfl⟩) rfl hl.1 rfl (by first | exact Nat.le_of_ble_eq_true rfl | (simp only [List.map, hm_rf_cat, hm_ci, hm_cl, List.sum_cons, List.sum_nil] <;> decide)) dX5_spread_17 ⟨Nat.le_of_ble_eq_true rfl, Nat.le_of_ble_eq_true rfl⟩ (fun H locs hI => ?_)
  refine W.eq (g2 := F0 m 20 ls [va_rf (some h1.2), va_rf v3]) rfl ?_
  refine hm_aload_n hx hb dX5_spread_20 rfl (lv_at hl 0 rfl) ?_
  refine lv_iload hx hb dX5_spread_21 (lv_at hl 6 rfl) ?_
  obtain ⟨b7, eb7, hf⟩ := hm_b_s hf
  obtain ⟨v8, h6, eh6, hf⟩ := hm_b2_s hf
  refine hm_cV (As := [.int a6]) (rest := [va_rf (some h1.2), va_rf v3]) ⟨hx, hb, hml, hown, hts⟩ hK hI eb7 rfl rfl (kX5_surfaceAt l D kA b7 a6 h5 h6 v8 eh6) (cwV 1 hts gX5_spread_X5_surfaceAt rfl rfl rfl (by decide +kernel) ⟨Nat.le_of_ble_eq_true rfl, Nat.le_of_ble_eq_true rfl⟩) rfl hl.1 rfl (by first | exact Nat.le_of_ble_eq_true rfl | (simp only [List.map, hm_rf_cat, hm_ci, hm_cl, List.sum_cons, List.sum_nil] <;> decide)) dX5_spread_23 ⟨Nat.le_of_ble_eq_true rfl, Nat.le_of_ble_eq_true rfl⟩ (fun H locs hI => ?_)
  refine lv_iload hx hb dX5_spread_26 (lv_at hl 7 rfl) ?_
  refine lv_iload hx hb dX5_spread_28 (lv_at hl 8 rfl) ?_
  obtain ⟨v10, h9, eh9, hf⟩ := hm_b2_s hf
  refine hm_cS (As := [va_rf v3, va_rf (some h1.2), va_rf v8, .int a7, .int a8]) (rest := []) ⟨hx, hb, hml, hown, hts⟩ hK hI (kX5_moveOf l D kA v3 (some h1.2) v8 a7 a8 h6 h9 v10 eh9) (va_cwS 5 hts gX5_spread_X5_moveOf rfl rfl rfl (by decide +kernel) ⟨Nat.le_of_ble_eq_true rfl, Nat.le_of_ble_eq_true rfl⟩) rfl hl.1 rfl (by first | exact Nat.le_of_ble_eq_true rfl | (simp only [List.map, hm_rf_cat, hm_ci, hm_cl, List.sum_cons, List.sum_nil] <;> decide)) dX5_spread_30 ⟨Nat.le_of_ble_eq_true rfl, Nat.le_of_ble_eq_true rfl⟩ (fun H locs hI => ?_)
  refine W.cs (cells' := 6) (slots' := 24) rfl rfl ?_
  refine hm_astore (lv' := [(11, va_rf v10), (0, va_rf (some t)), (1, .int a1), (2, .int a2), (3, .int a3), (4, .int a4), (5, .int a5), (6, .int a6), (7, .int a7), (8, .int a8), (9, .int a9), (10, .int a10)]) hx hb dX5_spread_33 hl (by decide) rfl (fun ls hl => ?_)
  refine hm_aload hx hb dX5_spread_35 (lv_at hl 0 rfl) ?_
  refine hm_ifnull (tgt := 78) hx hb dX5_spread_37 (by decide) (fun c => ?_) (fun c => ?_)
  · rw [if_pos c] at hf
    refine lv_iconst (v := (-1 : Int32)) hx hb dX5_spread_78 (by decide) ?_
    exact hm_iret_e hf hx hb hr hlocks hK hI (Nat.le_of_ble_eq_true rfl) (Nat.le_of_ble_eq_true rfl) dX5_spread_79
  · rw [if_neg c] at hf
    refine hm_aload hx hb dX5_spread_40 (lv_at hl 0 rfl) ?_
    obtain ⟨v11, ev11, hf⟩ := hm_b_s hf
    refine hm_get (ci := 1) (k := 0) (C := RX1) (T := TX1) (N := 4) hx hb hts hiX1 hown hK hI rfl (by decide) w6 (hm_gq_s ev11) dX5_spread_42 ?_
    obtain ⟨v12, ev12, hf⟩ := hm_b_s hf
    refine hm_get (ci := 3) (k := 0) (C := RX3) (T := TX3) (N := 5) hx hb hts hiX3 hown hK hI rfl (by decide) w7 (hm_gi_s ev12) dX5_spread_45 ?_
    refine lv_iconst (v := (1 : Int32)) hx hb dX5_spread_48 (by decide) ?_
    refine lv_icmp_ne (tgt := 78) hx hb dX5_spread_49 (by decide) (fun c => ?_) (fun c => ?_)
    · rw [if_neg c] at hf
      refine lv_iconst (v := (-1 : Int32)) hx hb dX5_spread_78 (by decide) ?_
      exact hm_iret_e hf hx hb hr hlocks hK hI (Nat.le_of_ble_eq_true rfl) (Nat.le_of_ble_eq_true rfl) dX5_spread_79
    · rw [if_pos c] at hf
      refine hm_aload hx hb dX5_spread_52 (lv_at hl 0 rfl) ?_
      obtain ⟨v13, ev13, hf⟩ := hm_b_s hf
      refine hm_get (ci := 1) (k := 1) (C := RX1) (T := TX1) (N := 4) hx hb hts hiX1 hown hK hI rfl (by decide) w8 (hm_gq_s ev13) dX5_spread_54 ?_
      refine lv_iload hx hb dX5_spread_57 (lv_at hl 10 rfl) ?_
      obtain ⟨b15, eb15, hf⟩ := hm_b_s hf
      obtain ⟨v16, h14, eh14, hf⟩ := hm_b2_s hf
      refine hm_cV (As := [.int a9]) (rest := []) ⟨hx, hb, hml, hown, hts⟩ hK hI eb15 rfl rfl (kX3_fits l D kA b15 a9 h9 h14 v16 eh14) (cwV 1 hts gX5_spread_X3_fits rfl rfl rfl (by decide +kernel) ⟨Nat.le_of_ble_eq_true rfl, Nat.le_of_ble_eq_true rfl⟩) rfl hl.1 rfl (by first | exact Nat.le_of_ble_eq_true rfl | (simp only [List.map, hm_rf_cat, hm_ci, hm_cl, List.sum_cons, List.sum_nil] <;> decide)) dX5_spread_59 ⟨Nat.le_of_ble_eq_true rfl, Nat.le_of_ble_eq_true rfl⟩ (fun H locs hI => ?_)
      refine lv_if_eq (tgt := 78) hx hb dX5_spread_62 (by decide) (fun c => ?_) (fun c => ?_)
      · rw [if_pos c] at hf
        refine lv_iconst (v := (-1 : Int32)) hx hb dX5_spread_78 (by decide) ?_
        exact hm_iret_e hf hx hb hr hlocks hK hI (Nat.le_of_ble_eq_true rfl) (Nat.le_of_ble_eq_true rfl) dX5_spread_79
      · rw [if_neg c] at hf
        refine hm_aload hx hb dX5_spread_65 (lv_at hl 0 rfl) ?_
        obtain ⟨v17, ev17, hf⟩ := hm_b_s hf
        refine hm_get (ci := 1) (k := 1) (C := RX1) (T := TX1) (N := 4) hx hb hts hiX1 hown hK hI rfl (by decide) w8 (hm_gq_s ev17) dX5_spread_67 ?_
        refine lv_iload hx hb dX5_spread_70 (lv_at hl 11 rfl) ?_
        obtain ⟨b19, eb19, hf⟩ := hm_b_s hf
        obtain ⟨v20, h18, eh18, hf⟩ := hm_b2_s hf
        refine hm_cV (As := [.int a10]) (rest := []) ⟨hx, hb, hml, hown, hts⟩ hK hI eb19 rfl rfl (kX3_fits l D kA b19 a10 h14 h18 v20 eh18) (cwV 1 hts gX5_spread_X3_fits rfl rfl rfl (by decide +kernel) ⟨Nat.le_of_ble_eq_true rfl, Nat.le_of_ble_eq_true rfl⟩) rfl hl.1 rfl (by first | exact Nat.le_of_ble_eq_true rfl | (simp only [List.map, hm_rf_cat, hm_ci, hm_cl, List.sum_cons, List.sum_nil] <;> decide)) dX5_spread_72 ⟨Nat.le_of_ble_eq_true rfl, Nat.le_of_ble_eq_true rfl⟩ (fun H locs hI => ?_)
        refine lv_if_ne (tgt := 80) hx hb dX5_spread_75 (by decide) (fun c => ?_) (fun c => ?_)
        · rw [if_neg c] at hf
          refine hm_aload_n hx hb dX5_spread_80 rfl (lv_at hl 1 rfl) ?_
          refine hm_aload hx hb dX5_spread_81 (lv_at hl 0 rfl) ?_
          obtain ⟨b22, eb22, hf⟩ := hm_b_s hf
          obtain ⟨h21, eh21, hf⟩ := hm_b_s hf
          refine hm_cV (As := [va_rf v10]) (rest := []) ⟨hx, hb, hml, hown, hts⟩ hK hI eb22 rfl rfl (kX5_takeDots l D kA b22 v10 h18 h21 eh21) (cwV 1 hts gX5_spread_X5_takeDots rfl rfl rfl (by decide +kernel) ⟨Nat.le_of_ble_eq_true rfl, Nat.le_of_ble_eq_true rfl⟩) rfl hl.1 rfl (by first | exact Nat.le_of_ble_eq_true rfl | (simp only [List.map, hm_rf_cat, hm_ci, hm_cl, List.sum_cons, List.sum_nil] <;> decide)) dX5_spread_83 ⟨Nat.le_of_ble_eq_true rfl, Nat.le_of_ble_eq_true rfl⟩ (fun H locs hI => ?_)
          refine W.eq (g2 := F0 m 86 ls []) rfl ?_
          refine lv_iconst (v := (0 : Int32)) hx hb dX5_spread_86 (by decide) ?_
          refine lv_istore (lv' := [(12, .int (0 : Int32)), (11, va_rf v10), (0, va_rf (some t)), (1, .int a1), (2, .int a2), (3, .int a3), (4, .int a4), (5, .int a5), (6, .int a6), (7, .int a7), (8, .int a8), (9, .int a9), (10, .int a10)]) hx hb dX5_spread_87 hl (by decide) (by simp only [List.filter, hm_cat2, Bool.and_false, Bool.not_false] <;> rfl) (fun ls hl => ?_)
          exact B89 hm_fu (some t) a9 a10 v10 (0 : Int32) h21 hf _ _ _ hI (lv_sub hl [2, 11, 12, 1, 0] rfl)
        · rw [if_pos c] at hf
          refine lv_iconst (v := (-1 : Int32)) hx hb dX5_spread_78 (by decide) ?_
          exact hm_iret_e hf hx hb hr hlocks hK hI (Nat.le_of_ble_eq_true rfl) (Nat.le_of_ble_eq_true rfl) dX5_spread_79
/-! ==== X5_turn: BlitBoard.turn(II)I ==== -/
def fX5_turn (t : Nat) (a1 : Int32) (a2 : Int32) (h0 : hm_H) : Option (Int32 × hm_H) :=
  hm_b (hm_rc 5 h0 (some t)) fun b2 =>
  hm_b2 (fX5_surfaceAt b2 a1 h0) fun v3 h1 =>
  if v3 = none then
    some ((0 : Int32), h1)
  else
    if a2 < 0 then
      some ((0 : Int32), h1)
    else
      if a2 ≤ (1 : Int32) then
        if a2 = 0 then
          hm_b (hm_rc 3 h1 v3) fun b7 =>
          hm_b (fX3_swapLeftAndRight b7 h1) fun h6 =>
          some ((1 : Int32), h6)
        else
          hm_b (hm_rc 3 h1 v3) fun b5 =>
          hm_b (fX3_swapTopAndBottom b5 h1) fun h4 =>
          some ((1 : Int32), h4)
      else
        some ((0 : Int32), h1)
set_option maxRecDepth 100000 in
set_option maxHeartbeats 8000000 in
theorem kX5_turn (l : Launch) (D : va_G) (kA : Nat → ClassId) (t : Nat) (a1 : Int32) (a2 : Int32) (h0 h' : hm_H) (r : Int32) (hf : fX5_turn t a1 a2 h0 = some (r, h')) : hm_C l yX5_turn wsX5_turn { frames := 2, cells := 0, slots := 0, locals := 46 } D vwCl kA (hm_ty kA) [.ref t, .int a1, .int a2] h0 (some (.int r)) h' 0 0 := by
  refine Met.ofW (cc := cX5_turn) (maxL := 4) (ret := (some .int)) (by decide) rfl ?_
  intro p e s m args below meth c s₁ B hml hv
  obtain ⟨hargs, hB⟩ := hv
  have hx := B.exec
  have hb := B.bytes
  have hr := B.returns
  have hts := atoms_spec (ws := wsX5_turn) B.pre
  have hown : s.vm.findClass RX5 = some m.cls := findClass_of_methodNamed B.named
  have hlocks := B.notSynchronized
  have hK := hB.2
  have hI := hm_start hB
  rw [show entryFrame m args 4 = entryFrame m ([.ref t, .int a1, .int a2] : List Value).toArray 4 from by rw [hargs]]
  have hl := lv_entry ([.ref t, .int a1, .int a2]) (n := 4) (Nat.le_of_ble_eq_true rfl)
  rw [lg_entry_eq]
  generalize (lg_sl ([.ref t, .int a1, .int a2]) ++ List.replicate (4 - (lg_sl ([.ref t, .int a1, .int a2])).length) Slot.unset).toArray = ls at hl ⊢
  have hl : lv_has ls 4 [(0, va_rf (some t)), (1, .int a1), (2, .int a2)] := hl
  unfold fX5_turn at hf
  refine hm_aload_n hx hb dX5_turn_0 rfl (lv_at hl 0 rfl) ?_
  refine lv_iload_n hx hb dX5_turn_1 rfl (lv_at hl 1 rfl) ?_
  obtain ⟨b2, eb2, hf⟩ := hm_b_s hf
  obtain ⟨v3, h1, eh1, hf⟩ := hm_b2_s hf
  refine hm_cV (As := [.int a1]) (rest := []) ⟨hx, hb, hml, hown, hts⟩ hK hI eb2 rfl rfl (kX5_surfaceAt l D kA b2 a1 h0 h1 v3 eh1) (cwV 1 hts gX5_turn_X5_surfaceAt rfl rfl rfl (by decide +kernel) ⟨Nat.le_of_ble_eq_true rfl, Nat.le_of_ble_eq_true rfl⟩) rfl hl.1 rfl (by first | exact Nat.le_of_ble_eq_true rfl | (simp only [List.map, hm_rf_cat, hm_ci, hm_cl, List.sum_cons, List.sum_nil] <;> decide)) dX5_turn_2 ⟨Nat.le_of_ble_eq_true rfl, Nat.le_of_ble_eq_true rfl⟩ (fun H locs hI => ?_)
  refine hm_astore_n (lv' := [(3, va_rf v3), (0, va_rf (some t)), (1, .int a1), (2, .int a2)]) hx hb dX5_turn_5 rfl hl (by decide) rfl (fun ls hl => ?_)
  refine hm_aload_n hx hb dX5_turn_6 rfl (lv_at hl 0 rfl) ?_
  refine hm_ifnull (tgt := 19) hx hb dX5_turn_7 (by decide) (fun c => ?_) (fun c => ?_)
  · rw [if_pos c] at hf
    refine lv_iconst (v := (0 : Int32)) hx hb dX5_turn_19 (by decide) ?_
    exact hm_iret_e hf hx hb hr hlocks hK hI (Nat.le_of_ble_eq_true rfl) (Nat.le_of_ble_eq_true rfl) dX5_turn_20
  · rw [if_neg c] at hf
    refine lv_iload_n hx hb dX5_turn_10 rfl (lv_at hl 3 rfl) ?_
    refine lv_if_lt (tgt := 19) hx hb dX5_turn_11 (by decide) (fun c => ?_) (fun c => ?_)
    · rw [if_pos c] at hf
      refine lv_iconst (v := (0 : Int32)) hx hb dX5_turn_19 (by decide) ?_
      exact hm_iret_e hf hx hb hr hlocks hK hI (Nat.le_of_ble_eq_true rfl) (Nat.le_of_ble_eq_true rfl) dX5_turn_20
    · rw [if_neg c] at hf
      refine lv_iload_n hx hb dX5_turn_14 rfl (lv_at hl 3 rfl) ?_
      refine lv_iconst (v := (1 : Int32)) hx hb dX5_turn_15 (by decide) ?_
      refine lv_icmp_le (tgt := 21) hx hb dX5_turn_16 (by decide) (fun c => ?_) (fun c => ?_)
      · rw [if_pos c] at hf
        refine lv_iload_n hx hb dX5_turn_21 rfl (lv_at hl 3 rfl) ?_
        refine lv_if_ne (tgt := 32) hx hb dX5_turn_22 (by decide) (fun c => ?_) (fun c => ?_)
        · rw [if_neg c] at hf
          refine hm_aload_n hx hb dX5_turn_32 rfl (lv_at hl 0 rfl) ?_
          obtain ⟨b5, eb5, hf⟩ := hm_b_s hf
          obtain ⟨h4, eh4, hf⟩ := hm_b_s hf
          refine hm_cV (As := []) (rest := []) ⟨hx, hb, hml, hown, hts⟩ hK hI eb5 rfl rfl (kX3_swapTopAndBottom l D kA b5 h1 h4 eh4) (cwV 0 hts gX5_turn_X3_swapTopAndBottom rfl rfl rfl (by decide +kernel) ⟨Nat.le_of_ble_eq_true rfl, Nat.le_of_ble_eq_true rfl⟩) rfl hl.1 rfl (by first | exact Nat.le_of_ble_eq_true rfl | (simp only [List.map, hm_rf_cat, hm_ci, hm_cl, List.sum_cons, List.sum_nil] <;> decide)) dX5_turn_33 ⟨Nat.le_of_ble_eq_true rfl, Nat.le_of_ble_eq_true rfl⟩ (fun H locs hI => ?_)
          refine W.eq (g2 := F0 m 36 ls []) rfl ?_
          refine lv_iconst (v := (1 : Int32)) hx hb dX5_turn_36 (by decide) ?_
          exact hm_iret_e hf hx hb hr hlocks hK hI (Nat.le_of_ble_eq_true rfl) (Nat.le_of_ble_eq_true rfl) dX5_turn_37
        · rw [if_pos c] at hf
          refine hm_aload_n hx hb dX5_turn_25 rfl (lv_at hl 0 rfl) ?_
          obtain ⟨b7, eb7, hf⟩ := hm_b_s hf
          obtain ⟨h6, eh6, hf⟩ := hm_b_s hf
          refine hm_cV (As := []) (rest := []) ⟨hx, hb, hml, hown, hts⟩ hK hI eb7 rfl rfl (kX3_swapLeftAndRight l D kA b7 h1 h6 eh6) (cwV 0 hts gX5_turn_X3_swapLeftAndRight rfl rfl rfl (by decide +kernel) ⟨Nat.le_of_ble_eq_true rfl, Nat.le_of_ble_eq_true rfl⟩) rfl hl.1 rfl (by first | exact Nat.le_of_ble_eq_true rfl | (simp only [List.map, hm_rf_cat, hm_ci, hm_cl, List.sum_cons, List.sum_nil] <;> decide)) dX5_turn_26 ⟨Nat.le_of_ble_eq_true rfl, Nat.le_of_ble_eq_true rfl⟩ (fun H locs hI => ?_)
          refine W.eq (g2 := F0 m 29 ls []) rfl ?_
          refine lv_goto (tgt := 36) hx hb dX5_turn_29 (by decide) ?_
          refine lv_iconst (v := (1 : Int32)) hx hb dX5_turn_36 (by decide) ?_
          exact hm_iret_e hf hx hb hr hlocks hK hI (Nat.le_of_ble_eq_true rfl) (Nat.le_of_ble_eq_true rfl) dX5_turn_37
      · rw [if_neg c] at hf
        refine lv_iconst (v := (0 : Int32)) hx hb dX5_turn_19 (by decide) ?_
        exact hm_iret_e hf hx hb hr hlocks hK hI (Nat.le_of_ble_eq_true rfl) (Nat.le_of_ble_eq_true rfl) dX5_turn_20
/-! ==== X5_count: BlitBoard.count(II)I ==== -/
def fX5_count_52 (K29 : Int32 → Int32 → Option Nat → Int32 → Int32 → hm_H → Option (Int32 × hm_H)) (x2 : Int32) (x4 : Int32) (x5 : Option Nat) (x6 : Int32) (x7 : Int32) (h : hm_H) : Option (Int32 × hm_H) :=
  K29 x2 x4 x5 x6 (x7 + (1 : Int32)) h
def fX5_count_29 (K29 : Int32 → Int32 → Option Nat → Int32 → Int32 → hm_H → Option (Int32 × hm_H)) (x2 : Int32) (x4 : Int32) (x5 : Option Nat) (x6 : Int32) (x7 : Int32) (h : hm_H) : Option (Int32 × hm_H) :=
  if x6 ≤ x7 then
    some (x4, h)
  else
    hm_b (hm_ai 0 h x5 x7) fun v6 =>
    if v6 = x2 then
      fX5_count_52 K29 x2 (x4 + (1 : Int32)) x5 x6 x7 h
    else
      fX5_count_52 K29 x2 x4 x5 x6 x7 h
def fX5_count (t : Nat) (a1 : Int32) (a2 : Int32) (h0 : hm_H) : Option (Int32 × hm_H) :=
  hm_b (hm_rc 5 h0 (some t)) fun b2 =>
  hm_b2 (fX5_surfaceAt b2 a1 h0) fun v3 h1 =>
  if v3 = none then
    some ((-1 : Int32), h1)
  else
    hm_b (hm_gq 3 3 h1 v3) fun v4 =>
    hm_b (hm_al 0 h1 v4) fun v5 =>
    hm_loop (fun _ _ _ _ _ _ => none) (fX5_count_29) hm_fu a2 (0 : Int32) v4 v5 (0 : Int32) h1
set_option maxRecDepth 100000 in
set_option maxHeartbeats 8000000 in
theorem kX5_count (l : Launch) (D : va_G) (kA : Nat → ClassId) (t : Nat) (a1 : Int32) (a2 : Int32) (h0 h' : hm_H) (r : Int32) (hf : fX5_count t a1 a2 h0 = some (r, h')) : hm_C l yX5_count wsX5_count { frames := 1, cells := 0, slots := 0, locals := 21 } D vwCl kA (hm_ty kA) [.ref t, .int a1, .int a2] h0 (some (.int r)) h' 0 0 := by
  refine Met.ofW (cc := cX5_count) (maxL := 9) (ret := (some .int)) (by decide) rfl ?_
  intro p e s m args below meth c s₁ B hml hv
  obtain ⟨hargs, hB⟩ := hv
  have hx := B.exec
  have hb := B.bytes
  have hr := B.returns
  have hts := atoms_spec (ws := wsX5_count) B.pre
  have hown : s.vm.findClass RX5 = some m.cls := findClass_of_methodNamed B.named
  have hlocks := B.notSynchronized
  have hK := hB.2
  have hI := hm_start hB
  have w1 := hts (.fieldLink RX5 72 "BlitBoard$Surface" "dots" "[I") (by decide +kernel)
  have hiX3 : ∀ w ∈ wsX30, w ∈ wsX5_count := by decide +kernel
  have B29 : ∀ (fu : Nat) (x2 : Int32) (x4 : Int32) (x5 : Option Nat) (x6 : Int32) (x7 : Int32) (h : hm_H), hm_loop (fun _ _ _ _ _ _ => none) (fX5_count_29) fu x2 x4 x5 x6 x7 h = some (r, h') → ∀ (H : Heap) (locs : List Loc) (ls : Array Slot), hm_I D vwCl kA (hm_A h0) s.heap h H locs → lv_has ls 9 [(2, .int x2), (4, .int x4), (5, va_rf x5), (6, .int x6), (7, .int x7)] → W p l e (headSpec wsX5_count { frames := 1, cells := 0, slots := 0, locals := 21 }).room s m args below meth c H locs 0 0 (MQ below (hm_Q D vwCl kA (hm_ty kA) h0 (some (.int r)) h') args s 0 0 (hm_A h0)) (F0 m 29 ls []) := by
    intro fu
    induction fu with
    | zero => intro x2 x4 x5 x6 x7 h hf; cases hf
    | succ fu ih29 =>
      rw [hm_loop_s]
      generalize hm_loop (fun _ _ _ _ _ _ => none) (fX5_count_29) fu = K29 at ih29 ⊢
      have B52 : ∀ (x2 : Int32) (x4 : Int32) (x5 : Option Nat) (x6 : Int32) (x7 : Int32) (h : hm_H), fX5_count_52 K29 x2 x4 x5 x6 x7 h = some (r, h') → ∀ (H : Heap) (locs : List Loc) (ls : Array Slot), hm_I D vwCl kA (hm_A h0) s.heap h H locs → lv_has ls 9 [(2, .int x2), (4, .int x4), (5, va_rf x5), (6, .int x6), (7, .int x7)] → W p l e (headSpec wsX5_count { frames := 1, cells := 0, slots := 0, locals := 21 }).room s m args below meth c H locs 0 0 (MQ below (hm_Q D vwCl kA (hm_ty kA) h0 (some (.int r)) h') args s 0 0 (hm_A h0)) (F0 m 52 ls []) := by
        intro x2 x4 x5 x6 x7 h hf H locs ls hI hl
        unfold fX5_count_52 at hf
        refine lv_iinc (v := x7 + (1 : Int32)) (lv' := [(7, .int (x7 + (1 : Int32))), (2, .int x2), (4, .int x4), (5, va_rf x5), (6, .int x6)]) hx hb dX5_count_52 hl (k := 4) rfl rfl (by decide) rfl (fun ls hl => ?_)
        refine lv_goto (tgt := 29) hx hb dX5_count_55 (by decide) ?_
        exact ih29 x2 x4 x5 x6 (x7 + (1 : Int32)) h hf _ _ _ hI (lv_sub hl [1, 2, 3, 4, 0] rfl)
      intro x2 x4 x5 x6 x7 h hf H locs ls hI hl
      unfold fX5_count_29 at hf
      refine lv_iload hx hb dX5_count_29 (lv_at hl 4 rfl) ?_
      refine lv_iload hx hb dX5_count_31 (lv_at hl 3 rfl) ?_
      refine lv_icmp_ge (tgt := 58) hx hb dX5_count_33 (by decide) (fun c => ?_) (fun c => ?_)
      · rw [if_pos c] at hf
        refine lv_iload hx hb dX5_count_58 (lv_at hl 1 rfl) ?_
        exact hm_iret_e hf hx hb hr hlocks hK hI (Nat.le_of_ble_eq_true rfl) (Nat.le_of_ble_eq_true rfl) dX5_count_60
      · rw [if_neg c] at hf
        refine hm_aload hx hb dX5_count_36 (lv_at hl 2 rfl) ?_
        refine lv_iload hx hb dX5_count_38 (lv_at hl 4 rfl) ?_
        obtain ⟨v6, ev6, hf⟩ := hm_b_s hf
        refine hm_iald (kd := 0) (t0 := 0) hx hb hK hI rfl ev6 dX5_count_40 ?_
        refine lv_istore (lv' := [(8, .int v6), (2, .int x2), (4, .int x4), (5, va_rf x5), (6, .int x6), (7, .int x7)]) hx hb dX5_count_41 hl (by decide) rfl (fun ls hl => ?_)
        refine lv_iload hx hb dX5_count_43 (lv_at hl 0 rfl) ?_
        refine lv_iload_n hx hb dX5_count_45 rfl (lv_at hl 1 rfl) ?_
        refine lv_icmp_ne (tgt := 52) hx hb dX5_count_46 (by decide) (fun c => ?_) (fun c => ?_)
        · rw [if_neg c] at hf
          exact B52 x2 x4 x5 x6 x7 h hf _ _ _ hI (lv_sub hl [1, 2, 3, 4, 5] rfl)
        · rw [if_pos c] at hf
          refine lv_iinc (v := x4 + (1 : Int32)) (lv' := [(4, .int (x4 + (1 : Int32))), (8, .int v6), (2, .int x2), (5, va_rf x5), (6, .int x6), (7, .int x7)]) hx hb dX5_count_49 hl (k := 2) rfl rfl (by decide) rfl (fun ls hl => ?_)
          exact B52 x2 (x4 + (1 : Int32)) x5 x6 x7 h hf _ _ _ hI (lv_sub hl [2, 0, 3, 4, 5] rfl)
  rw [show entryFrame m args 9 = entryFrame m ([.ref t, .int a1, .int a2] : List Value).toArray 9 from by rw [hargs]]
  have hl := lv_entry ([.ref t, .int a1, .int a2]) (n := 9) (Nat.le_of_ble_eq_true rfl)
  rw [lg_entry_eq]
  generalize (lg_sl ([.ref t, .int a1, .int a2]) ++ List.replicate (9 - (lg_sl ([.ref t, .int a1, .int a2])).length) Slot.unset).toArray = ls at hl ⊢
  have hl : lv_has ls 9 [(0, va_rf (some t)), (1, .int a1), (2, .int a2)] := hl
  unfold fX5_count at hf
  refine hm_aload_n hx hb dX5_count_0 rfl (lv_at hl 0 rfl) ?_
  refine lv_iload_n hx hb dX5_count_1 rfl (lv_at hl 1 rfl) ?_
  obtain ⟨b2, eb2, hf⟩ := hm_b_s hf
  obtain ⟨v3, h1, eh1, hf⟩ := hm_b2_s hf
  refine hm_cV (As := [.int a1]) (rest := []) ⟨hx, hb, hml, hown, hts⟩ hK hI eb2 rfl rfl (kX5_surfaceAt l D kA b2 a1 h0 h1 v3 eh1) (cwV 1 hts gX5_count_X5_surfaceAt rfl rfl rfl (by decide +kernel) ⟨Nat.le_of_ble_eq_true rfl, Nat.le_of_ble_eq_true rfl⟩) rfl hl.1 rfl (by first | exact Nat.le_of_ble_eq_true rfl | (simp only [List.map, hm_rf_cat, hm_ci, hm_cl, List.sum_cons, List.sum_nil] <;> decide)) dX5_count_2 ⟨Nat.le_of_ble_eq_true rfl, Nat.le_of_ble_eq_true rfl⟩ (fun H locs hI => ?_)
  refine hm_astore_n (lv' := [(3, va_rf v3), (0, va_rf (some t)), (1, .int a1), (2, .int a2)]) hx hb dX5_count_5 rfl hl (by decide) rfl (fun ls hl => ?_)
  refine hm_aload_n hx hb dX5_count_6 rfl (lv_at hl 0 rfl) ?_
  refine hm_ifnonnull (tgt := 12) hx hb dX5_count_7 (by decide) (fun c => ?_) (fun c => ?_)
  · rw [if_neg c] at hf
    refine lv_iconst (v := (0 : Int32)) hx hb dX5_count_12 (by decide) ?_
    refine lv_istore (lv' := [(4, .int (0 : Int32)), (3, va_rf v3), (0, va_rf (some t)), (1, .int a1), (2, .int a2)]) hx hb dX5_count_13 hl (by decide) (by simp only [List.filter, hm_cat2, Bool.and_false, Bool.not_false] <;> rfl) (fun ls hl => ?_)
    refine hm_aload_n hx hb dX5_count_15 rfl (lv_at hl 1 rfl) ?_
    obtain ⟨v4, ev4, hf⟩ := hm_b_s hf
    refine hm_get (ci := 3) (k := 3) (C := RX3) (T := TX3) (N := 5) hx hb hts hiX3 hown hK hI rfl (by decide) w1 (hm_gq_s ev4) dX5_count_16 ?_
    refine hm_astore (lv' := [(5, va_rf v4), (4, .int (0 : Int32)), (3, va_rf v3), (0, va_rf (some t)), (1, .int a1), (2, .int a2)]) hx hb dX5_count_19 hl (by decide) rfl (fun ls hl => ?_)
    refine hm_aload hx hb dX5_count_21 (lv_at hl 0 rfl) ?_
    obtain ⟨v5, ev5, hf⟩ := hm_b_s hf
    refine hm_alen (kd := 0) (t0 := 0) hx hb hK hI rfl ev5 dX5_count_23 ?_
    refine lv_istore (lv' := [(6, .int v5), (5, va_rf v4), (4, .int (0 : Int32)), (3, va_rf v3), (0, va_rf (some t)), (1, .int a1), (2, .int a2)]) hx hb dX5_count_24 hl (by decide) (by simp only [List.filter, hm_cat2, Bool.and_false, Bool.not_false] <;> rfl) (fun ls hl => ?_)
    refine lv_iconst (v := (0 : Int32)) hx hb dX5_count_26 (by decide) ?_
    refine lv_istore (lv' := [(7, .int (0 : Int32)), (6, .int v5), (5, va_rf v4), (4, .int (0 : Int32)), (3, va_rf v3), (0, va_rf (some t)), (1, .int a1), (2, .int a2)]) hx hb dX5_count_27 hl (by decide) rfl (fun ls hl => ?_)
    exact B29 hm_fu a2 (0 : Int32) v4 v5 (0 : Int32) h1 hf _ _ _ hI (lv_sub hl [7, 3, 2, 1, 0] rfl)
  · rw [if_pos c] at hf
    refine lv_iconst (v := (-1 : Int32)) hx hb dX5_count_10 (by decide) ?_
    exact hm_iret_e hf hx hb hr hlocks hK hI (Nat.le_of_ble_eq_true rfl) (Nat.le_of_ble_eq_true rfl) dX5_count_11
/-! ==== X5_spriteAt: BlitBoard.spriteAt(I)LBlitBoard$Sprite; ==== -/
def fX5_spriteAt (t : Nat) (a1 : Int32) (h0 : hm_H) : Option (Option Nat × hm_H) :=
  if a1 < 0 then
    some (none, h0)
  else
    if (4 : Int32) ≤ a1 then
      some (none, h0)
    else
      hm_b (hm_gq 5 2 h0 (some t)) fun v1 =>
      hm_b (hm_aq 2 h0 v1 a1) fun v2 =>
      some (v2, h0)
set_option maxRecDepth 100000 in
set_option maxHeartbeats 8000000 in
theorem kX5_spriteAt (l : Launch) (D : va_G) (kA : Nat → ClassId) (t : Nat) (a1 : Int32) (h0 h' : hm_H) (r : Option Nat) (hf : fX5_spriteAt t a1 h0 = some (r, h')) : hm_C l yX5_spriteAt wsX5_spriteAt { frames := 0, cells := 0, slots := 0, locals := 0 } D vwCl kA (hm_ty kA) [.ref t, .int a1] h0 (some (va_rf r)) h' 0 0 := by
  refine Met.ofW (cc := cX5_spriteAt) (maxL := 2) (ret := (some (.object "BlitBoard$Sprite"))) (by decide) rfl ?_
  intro p e s m args below meth c s₁ B hml hv
  obtain ⟨hargs, hB⟩ := hv
  have hx := B.exec
  have hb := B.bytes
  have hr := B.returns
  have hts := atoms_spec (ws := wsX5_spriteAt) B.pre
  have hown : s.vm.findClass RX5 = some m.cls := findClass_of_methodNamed B.named
  have hlocks := B.notSynchronized
  have hK := hB.2
  have hI := hm_start hB
  have w1 := hts (.fieldLink RX5 21 "BlitBoard" "sprites" "[LBlitBoard$Sprite;") (by decide +kernel)
  have hiX5 : ∀ w ∈ wsX50, w ∈ wsX5_spriteAt := by decide +kernel
  rw [show entryFrame m args 2 = entryFrame m ([.ref t, .int a1] : List Value).toArray 2 from by rw [hargs]]
  have hl := lv_entry ([.ref t, .int a1]) (n := 2) (Nat.le_of_ble_eq_true rfl)
  rw [lg_entry_eq]
  generalize (lg_sl ([.ref t, .int a1]) ++ List.replicate (2 - (lg_sl ([.ref t, .int a1])).length) Slot.unset).toArray = ls at hl ⊢
  have hl : lv_has ls 2 [(0, va_rf (some t)), (1, .int a1)] := hl
  unfold fX5_spriteAt at hf
  refine lv_iload_n hx hb dX5_spriteAt_0 rfl (lv_at hl 1 rfl) ?_
  refine lv_if_lt (tgt := 18) hx hb dX5_spriteAt_1 (by decide) (fun c => ?_) (fun c => ?_)
  · rw [if_pos c] at hf
    refine lv_null hx hb dX5_spriteAt_18 ?_
    refine W.eq (g2 := F0 m 19 ls (va_rf none :: [])) rfl ?_
    exact hm_aret_e hf hx hb hr hlocks hK hI (Nat.le_of_ble_eq_true rfl) (Nat.le_of_ble_eq_true rfl) dX5_spriteAt_19
  · rw [if_neg c] at hf
    refine lv_iload_n hx hb dX5_spriteAt_4 rfl (lv_at hl 1 rfl) ?_
    refine lv_iconst (v := (4 : Int32)) hx hb dX5_spriteAt_5 (by decide) ?_
    refine lv_icmp_ge (tgt := 18) hx hb dX5_spriteAt_6 (by decide) (fun c => ?_) (fun c => ?_)
    · rw [if_pos c] at hf
      refine lv_null hx hb dX5_spriteAt_18 ?_
      refine W.eq (g2 := F0 m 19 ls (va_rf none :: [])) rfl ?_
      exact hm_aret_e hf hx hb hr hlocks hK hI (Nat.le_of_ble_eq_true rfl) (Nat.le_of_ble_eq_true rfl) dX5_spriteAt_19
    · rw [if_neg c] at hf
      refine hm_aload_n hx hb dX5_spriteAt_9 rfl (lv_at hl 0 rfl) ?_
      obtain ⟨v1, ev1, hf⟩ := hm_b_s hf
      refine hm_get (ci := 5) (k := 2) (C := RX5) (T := TX5) (N := 5) hx hb hts hiX5 hown hK hI rfl (by decide) w1 (hm_gq_s ev1) dX5_spriteAt_10 ?_
      refine lv_iload_n hx hb dX5_spriteAt_13 rfl (lv_at hl 1 rfl) ?_
      obtain ⟨v2, ev2, hf⟩ := hm_b_s hf
      refine hm_aald (kd := 2) (t0 := 2) hx hb hK hI rfl ev2 dX5_spriteAt_14 ?_
      refine lv_goto (tgt := 19) hx hb dX5_spriteAt_15 (by decide) ?_
      exact hm_aret_e hf hx hb hr hlocks hK hI (Nat.le_of_ble_eq_true rfl) (Nat.le_of_ble_eq_true rfl) dX5_spriteAt_19
/-! ==== X5_tell: BlitBoard.tell(III)I ==== -/
def fX5_tell (t : Nat) (a1 : Int32) (a2 : Int32) (a3 : Int32) (h0 : hm_H) : Option (Int32 × hm_H) :=
  hm_b (hm_rc 5 h0 (some t)) fun b2 =>
  hm_b2 (fX5_spriteAt b2 a1 h0) fun v3 h1 =>
  hm_b (hm_rc 5 h1 (some t)) fun b5 =>
  hm_b2 (fX5_surfaceAt b5 a2 h1) fun v6 h4 =>
  if v3 = none then
    some ((-1 : Int32), h4)
  else
    if v6 = none then
      some ((-1 : Int32), h4)
    else
      hm_b (hm_gq 5 3 h4 (some t)) fun v7 =>
      hm_b (hm_rc 2 h4 v7) fun b9 =>
      hm_b (fX2_empty b9 h4) fun h8 =>
      hm_let (hm_n h8 (.inr (4, [.null, .int 0, .null]))) fun h10 =>
      hm_b (hm_gq 5 3 h10 (some t)) fun v11 =>
      hm_b (fX4_init h8.2 v6 a3 v11 h10) fun h12 =>
      hm_b (hm_rc 4 h12 (some h8.2)) fun b14 =>
      hm_b (fX4_addRows b14 h12) fun h13 =>
      hm_b (hm_gq 5 3 h13 (some t)) fun v15 =>
      hm_b (hm_gi 2 2 h13 v15) fun v16 =>
      if v16 = 0 then
        hm_b (hm_gq 5 2 h13 (some t)) fun v17 =>
        hm_b (hm_gq 5 3 h13 (some t)) fun v18 =>
        hm_b (hm_sq 2 2 h13 v17 a1 v18) fun h19 =>
        hm_b (hm_p 5 3 (va_rf v3) h19 (some t)) fun h20 =>
        hm_b (hm_gq 5 2 h20 (some t)) fun v21 =>
        hm_b (hm_aq 2 h20 v21 a1) fun v22 =>
        hm_b (hm_gi 2 1 h20 v22) fun v23 =>
        some (v23, h20)
      else
        some ((-1 : Int32), h13)
set_option maxRecDepth 100000 in
set_option maxHeartbeats 8000000 in
theorem kX5_tell (l : Launch) (D : va_G) (kA : Nat → ClassId) (t : Nat) (a1 : Int32) (a2 : Int32) (a3 : Int32) (h0 h' : hm_H) (r : Int32) (hf : fX5_tell t a1 a2 a3 h0 = some (r, h')) : hm_C l yX5_tell wsX5_tell { frames := 4, cells := 1, slots := 3, locals := 104 } D vwCl kA (hm_ty kA) [.ref t, .int a1, .int a2, .int a3] h0 (some (.int r)) h' 1 3 := by
  refine Met.ofW (cc := cX5_tell) (maxL := 6) (ret := (some .int)) (by decide) rfl ?_
  intro p e s m args below meth c s₁ B hml hv
  obtain ⟨hargs, hB⟩ := hv
  have hx := B.exec
  have hb := B.bytes
  have hr := B.returns
  have hts := atoms_spec (ws := wsX5_tell) B.pre
  have hown : s.vm.findClass RX5 = some m.cls := findClass_of_methodNamed B.named
  have hlocks := B.notSynchronized
  have hK := hB.2
  have hI := hm_start hB
  have w1 := hts (.fieldLink RX5 26 "BlitBoard" "spare" "LBlitBoard$Sprite;") (by decide +kernel)
  have w2 := hts (.classLink RX5 156 RX4) (by decide +kernel)
  have w3 := hts (.instantiable RX4 3) (by decide +kernel)
  have w4 := hts (.initialized RX4) (by decide +kernel)
  have w5 := hts (.methodLink RX5 158 yX4_init) (by decide +kernel)
  have w6 := hts (.instanceMethod yX4_init) (by decide +kernel)
  have w7 := hts (.fieldLink RX5 164 "BlitBoard$Sprite" "spilled" "Z") (by decide +kernel)
  have w8 := hts (.fieldLink RX5 21 "BlitBoard" "sprites" "[LBlitBoard$Sprite;") (by decide +kernel)
  have w9 := hts (.fieldLink RX5 168 "BlitBoard$Sprite" "size" "I") (by decide +kernel)
  have hiX5 : ∀ w ∈ wsX50, w ∈ wsX5_tell := by decide +kernel
  have hiX4 : ∀ w ∈ wsX40, w ∈ wsX5_tell := by decide +kernel
  have hiX2 : ∀ w ∈ wsX20, w ∈ wsX5_tell := by decide +kernel
  rw [show entryFrame m args 6 = entryFrame m ([.ref t, .int a1, .int a2, .int a3] : List Value).toArray 6 from by rw [hargs]]
  have hl := lv_entry ([.ref t, .int a1, .int a2, .int a3]) (n := 6) (Nat.le_of_ble_eq_true rfl)
  rw [lg_entry_eq]
  generalize (lg_sl ([.ref t, .int a1, .int a2, .int a3]) ++ List.replicate (6 - (lg_sl ([.ref t, .int a1, .int a2, .int a3])).length) Slot.unset).toArray = ls at hl ⊢
  have hl : lv_has ls 6 [(0, va_rf (some t)), (1, .int a1), (2, .int a2), (3, .int a3)] := hl
  unfold fX5_tell at hf
  refine hm_aload_n hx hb dX5_tell_0 rfl (lv_at hl 0 rfl) ?_
  refine lv_iload_n hx hb dX5_tell_1 rfl (lv_at hl 1 rfl) ?_
  obtain ⟨b2, eb2, hf⟩ := hm_b_s hf
  obtain ⟨v3, h1, eh1, hf⟩ := hm_b2_s hf
  refine hm_cV (As := [.int a1]) (rest := []) ⟨hx, hb, hml, hown, hts⟩ hK hI eb2 rfl rfl (kX5_spriteAt l D kA b2 a1 h0 h1 v3 eh1) (cwV 1 hts gX5_tell_X5_spriteAt rfl rfl rfl (by decide +kernel) ⟨Nat.le_of_ble_eq_true rfl, Nat.le_of_ble_eq_true rfl⟩) rfl hl.1 rfl (by first | exact Nat.le_of_ble_eq_true rfl | (simp only [List.map, hm_rf_cat, hm_ci, hm_cl, List.sum_cons, List.sum_nil] <;> decide)) dX5_tell_2 ⟨Nat.le_of_ble_eq_true rfl, Nat.le_of_ble_eq_true rfl⟩ (fun H locs hI => ?_)
  refine hm_astore (lv' := [(4, va_rf v3), (0, va_rf (some t)), (1, .int a1), (2, .int a2), (3, .int a3)]) hx hb dX5_tell_5 hl (by decide) rfl (fun ls hl => ?_)
  refine hm_aload_n hx hb dX5_tell_7 rfl (lv_at hl 1 rfl) ?_
  refine lv_iload_n hx hb dX5_tell_8 rfl (lv_at hl 3 rfl) ?_
  obtain ⟨b5, eb5, hf⟩ := hm_b_s hf
  obtain ⟨v6, h4, eh4, hf⟩ := hm_b2_s hf
  refine hm_cV (As := [.int a2]) (rest := []) ⟨hx, hb, hml, hown, hts⟩ hK hI eb5 rfl rfl (kX5_surfaceAt l D kA b5 a2 h1 h4 v6 eh4) (cwV 1 hts gX5_tell_X5_surfaceAt rfl rfl rfl (by decide +kernel) ⟨Nat.le_of_ble_eq_true rfl, Nat.le_of_ble_eq_true rfl⟩) rfl hl.1 rfl (by first | exact Nat.le_of_ble_eq_true rfl | (simp only [List.map, hm_rf_cat, hm_ci, hm_cl, List.sum_cons, List.sum_nil] <;> decide)) dX5_tell_9 ⟨Nat.le_of_ble_eq_true rfl, Nat.le_of_ble_eq_true rfl⟩ (fun H locs hI => ?_)
  refine hm_astore (lv' := [(5, va_rf v6), (4, va_rf v3), (0, va_rf (some t)), (1, .int a1), (2, .int a2), (3, .int a3)]) hx hb dX5_tell_12 hl (by decide) (by simp only [List.filter, hm_cat2, Bool.and_false, Bool.not_false] <;> rfl) (fun ls hl => ?_)
  refine hm_aload hx hb dX5_tell_14 (lv_at hl 1 rfl) ?_
  refine hm_ifnull (tgt := 24) hx hb dX5_tell_16 (by decide) (fun c => ?_) (fun c => ?_)
  · rw [if_pos c] at hf
    refine lv_iconst (v := (-1 : Int32)) hx hb dX5_tell_24 (by decide) ?_
    exact hm_iret_e hf hx hb hr hlocks hK hI (Nat.le_of_ble_eq_true rfl) (Nat.le_of_ble_eq_true rfl) dX5_tell_25
  · rw [if_neg c] at hf
    refine hm_aload hx hb dX5_tell_19 (lv_at hl 0 rfl) ?_
    refine hm_ifnonnull (tgt := 26) hx hb dX5_tell_21 (by decide) (fun c => ?_) (fun c => ?_)
    · rw [if_neg c] at hf
      refine hm_aload_n hx hb dX5_tell_26 rfl (lv_at hl 2 rfl) ?_
      obtain ⟨v7, ev7, hf⟩ := hm_b_s hf
      refine hm_get (ci := 5) (k := 3) (C := RX5) (T := TX5) (N := 5) hx hb hts hiX5 hown hK hI rfl (by decide) w1 (hm_gq_s ev7) dX5_tell_27 ?_
      obtain ⟨b9, eb9, hf⟩ := hm_b_s hf
      obtain ⟨h8, eh8, hf⟩ := hm_b_s hf
      refine hm_cV (As := []) (rest := []) ⟨hx, hb, hml, hown, hts⟩ hK hI eb9 rfl rfl (kX2_empty l D kA b9 h4 h8 eh8) (cwV 0 hts gX5_tell_X2_empty rfl rfl rfl (by decide +kernel) ⟨Nat.le_of_ble_eq_true rfl, Nat.le_of_ble_eq_true rfl⟩) rfl hl.1 rfl (by first | exact Nat.le_of_ble_eq_true rfl | (simp only [List.map, hm_rf_cat, hm_ci, hm_cl, List.sum_cons, List.sum_nil] <;> decide)) dX5_tell_30 ⟨Nat.le_of_ble_eq_true rfl, Nat.le_of_ble_eq_true rfl⟩ (fun H locs hI => ?_)
      refine W.eq (g2 := F0 m 33 ls []) rfl ?_
      obtain ⟨h10, eh10, hf⟩ := hm_let_s hf
      refine hm_new (ci := 4) (fs := [.null, .int 0, .null]) (C := RX4) (T := TX4) (N := 3) hx hb hts hiX4 tyX4 tyX4_ok hown w2 w3 w4 hK hI rfl (fun j hj => by rcases (show j = 0 ∨ j = 1 ∨ j = 2 by omega) with rfl | rfl | rfl <;> rfl) (Nat.le_of_ble_eq_true rfl) (Nat.le_of_ble_eq_true rfl) dX5_tell_33 (fun H hI => ?_)
      rw [← eh10] at hI
      refine W.cs (cells' := 1) (slots' := 3) rfl rfl ?_
      refine lv_dup hx hb dX5_tell_36 (hm_rf_cat _) ?_
      refine hm_aload hx hb dX5_tell_37 (lv_at hl 0 rfl) ?_
      refine lv_iload_n hx hb dX5_tell_39 rfl (lv_at hl 5 rfl) ?_
      refine hm_aload_n hx hb dX5_tell_40 rfl (lv_at hl 2 rfl) ?_
      obtain ⟨v11, ev11, hf⟩ := hm_b_s hf
      refine hm_get (ci := 5) (k := 3) (C := RX5) (T := TX5) (N := 5) hx hb hts hiX5 hown hK hI rfl (by decide) w1 (hm_gq_s ev11) dX5_tell_41 ?_
      obtain ⟨h12, eh12, hf⟩ := hm_b_s hf
      refine hm_cI (As := [va_rf v6, .int a3, va_rf v11]) (rest := [va_rf (some h8.2)]) ⟨hx, hb, hml, hown, hts⟩ hK hI (kX4_init l D kA h8.2 v6 a3 v11 h10 h12 eh12) (cwI 3 hts gX5_tell_X4_init rfl rfl rfl w4 w5 w6 rfl (by decide +kernel) ⟨Nat.le_of_ble_eq_true rfl, Nat.le_of_ble_eq_true rfl⟩) rfl hl.1 rfl (by first | exact Nat.le_of_ble_eq_true rfl | (simp only [List.map, hm_rf_cat, hm_ci, hm_cl, List.sum_cons, List.sum_nil] <;> decide)) dX5_tell_44 ⟨Nat.le_of_ble_eq_true rfl, Nat.le_of_ble_eq_true rfl⟩ (fun H locs hI => ?_)
      refine W.eq (g2 := F0 m 47 ls [va_rf (some h8.2)]) rfl ?_
      obtain ⟨b14, eb14, hf⟩ := hm_b_s hf
      obtain ⟨h13, eh13, hf⟩ := hm_b_s hf
      refine hm_cV (As := []) (rest := []) ⟨hx, hb, hml, hown, hts⟩ hK hI eb14 rfl rfl (kX4_addRows l D kA b14 h12 h13 eh13) (cwV 0 hts gX5_tell_X4_addRows rfl rfl rfl (by decide +kernel) ⟨Nat.le_of_ble_eq_true rfl, Nat.le_of_ble_eq_true rfl⟩) rfl hl.1 rfl (by first | exact Nat.le_of_ble_eq_true rfl | (simp only [List.map, hm_rf_cat, hm_ci, hm_cl, List.sum_cons, List.sum_nil] <;> decide)) dX5_tell_47 ⟨Nat.le_of_ble_eq_true rfl, Nat.le_of_ble_eq_true rfl⟩ (fun H locs hI => ?_)
      refine W.eq (g2 := F0 m 50 ls []) rfl ?_
      refine hm_aload_n hx hb dX5_tell_50 rfl (lv_at hl 2 rfl) ?_
      obtain ⟨v15, ev15, hf⟩ := hm_b_s hf
      refine hm_get (ci := 5) (k := 3) (C := RX5) (T := TX5) (N := 5) hx hb hts hiX5 hown hK hI rfl (by decide) w1 (hm_gq_s ev15) dX5_tell_51 ?_
      obtain ⟨v16, ev16, hf⟩ := hm_b_s hf
      refine hm_get (ci := 2) (k := 2) (C := RX2) (T := TX2) (N := 3) hx hb hts hiX2 hown hK hI rfl (by decide) w7 (hm_gi_s ev16) dX5_tell_54 ?_
      refine lv_if_eq (tgt := 62) hx hb dX5_tell_57 (by decide) (fun c => ?_) (fun c => ?_)
      · rw [if_pos c] at hf
        refine hm_aload_n hx hb dX5_tell_62 rfl (lv_at hl 2 rfl) ?_
        obtain ⟨v17, ev17, hf⟩ := hm_b_s hf
        refine hm_get (ci := 5) (k := 2) (C := RX5) (T := TX5) (N := 5) hx hb hts hiX5 hown hK hI rfl (by decide) w8 (hm_gq_s ev17) dX5_tell_63 ?_
        refine lv_iload_n hx hb dX5_tell_66 rfl (lv_at hl 3 rfl) ?_
        refine hm_aload_n hx hb dX5_tell_67 rfl (lv_at hl 2 rfl) ?_
        obtain ⟨v18, ev18, hf⟩ := hm_b_s hf
        refine hm_get (ci := 5) (k := 3) (C := RX5) (T := TX5) (N := 5) hx hb hts hiX5 hown hK hI rfl (by decide) w1 (hm_gq_s ev18) dX5_tell_68 ?_
        obtain ⟨h19, eh19, hf⟩ := hm_b_s hf
        refine hm_aast (kd := 2) (t0 := 2) (ci := 2) hx hb hK hI rfl rfl eh19 dX5_tell_71 (fun H locs hI => ?_)
        refine hm_aload_n hx hb dX5_tell_72 rfl (lv_at hl 2 rfl) ?_
        refine hm_aload hx hb dX5_tell_73 (lv_at hl 1 rfl) ?_
        obtain ⟨h20, eh20, hf⟩ := hm_b_s hf
        refine hm_put (ci := 5) (k := 3) (C := RX5) (T := TX5) (N := 5) hx hb hts hiX5 tyX5 tyX5_ok nmX5 hown hK hI rfl (by decide) w1 rfl eh20 hm_nqo hm_fqo dX5_tell_75 (fun H locs hI => ?_)
        refine hm_aload_n hx hb dX5_tell_78 rfl (lv_at hl 2 rfl) ?_
        obtain ⟨v21, ev21, hf⟩ := hm_b_s hf
        refine hm_get (ci := 5) (k := 2) (C := RX5) (T := TX5) (N := 5) hx hb hts hiX5 hown hK hI rfl (by decide) w8 (hm_gq_s ev21) dX5_tell_79 ?_
        refine lv_iload_n hx hb dX5_tell_82 rfl (lv_at hl 3 rfl) ?_
        obtain ⟨v22, ev22, hf⟩ := hm_b_s hf
        refine hm_aald (kd := 2) (t0 := 2) hx hb hK hI rfl ev22 dX5_tell_83 ?_
        obtain ⟨v23, ev23, hf⟩ := hm_b_s hf
        refine hm_get (ci := 2) (k := 1) (C := RX2) (T := TX2) (N := 3) hx hb hts hiX2 hown hK hI rfl (by decide) w9 (hm_gi_s ev23) dX5_tell_84 ?_
        exact hm_iret_e hf hx hb hr hlocks hK hI (Nat.le_of_ble_eq_true rfl) (Nat.le_of_ble_eq_true rfl) dX5_tell_87
      · rw [if_neg c] at hf
        refine lv_iconst (v := (-1 : Int32)) hx hb dX5_tell_60 (by decide) ?_
        exact hm_iret_e hf hx hb hr hlocks hK hI (Nat.le_of_ble_eq_true rfl) (Nat.le_of_ble_eq_true rfl) dX5_tell_61
    · rw [if_pos c] at hf
      refine lv_iconst (v := (-1 : Int32)) hx hb dX5_tell_24 (by decide) ?_
      exact hm_iret_e hf hx hb hr hlocks hK hI (Nat.le_of_ble_eq_true rfl) (Nat.le_of_ble_eq_true rfl) dX5_tell_25
