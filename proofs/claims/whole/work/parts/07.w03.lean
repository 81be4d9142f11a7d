/-! ==== X5_init: BlitBoard.<init>()V ==== -/
def fX5_init (t : Nat) (h0 : hm_H) : Option hm_H :=
  hm_b (hm_nq 3 8 (8 : Int32) h0) fun h1 =>
  hm_b (hm_p 5 0 (va_rf (some h0.2)) h1 (some t)) fun h2 =>
  hm_b (hm_p 5 1 (.int (0 : Int32)) h2 (some t)) fun h3 =>
  hm_b (hm_nq 2 4 (4 : Int32) h3) fun h4 =>
  hm_b (hm_p 5 2 (va_rf (some h3.2)) h4 (some t)) fun h5 =>
  hm_b (hm_gq 5 2 h5 (some t)) fun v6 =>
  hm_let (hm_n h5 (.inr (2, [.null, .int 0, .int 0]))) fun h7 =>
  hm_b (fX2_init h5.2 h7) fun h8 =>
  hm_b (hm_sq 2 2 h8 v6 (0 : Int32) (some h5.2)) fun h9 =>
  hm_b (hm_gq 5 2 h9 (some t)) fun v10 =>
  hm_let (hm_n h9 (.inr (2, [.null, .int 0, .int 0]))) fun h11 =>
  hm_b (fX2_init h9.2 h11) fun h12 =>
  hm_b (hm_sq 2 2 h12 v10 (1 : Int32) (some h9.2)) fun h13 =>
  hm_b (hm_gq 5 2 h13 (some t)) fun v14 =>
  hm_let (hm_n h13 (.inr (2, [.null, .int 0, .int 0]))) fun h15 =>
  hm_b (fX2_init h13.2 h15) fun h16 =>
  hm_b (hm_sq 2 2 h16 v14 (2 : Int32) (some h13.2)) fun h17 =>
  hm_b (hm_gq 5 2 h17 (some t)) fun v18 =>
  hm_let (hm_n h17 (.inr (2, [.null, .int 0, .int 0]))) fun h19 =>
  hm_b (fX2_init h17.2 h19) fun h20 =>
  hm_b (hm_sq 2 2 h20 v18 (3 : Int32) (some h17.2)) fun h21 =>
  hm_let (hm_n h21 (.inr (2, [.null, .int 0, .int 0]))) fun h22 =>
  hm_b (fX2_init h21.2 h22) fun h23 =>
  hm_b (hm_p 5 3 (va_rf (some h21.2)) h23 (some t)) fun h24 =>
  hm_b (hm_ni 0 4096 (4096 : Int32) h24) fun h25 =>
  hm_b (hm_p 5 4 (va_rf (some h24.2)) h25 (some t)) fun h26 =>
  some h26
set_option maxRecDepth 100000 in
set_option maxHeartbeats 8000000 in
theorem kX5_init (l : Launch) (D : va_G) (kA : Nat → ClassId) (t : Nat) (h0 h' : hm_H) (hf : fX5_init t h0 = some h') : Met l yX5_init wsX5_init { frames := 2, cells := 13, slots := 29123, locals := 40 } (va_Pc [.ref t] (fun U => hm_B D vwCl kA (hm_A h0) (hm_ty kA) h0 U ∧ va_AO RX2 U ∧ va_AO RX3 U)) (hm_Q D vwCl kA (hm_ty kA) h0 none h') 13 29123 (hm_A h0) := by
  refine Met.ofW (cc := cX5_init) (maxL := 2) (ret := none) (by decide) rfl ?_
  intro p e s m args below meth c s₁ B hml hv
  obtain ⟨hargs, hB, haoX2, haoX3⟩ := hv
  have hx := B.exec
  have hb := B.bytes
  have hr := B.returns
  have hts := atoms_spec (ws := wsX5_init) B.pre
  have hown : s.vm.findClass RX5 = some m.cls := findClass_of_methodNamed B.named
  have hlocks := B.notSynchronized
  have hin : meth.name = "<init>" := (name_of_methodNamed B.named B.method).1
  have hK := hB.2
  have hI := hm_start hB
  have w1 := hts (.methodLink RX5 1 objectInit) (by decide +kernel)
  have w2 := hts (.instanceMethod objectInit) (by decide +kernel)
  have w3 := hts (.code objectInit ⟨#[0xb1]⟩ 1 none) (by decide +kernel)
  have w4 := hts (.classLink RX5 9 RX3) (by decide +kernel)
  have w5 := hts (.fieldLink RX5 11 "BlitBoard" "surfaces" "[LBlitBoard$Surface;") (by decide +kernel)
  have w6 := hts (.fieldLink RX5 15 "BlitBoard" "surfaceCount" "I") (by decide +kernel)
  have w7 := hts (.classLink RX5 19 RX2) (by decide +kernel)
  have w8 := hts (.fieldLink RX5 21 "BlitBoard" "sprites" "[LBlitBoard$Sprite;") (by decide +kernel)
  have w9 := hts (.instantiable RX2 3) (by decide +kernel)
  have w10 := hts (.initialized RX2) (by decide +kernel)
  have w11 := hts (.methodLink RX5 25 yX2_init) (by decide +kernel)
  have w12 := hts (.instanceMethod yX2_init) (by decide +kernel)
  have w13 := hts (.fieldLink RX5 26 "BlitBoard" "spare" "LBlitBoard$Sprite;") (by decide +kernel)
  have w14 := hts (.arrayClass .int) (by decide +kernel)
  have w15 := hts (.fieldLink RX5 30 "BlitBoard" "taken" "[I") (by decide +kernel)
  have hiX5 : ∀ w ∈ wsX50, w ∈ wsX5_init := by decide +kernel
  have hiX2 : ∀ w ∈ wsX20, w ∈ wsX5_init := by decide +kernel
  rw [show entryFrame m args 2 = entryFrame m ([.ref t] : List Value).toArray 2 from by rw [hargs]]
  have hl := lv_entry ([.ref t]) (n := 2) (Nat.le_of_ble_eq_true rfl)
  rw [lg_entry_eq]
  generalize (lg_sl ([.ref t]) ++ List.replicate (2 - (lg_sl ([.ref t])).length) Slot.unset).toArray = ls at hl ⊢
  have hl : lv_has ls 2 [(0, va_rf (some t))] := hl
  unfold fX5_init at hf
  refine hm_aload_n hx hb dX5_init_0 rfl (lv_at hl 0 rfl) ?_
  refine W.objInit hx hb hown w1 w2 w3 rfl (by rw [hml]; exact hl.1) rfl dX5_init_1 (Nat.le_of_ble_eq_true rfl) (Nat.le_of_ble_eq_true rfl) ?_
  refine W.eq (g2 := F0 m 4 ls []) rfl ?_
  refine hm_aload_n hx hb dX5_init_4 rfl (lv_at hl 0 rfl) ?_
  refine lv_bipush (v := (8 : Int32)) hx hb dX5_init_5 (by decide) ?_
  obtain ⟨h1, eh1, hf⟩ := hm_b_s hf
  refine hm_newq (kd := 3) (t0 := 3) (B := 8) (C := RX3) hx hb hown w4 haoX3 (by decide) hK hI rfl eh1 (Nat.le_of_ble_eq_true rfl) (Nat.le_of_ble_eq_true rfl) dX5_init_7 (fun H hI => ?_)
  refine W.cs (cells' := 1) (slots' := 8) rfl rfl ?_
  obtain ⟨h2, eh2, hf⟩ := hm_b_s hf
  refine hm_putF (ci := 5) (k := 0) (C := RX5) (T := TX5) (N := 5) hx hb hts hiX5 tyX5 tyX5_ok nmX5 hown hK hI rfl (by decide) w5 rfl hin rfl eh2 hm_nqa hm_fqa dX5_init_10 (fun H locs hI => ?_)
  refine hm_aload_n hx hb dX5_init_13 rfl (lv_at hl 0 rfl) ?_
  refine lv_iconst (v := (0 : Int32)) hx hb dX5_init_14 (by decide) ?_
  obtain ⟨h3, eh3, hf⟩ := hm_b_s hf
  refine hm_put (ci := 5) (k := 1) (C := RX5) (T := TX5) (N := 5) hx hb hts hiX5 tyX5 tyX5_ok nmX5 hown hK hI rfl (by decide) w6 rfl eh3 rfl rfl dX5_init_15 (fun H locs hI => ?_)
  refine hm_aload_n hx hb dX5_init_18 rfl (lv_at hl 0 rfl) ?_
  refine lv_iconst (v := (4 : Int32)) hx hb dX5_init_19 (by decide) ?_
  obtain ⟨h4, eh4, hf⟩ := hm_b_s hf
  refine hm_newq (kd := 2) (t0 := 2) (B := 4) (C := RX2) hx hb hown w7 haoX2 (by decide) hK hI rfl eh4 (Nat.le_of_ble_eq_true rfl) (Nat.le_of_ble_eq_true rfl) dX5_init_20 (fun H hI => ?_)
  refine W.cs (cells' := 2) (slots' := 12) rfl rfl ?_
  obtain ⟨h5, eh5, hf⟩ := hm_b_s hf
  refine hm_putF (ci := 5) (k := 2) (C := RX5) (T := TX5) (N := 5) hx hb hts hiX5 tyX5 tyX5_ok nmX5 hown hK hI rfl (by decide) w8 rfl hin rfl eh5 hm_nqa hm_fqa dX5_init_23 (fun H locs hI => ?_)
  refine lv_iconst (v := (0 : Int32)) hx hb dX5_init_26 (by decide) ?_
  refine lv_istore_n (lv' := [(1, .int (0 : Int32)), (0, va_rf (some t))]) hx hb dX5_init_27 rfl hl (by decide) (by simp only [List.filter, hm_cat2, Bool.and_false, Bool.not_false] <;> rfl) (fun ls hl => ?_)
  refine lv_iload_n hx hb dX5_init_28 rfl (lv_at hl 0 rfl) ?_
  refine lv_iconst (v := (4 : Int32)) hx hb dX5_init_29 (by decide) ?_
  refine lv_icmp_ge (tgt := 52) hx hb dX5_init_30 (by decide) (fun c => absurd c (by decide)) (fun c => ?_)
  refine hm_aload_n hx hb dX5_init_33 rfl (lv_at hl 1 rfl) ?_
  obtain ⟨v6, ev6, hf⟩ := hm_b_s hf
  refine hm_get (ci := 5) (k := 2) (C := RX5) (T := TX5) (N := 5) hx hb hts hiX5 hown hK hI rfl (by decide) w8 (hm_gq_s ev6) dX5_init_34 ?_
  refine lv_iload_n hx hb dX5_init_37 rfl (lv_at hl 0 rfl) ?_
  obtain ⟨h7, eh7, hf⟩ := hm_let_s hf
  refine hm_new (ci := 2) (fs := [.null, .int 0, .int 0]) (C := RX2) (T := TX2) (N := 3) hx hb hts hiX2 tyX2 tyX2_ok hown w7 w9 w10 hK hI rfl (fun j hj => by rcases (show j = 0 ∨ j = 1 ∨ j = 2 by omega) with rfl | rfl | rfl <;> rfl) (Nat.le_of_ble_eq_true rfl) (Nat.le_of_ble_eq_true rfl) dX5_init_38 (fun H hI => ?_)
  rw [← eh7] at hI
  refine W.cs (cells' := 3) (slots' := 15) rfl rfl ?_
  refine lv_dup hx hb dX5_init_41 (hm_rf_cat _) ?_
  obtain ⟨h8, eh8, hf⟩ := hm_b_s hf
  refine hm_cI (As := []) (rest := [va_rf (some h5.2), .int (0 : Int32), va_rf v6]) ⟨hx, hb, hml, hown, hts⟩ hK hI (kX2_init l D kA h5.2 h7 h8 eh8) (cwI 0 hts gX5_init_X2_init rfl rfl rfl w10 w11 w12 rfl (by decide +kernel) ⟨Nat.le_of_ble_eq_true rfl, Nat.le_of_ble_eq_true rfl⟩) rfl hl.1 rfl (by first | exact Nat.le_of_ble_eq_true rfl | (simp only [List.map, hm_rf_cat, hm_ci, hm_cl, List.sum_cons, List.sum_nil] <;> decide)) dX5_init_42 ⟨Nat.le_of_ble_eq_true rfl, Nat.le_of_ble_eq_true rfl⟩ (fun H locs hI => ?_)
  refine W.cs (cells' := 4) (slots' := 5015) rfl rfl ?_
  refine W.eq (g2 := F0 m 45 ls [va_rf (some h5.2), .int (0 : Int32), va_rf v6]) rfl ?_
  obtain ⟨h9, eh9, hf⟩ := hm_b_s hf
  refine hm_aast (kd := 2) (t0 := 2) (ci := 2) hx hb hK hI rfl rfl eh9 dX5_init_45 (fun H locs hI => ?_)
  refine lv_iinc (v := (1 : Int32)) (lv' := [(1, .int (1 : Int32)), (0, va_rf (some t))]) hx hb dX5_init_46 hl (k := 0) rfl (by decide) (by decide) (by simp only [List.filter, hm_cat2, Bool.and_false, Bool.not_false] <;> rfl) (fun ls hl => ?_)
  refine lv_goto (tgt := 28) hx hb dX5_init_49 (by decide) ?_
  refine lv_iload_n hx hb dX5_init_28 rfl (lv_at hl 0 rfl) ?_
  refine lv_iconst (v := (4 : Int32)) hx hb dX5_init_29 (by decide) ?_
  refine lv_icmp_ge (tgt := 52) hx hb dX5_init_30 (by decide) (fun c => absurd c (by decide)) (fun c => ?_)
  refine hm_aload_n hx hb dX5_init_33 rfl (lv_at hl 1 rfl) ?_
  obtain ⟨v10, ev10, hf⟩ := hm_b_s hf
  refine hm_get (ci := 5) (k := 2) (C := RX5) (T := TX5) (N := 5) hx hb hts hiX5 hown hK hI rfl (by decide) w8 (hm_gq_s ev10) dX5_init_34 ?_
  refine lv_iload_n hx hb dX5_init_37 rfl (lv_at hl 0 rfl) ?_
  obtain ⟨h11, eh11, hf⟩ := hm_let_s hf
  refine hm_new (ci := 2) (fs := [.null, .int 0, .int 0]) (C := RX2) (T := TX2) (N := 3) hx hb hts hiX2 tyX2 tyX2_ok hown w7 w9 w10 hK hI rfl (fun j hj => by rcases (show j = 0 ∨ j = 1 ∨ j = 2 by omega) with rfl | rfl | rfl <;> rfl) (Nat.le_of_ble_eq_true rfl) (Nat.le_of_ble_eq_true rfl) dX5_init_38 (fun H hI => ?_)
  rw [← eh11] at hI
  refine W.cs (cells' := 5) (slots' := 5018) rfl rfl ?_
  refine lv_dup hx hb dX5_init_41 (hm_rf_cat _) ?_
  obtain ⟨h12, eh12, hf⟩ := hm_b_s hf
  refine hm_cI (As := []) (rest := [va_rf (some h9.2), .int (1 : Int32), va_rf v10]) ⟨hx, hb, hml, hown, hts⟩ hK hI (kX2_init l D kA h9.2 h11 h12 eh12) (cwI 0 hts gX5_init_X2_init rfl rfl rfl w10 w11 w12 rfl (by decide +kernel) ⟨Nat.le_of_ble_eq_true rfl, Nat.le_of_ble_eq_true rfl⟩) rfl hl.1 rfl (by first | exact Nat.le_of_ble_eq_true rfl | (simp only [List.map, hm_rf_cat, hm_ci, hm_cl, List.sum_cons, List.sum_nil] <;> decide)) dX5_init_42 ⟨Nat.le_of_ble_eq_true rfl, Nat.le_of_ble_eq_true rfl⟩ (fun H locs hI => ?_)
  refine W.cs (cells' := 6) (slots' := 10018) rfl rfl ?_
  refine W.eq (g2 := F0 m 45 ls [va_rf (some h9.2), .int (1 : Int32), va_rf v10]) rfl ?_
  obtain ⟨h13, eh13, hf⟩ := hm_b_s hf
  refine hm_aast (kd := 2) (t0 := 2) (ci := 2) hx hb hK hI rfl rfl eh13 dX5_init_45 (fun H locs hI => ?_)
  refine lv_iinc (v := (2 : Int32)) (lv' := [(1, .int (2 : Int32)), (0, va_rf (some t))]) hx hb dX5_init_46 hl (k := 0) rfl (by decide) (by decide) (by simp only [List.filter, hm_cat2, Bool.and_false, Bool.not_false] <;> rfl) (fun ls hl => ?_)
  refine lv_goto (tgt := 28) hx hb dX5_init_49 (by decide) ?_
  refine lv_iload_n hx hb dX5_init_28 rfl (lv_at hl 0 rfl) ?_
  refine lv_iconst (v := (4 : Int32)) hx hb dX5_init_29 (by decide) ?_
  refine lv_icmp_ge (tgt := 52) hx hb dX5_init_30 (by decide) (fun c => absurd c (by decide)) (fun c => ?_)
  refine hm_aload_n hx hb dX5_init_33 rfl (lv_at hl 1 rfl) ?_
  obtain ⟨v14, ev14, hf⟩ := hm_b_s hf
  refine hm_get (ci := 5) (k := 2) (C := RX5) (T := TX5) (N := 5) hx hb hts hiX5 hown hK hI rfl (by decide) w8 (hm_gq_s ev14) dX5_init_34 ?_
  refine lv_iload_n hx hb dX5_init_37 rfl (lv_at hl 0 rfl) ?_
  obtain ⟨h15, eh15, hf⟩ := hm_let_s hf
  refine hm_new (ci := 2) (fs := [.null, .int 0, .int 0]) (C := RX2) (T := TX2) (N := 3) hx hb hts hiX2 tyX2 tyX2_ok hown w7 w9 w10 hK hI rfl (fun j hj => by rcases (show j = 0 ∨ j = 1 ∨ j = 2 by omega) with rfl | rfl | rfl <;> rfl) (Nat.le_of_ble_eq_true rfl) (Nat.le_of_ble_eq_true rfl) dX5_init_38 (fun H hI => ?_)
  rw [← eh15] at hI
  refine W.cs (cells' := 7) (slots' := 10021) rfl rfl ?_
  refine lv_dup hx hb dX5_init_41 (hm_rf_cat _) ?_
  obtain ⟨h16, eh16, hf⟩ := hm_b_s hf
  refine hm_cI (As := []) (rest := [va_rf (some h13.2), .int (2 : Int32), va_rf v14]) ⟨hx, hb, hml, hown, hts⟩ hK hI (kX2_init l D kA h13.2 h15 h16 eh16) (cwI 0 hts gX5_init_X2_init rfl rfl rfl w10 w11 w12 rfl (by decide +kernel) ⟨Nat.le_of_ble_eq_true rfl, Nat.le_of_ble_eq_true rfl⟩) rfl hl.1 rfl (by first | exact Nat.le_of_ble_eq_true rfl | (simp only [List.map, hm_rf_cat, hm_ci, hm_cl, List.sum_cons, List.sum_nil] <;> decide)) dX5_init_42 ⟨Nat.le_of_ble_eq_true rfl, Nat.le_of_ble_eq_true rfl⟩ (fun H locs hI => ?_)
  refine W.cs (cells' := 8) (slots' := 15021) rfl rfl ?_
  refine W.eq (g2 := F0 m 45 ls [va_rf (some h13.2), .int (2 : Int32), va_rf v14]) rfl ?_
  obtain ⟨h17, eh17, hf⟩ := hm_b_s hf
  refine hm_aast (kd := 2) (t0 := 2) (ci := 2) hx hb hK hI rfl rfl eh17 dX5_init_45 (fun H locs hI => ?_)
  refine lv_iinc (v := (3 : Int32)) (lv' := [(1, .int (3 : Int32)), (0, va_rf (some t))]) hx hb dX5_init_46 hl (k := 0) rfl (by decide) (by decide) (by simp only [List.filter, hm_cat2, Bool.and_false, Bool.not_false] <;> rfl) (fun ls hl => ?_)
  refine lv_goto (tgt := 28) hx hb dX5_init_49 (by decide) ?_
  refine lv_iload_n hx hb dX5_init_28 rfl (lv_at hl 0 rfl) ?_
  refine lv_iconst (v := (4 : Int32)) hx hb dX5_init_29 (by decide) ?_
  refine lv_icmp_ge (tgt := 52) hx hb dX5_init_30 (by decide) (fun c => absurd c (by decide)) (fun c => ?_)
  refine hm_aload_n hx hb dX5_init_33 rfl (lv_at hl 1 rfl) ?_
  obtain ⟨v18, ev18, hf⟩ := hm_b_s hf
  refine hm_get (ci := 5) (k := 2) (C := RX5) (T := TX5) (N := 5) hx hb hts hiX5 hown hK hI rfl (by decide) w8 (hm_gq_s ev18) dX5_init_34 ?_
  refine lv_iload_n hx hb dX5_init_37 rfl (lv_at hl 0 rfl) ?_
  obtain ⟨h19, eh19, hf⟩ := hm_let_s hf
  refine hm_new (ci := 2) (fs := [.null, .int 0, .int 0]) (C := RX2) (T := TX2) (N := 3) hx hb hts hiX2 tyX2 tyX2_ok hown w7 w9 w10 hK hI rfl (fun j hj => by rcases (show j = 0 ∨ j = 1 ∨ j = 2 by omega) with rfl | rfl | rfl <;> rfl) (Nat.le_of_ble_eq_true rfl) (Nat.le_of_ble_eq_true rfl) dX5_init_38 (fun H hI => ?_)
  rw [← eh19] at hI
  refine W.cs (cells' := 9) (slots' := 15024) rfl rfl ?_
  refine lv_dup hx hb dX5_init_41 (hm_rf_cat _) ?_
  obtain ⟨h20, eh20, hf⟩ := hm_b_s hf
  refine hm_cI (As := []) (rest := [va_rf (some h17.2), .int (3 : Int32), va_rf v18]) ⟨hx, hb, hml, hown, hts⟩ hK hI (kX2_init l D kA h17.2 h19 h20 eh20) (cwI 0 hts gX5_init_X2_init rfl rfl rfl w10 w11 w12 rfl (by decide +kernel) ⟨Nat.le_of_ble_eq_true rfl, Nat.le_of_ble_eq_true rfl⟩) rfl hl.1 rfl (by first | exact Nat.le_of_ble_eq_true rfl | (simp only [List.map, hm_rf_cat, hm_ci, hm_cl, List.sum_cons, List.sum_nil] <;> decide)) dX5_init_42 ⟨Nat.le_of_ble_eq_true rfl, Nat.le_of_ble_eq_true rfl⟩ (fun H locs hI => ?_)
  refine W.cs (cells' := 10) (slots' := 20024) rfl rfl ?_
  refine W.eq (g2 := F0 m 45 ls [va_rf (some h17.2), .int (3 : Int32), va_rf v18]) rfl ?_
  obtain ⟨h21, eh21, hf⟩ := hm_b_s hf
  refine hm_aast (kd := 2) (t0 := 2) (ci := 2) hx hb hK hI rfl rfl eh21 dX5_init_45 (fun H locs hI => ?_)
  refine lv_iinc (v := (4 : Int32)) (lv' := [(1, .int (4 : Int32)), (0, va_rf (some t))]) hx hb dX5_init_46 hl (k := 0) rfl (by decide) (by decide) (by simp only [List.filter, hm_cat2, Bool.and_false, Bool.not_false] <;> rfl) (fun ls hl => ?_)
  refine lv_goto (tgt := 28) hx hb dX5_init_49 (by decide) ?_
  refine lv_iload_n hx hb dX5_init_28 rfl (lv_at hl 0 rfl) ?_
  refine lv_iconst (v := (4 : Int32)) hx hb dX5_init_29 (by decide) ?_
  refine lv_icmp_ge (tgt := 52) hx hb dX5_init_30 (by decide) (fun c => ?_) (fun c => absurd (by decide) c)
  refine hm_aload_n hx hb dX5_init_52 rfl (lv_at hl 1 rfl) ?_
  obtain ⟨h22, eh22, hf⟩ := hm_let_s hf
  refine hm_new (ci := 2) (fs := [.null, .int 0, .int 0]) (C := RX2) (T := TX2) (N := 3) hx hb hts hiX2 tyX2 tyX2_ok hown w7 w9 w10 hK hI rfl (fun j hj => by rcases (show j = 0 ∨ j = 1 ∨ j = 2 by omega) with rfl | rfl | rfl <;> rfl) (Nat.le_of_ble_eq_true rfl) (Nat.le_of_ble_eq_true rfl) dX5_init_53 (fun H hI => ?_)
  rw [← eh22] at hI
  refine W.cs (cells' := 11) (slots' := 20027) rfl rfl ?_
  refine lv_dup hx hb dX5_init_56 (hm_rf_cat _) ?_
  obtain ⟨h23, eh23, hf⟩ := hm_b_s hf
  refine hm_cI (As := []) (rest := [va_rf (some h21.2), va_rf (some t)]) ⟨hx, hb, hml, hown, hts⟩ hK hI (kX2_init l D kA h21.2 h22 h23 eh23) (cwI 0 hts gX5_init_X2_init rfl rfl rfl w10 w11 w12 rfl (by decide +kernel) ⟨Nat.le_of_ble_eq_true rfl, Nat.le_of_ble_eq_true rfl⟩) rfl hl.1 rfl (by first | exact Nat.le_of_ble_eq_true rfl | (simp only [List.map, hm_rf_cat, hm_ci, hm_cl, List.sum_cons, List.sum_nil] <;> decide)) dX5_init_57 ⟨Nat.le_of_ble_eq_true rfl, Nat.le_of_ble_eq_true rfl⟩ (fun H locs hI => ?_)
  refine W.cs (cells' := 12) (slots' := 25027) rfl rfl ?_
  refine W.eq (g2 := F0 m 60 ls [va_rf (some h21.2), va_rf (some t)]) rfl ?_
  obtain ⟨h24, eh24, hf⟩ := hm_b_s hf
  refine hm_put (ci := 5) (k := 3) (C := RX5) (T := TX5) (N := 5) hx hb hts hiX5 tyX5 tyX5_ok nmX5 hown hK hI rfl (by decide) w13 rfl eh24 hm_nqo hm_fqo dX5_init_60 (fun H locs hI => ?_)
  refine hm_aload_n hx hb dX5_init_63 rfl (lv_at hl 1 rfl) ?_
  refine lv_sipush (v := (4096 : Int32)) hx hb dX5_init_64 (by decide) ?_
  obtain ⟨h25, eh25, hf⟩ := hm_b_s hf
  refine hm_newi (kd := 0) (t0 := 0) (B := 4096) (ty := .int) hx hb w14 rfl rfl (by decide) hK hI rfl (fun z => z) eh25 (Nat.le_of_ble_eq_true rfl) (Nat.le_of_ble_eq_true rfl) dX5_init_67 (fun H hI => ?_)
  refine W.cs (cells' := 13) (slots' := 29123) rfl rfl ?_
  obtain ⟨h26, eh26, hf⟩ := hm_b_s hf
  refine hm_putF (ci := 5) (k := 4) (C := RX5) (T := TX5) (N := 5) hx hb hts hiX5 tyX5 tyX5_ok nmX5 hown hK hI rfl (by decide) w15 rfl hin rfl eh26 hm_nqa hm_fqa dX5_init_69 (fun H locs hI => ?_)
  exact hm_vret_e hf hx hb hr hlocks hK hI (Nat.le_of_ble_eq_true rfl) (Nat.le_of_ble_eq_true rfl) dX5_init_72
/-! ==== X5_isSide: BlitBoard.isSide(I)Z ==== -/
def fX5_isSide (a1 : Int32) (h0 : hm_H) : Option (Int32 × hm_H) :=
  if a1 < 0 then
    some ((0 : Int32), h0)
  else
    if (64 : Int32) < a1 then
      some ((0 : Int32), h0)
    else
      some ((1 : Int32), h0)
set_option maxRecDepth 100000 in
set_option maxHeartbeats 8000000 in
theorem kX5_isSide (l : Launch) (D : va_G) (kA : Nat → ClassId) (a1 : Int32) (h0 h' : hm_H) (r : Int32) (hf : fX5_isSide a1 h0 = some (r, h')) : hm_C l yX5_isSide wsX5_isSide { frames := 0, cells := 0, slots := 0, locals := 0 } D vwCl kA (hm_ty kA) [.int a1] h0 (some (.int r)) h' 0 0 := by
  refine Met.ofW (cc := cX5_isSide) (maxL := 1) (ret := (some .boolean)) (by decide) rfl ?_
  intro p e s m args below meth c s₁ B hml hv
  obtain ⟨hargs, hB⟩ := hv
  have hx := B.exec
  have hb := B.bytes
  have hr := B.returns
  have hts := atoms_spec (ws := wsX5_isSide) B.pre
  have hown : s.vm.findClass RX5 = some m.cls := findClass_of_methodNamed B.named
  have hlocks := B.notSynchronized
  have hK := hB.2
  have hI := hm_start hB
  rw [show entryFrame m args 1 = entryFrame m ([.int a1] : List Value).toArray 1 from by rw [hargs]]
  have hl := lv_entry ([.int a1]) (n := 1) (Nat.le_of_ble_eq_true rfl)
  rw [lg_entry_eq]
  generalize (lg_sl ([.int a1]) ++ List.replicate (1 - (lg_sl ([.int a1])).length) Slot.unset).toArray = ls at hl ⊢
  have hl : lv_has ls 1 [(0, .int a1)] := hl
  unfold fX5_isSide at hf
  refine lv_iload_n hx hb dX5_isSide_0 rfl (lv_at hl 0 rfl) ?_
  refine lv_if_lt (tgt := 14) hx hb dX5_isSide_1 (by decide) (fun c => ?_) (fun c => ?_)
  · rw [if_pos c] at hf
    refine lv_iconst (v := (0 : Int32)) hx hb dX5_isSide_14 (by decide) ?_
    exact hm_zret_e hf hx hb hr hlocks hK hI (Nat.le_of_ble_eq_true rfl) (Nat.le_of_ble_eq_true rfl) rfl dX5_isSide_15
  · rw [if_neg c] at hf
    refine lv_iload_n hx hb dX5_isSide_4 rfl (lv_at hl 0 rfl) ?_
    refine lv_bipush (v := (64 : Int32)) hx hb dX5_isSide_5 (by decide) ?_
    refine lv_icmp_gt (tgt := 14) hx hb dX5_isSide_7 (by decide) (fun c => ?_) (fun c => ?_)
    · rw [if_pos c] at hf
      refine lv_iconst (v := (0 : Int32)) hx hb dX5_isSide_14 (by decide) ?_
      exact hm_zret_e hf hx hb hr hlocks hK hI (Nat.le_of_ble_eq_true rfl) (Nat.le_of_ble_eq_true rfl) rfl dX5_isSide_15
    · rw [if_neg c] at hf
      refine lv_iconst (v := (1 : Int32)) hx hb dX5_isSide_10 (by decide) ?_
      refine lv_goto (tgt := 15) hx hb dX5_isSide_11 (by decide) ?_
      exact hm_zret_e hf hx hb hr hlocks hK hI (Nat.le_of_ble_eq_true rfl) (Nat.le_of_ble_eq_true rfl) rfl dX5_isSide_15
/-! ==== X5_make: BlitBoard.make(III)I ==== -/
def fX5_make_50 (x0 : Option Nat) (x1 : Int32) (x2 : Int32) (x3 : Int32) (x4 : Int32) (s0 : Int32) (h : hm_H) : Option (Int32 × hm_H) :=
  if x4 = 0 then
    some ((-1 : Int32), h)
  else
    if s0 = 0 then
      some ((-1 : Int32), h)
    else
      hm_b (hm_gi 5 1 h x0) fun v5 =>
      if v5 < (8 : Int32) then
        hm_b (hm_gq 5 0 h x0) fun v6 =>
        hm_b (hm_gi 5 1 h x0) fun v7 =>
        hm_let (hm_n h (.inr (3, [.int 0, .int 0, .null, .null, .null]))) fun h8 =>
        hm_b (fX3_init h.2 x1 x2 x3 h8) fun h9 =>
        hm_b (hm_sq 3 3 h9 v6 v7 (some h.2)) fun h10 =>
        hm_b (hm_gi 5 1 h10 x0) fun v11 =>
        hm_b (hm_p 5 1 (.int (v11 + (1 : Int32))) h10 x0) fun h12 =>
        hm_b (hm_gi 5 1 h12 x0) fun v13 =>
        some (v13 - (1 : Int32), h12)
      else
        some ((-1 : Int32), h)
def fX5_make_49 (x0 : Option Nat) (x1 : Int32) (x2 : Int32) (x3 : Int32) (x4 : Int32) (h : hm_H) : Option (Int32 × hm_H) :=
  fX5_make_50 x0 x1 x2 x3 x4 (0 : Int32) h
def fX5_make_21 (x0 : Option Nat) (x1 : Int32) (x2 : Int32) (x3 : Int32) (s0 : Int32) (h : hm_H) : Option (Int32 × hm_H) :=
  if x2 ≤ 0 then
    fX5_make_49 x0 x1 x2 x3 s0 h
  else
    if x3 ≤ 0 then
      fX5_make_49 x0 x1 x2 x3 s0 h
    else
      hm_b2 (fX5_isSide x2 h) fun v2 h1 =>
      if v2 = 0 then
        fX5_make_49 x0 x1 x2 x3 s0 h1
      else
        hm_b2 (fX5_isSide x3 h1) fun v4 h3 =>
        if v4 = 0 then
          fX5_make_49 x0 x1 x2 x3 s0 h3
        else
          fX5_make_50 x0 x1 x2 x3 s0 (1 : Int32) h3
def fX5_make_16 (x0 : Option Nat) (x1 : Int32) (x2 : Int32) (x3 : Int32) (h : hm_H) : Option (Int32 × hm_H) :=
  fX5_make_21 x0 x1 x2 x3 (1 : Int32) h
def fX5_make (t : Nat) (a1 : Int32) (a2 : Int32) (a3 : Int32) (h0 : hm_H) : Option (Int32 × hm_H) :=
  if a1 = (1 : Int32) then
    fX5_make_16 (some t) a1 a2 a3 h0
  else
    if a1 = (4 : Int32) then
      fX5_make_16 (some t) a1 a2 a3 h0
    else
      if a1 = (8 : Int32) then
        fX5_make_16 (some t) a1 a2 a3 h0
      else
        fX5_make_21 (some t) a1 a2 a3 (0 : Int32) h0
set_option maxRecDepth 100000 in
set_option maxHeartbeats 8000000 in
theorem kX5_make (l : Launch) (D : va_G) (kA : Nat → ClassId) (t : Nat) (a1 : Int32) (a2 : Int32) (a3 : Int32) (h0 h' : hm_H) (r : Int32) (hf : fX5_make t a1 a2 a3 h0 = some (r, h')) : hm_C l yX5_make wsX5_make { frames := 3, cells := 3, slots := 4105, locals := 69 } D vwCl kA (hm_ty kA) [.ref t, .int a1, .int a2, .int a3] h0 (some (.int r)) h' 3 4105 := by
  refine Met.ofW (cc := cX5_make) (maxL := 6) (ret := (some .int)) (by decide) rfl ?_
  intro p e s m args below meth c s₁ B hml hv
  obtain ⟨hargs, hB⟩ := hv
  have hx := B.exec
  have hb := B.bytes
  have hr := B.returns
  have hts := atoms_spec (ws := wsX5_make) B.pre
  have hown : s.vm.findClass RX5 = some m.cls := findClass_of_methodNamed B.named
  have hlocks := B.notSynchronized
  have hK := hB.2
  have hI := hm_start hB
  have w1 := hts (.fieldLink RX5 15 "BlitBoard" "surfaceCount" "I") (by decide +kernel)
  have w2 := hts (.fieldLink RX5 11 "BlitBoard" "surfaces" "[LBlitBoard$Surface;") (by decide +kernel)
  have w3 := hts (.classLink RX5 9 RX3) (by decide +kernel)
  have w4 := hts (.instantiable RX3 5) (by decide +kernel)
  have w5 := hts (.initialized RX3) (by decide +kernel)
  have w6 := hts (.methodLink RX5 38 yX3_init) (by decide +kernel)
  have w7 := hts (.instanceMethod yX3_init) (by decide +kernel)
  have hiX5 : ∀ w ∈ wsX50, w ∈ wsX5_make := by decide +kernel
  have hiX3 : ∀ w ∈ wsX30, w ∈ wsX5_make := by decide +kernel
  have B50 : ∀ (x0 : Option Nat) (x1 : Int32) (x2 : Int32) (x3 : Int32) (x4 : Int32) (s0 : Int32) (h : hm_H), fX5_make_50 x0 x1 x2 x3 x4 s0 h = some (r, h') → ∀ (H : Heap) (locs : List Loc) (ls : Array Slot), hm_I D vwCl kA (hm_A h0) s.heap h H locs → lv_has ls 6 [(0, va_rf x0), (1, .int x1), (2, .int x2), (3, .int x3), (4, .int x4)] → W p l e (headSpec wsX5_make { frames := 3, cells := 3, slots := 4105, locals := 69 }).room s m args below meth c H locs 0 0 (MQ below (hm_Q D vwCl kA (hm_ty kA) h0 (some (.int r)) h') args s 3 4105 (hm_A h0)) (F0 m 50 ls [.int s0]) := by
    intro x0 x1 x2 x3 x4 s0 h hf H locs ls hI hl
    unfold fX5_make_50 at hf
    refine lv_istore (lv' := [(5, .int s0), (0, va_rf x0), (1, .int x1), (2, .int x2), (3, .int x3), (4, .int x4)]) hx hb dX5_make_50 hl (by decide) rfl (fun ls hl => ?_)
    refine lv_iload hx hb dX5_make_52 (lv_at hl 5 rfl) ?_
    refine lv_if_eq (tgt := 71) hx hb dX5_make_54 (by decide) (fun c => ?_) (fun c => ?_)
    · rw [if_pos c] at hf
      refine lv_iconst (v := (-1 : Int32)) hx hb dX5_make_71 (by decide) ?_
      exact hm_iret_e hf hx hb hr hlocks hK hI (Nat.le_of_ble_eq_true rfl) (Nat.le_of_ble_eq_true rfl) dX5_make_72
    · rw [if_neg c] at hf
      refine lv_iload hx hb dX5_make_57 (lv_at hl 0 rfl) ?_
      refine lv_if_eq (tgt := 71) hx hb dX5_make_59 (by decide) (fun c => ?_) (fun c => ?_)
      · rw [if_pos c] at hf
        refine lv_iconst (v := (-1 : Int32)) hx hb dX5_make_71 (by decide) ?_
        exact hm_iret_e hf hx hb hr hlocks hK hI (Nat.le_of_ble_eq_true rfl) (Nat.le_of_ble_eq_true rfl) dX5_make_72
      · rw [if_neg c] at hf
        refine hm_aload_n hx hb dX5_make_62 rfl (lv_at hl 1 rfl) ?_
        obtain ⟨v5, ev5, hf⟩ := hm_b_s hf
        refine hm_get (ci := 5) (k := 1) (C := RX5) (T := TX5) (N := 5) hx hb hts hiX5 hown hK hI rfl (by decide) w1 (hm_gi_s ev5) dX5_make_63 ?_
        refine lv_bipush (v := (8 : Int32)) hx hb dX5_make_66 (by decide) ?_
        refine lv_icmp_lt (tgt := 73) hx hb dX5_make_68 (by decide) (fun c => ?_) (fun c => ?_)
        · rw [if_pos c] at hf
          refine hm_aload_n hx hb dX5_make_73 rfl (lv_at hl 1 rfl) ?_
          obtain ⟨v6, ev6, hf⟩ := hm_b_s hf
          refine hm_get (ci := 5) (k := 0) (C := RX5) (T := TX5) (N := 5) hx hb hts hiX5 hown hK hI rfl (by decide) w2 (hm_gq_s ev6) dX5_make_74 ?_
          refine hm_aload_n hx hb dX5_make_77 rfl (lv_at hl 1 rfl) ?_
          obtain ⟨v7, ev7, hf⟩ := hm_b_s hf
          refine hm_get (ci := 5) (k := 1) (C := RX5) (T := TX5) (N := 5) hx hb hts hiX5 hown hK hI rfl (by decide) w1 (hm_gi_s ev7) dX5_make_78 ?_
          obtain ⟨h8, eh8, hf⟩ := hm_let_s hf
          refine hm_new (ci := 3) (fs := [.int 0, .int 0, .null, .null, .null]) (C := RX3) (T := TX3) (N := 5) hx hb hts hiX3 tyX3 tyX3_ok hown w3 w4 w5 hK hI rfl (fun j hj => by rcases (show j = 0 ∨ j = 1 ∨ j = 2 ∨ j = 3 ∨ j = 4 by omega) with rfl | rfl | rfl | rfl | rfl <;> rfl) (Nat.le_of_ble_eq_true rfl) (Nat.le_of_ble_eq_true rfl) dX5_make_81 (fun H hI => ?_)
          rw [← eh8] at hI
          refine W.cs (cells' := 1) (slots' := 5) rfl rfl ?_
          refine lv_dup hx hb dX5_make_84 (hm_rf_cat _) ?_
          refine lv_iload_n hx hb dX5_make_85 rfl (lv_at hl 2 rfl) ?_
          refine lv_iload_n hx hb dX5_make_86 rfl (lv_at hl 3 rfl) ?_
          refine lv_iload_n hx hb dX5_make_87 rfl (lv_at hl 4 rfl) ?_
          obtain ⟨h9, eh9, hf⟩ := hm_b_s hf
          refine hm_cI (As := [.int x1, .int x2, .int x3]) (rest := [va_rf (some h.2), .int v7, va_rf v6]) ⟨hx, hb, hml, hown, hts⟩ hK hI (kX3_init l D kA h.2 x1 x2 x3 h8 h9 eh9) (cwI 3 hts gX5_make_X3_init rfl rfl rfl w5 w6 w7 rfl (by decide +kernel) ⟨Nat.le_of_ble_eq_true rfl, Nat.le_of_ble_eq_true rfl⟩) rfl hl.1 rfl (by first | exact Nat.le_of_ble_eq_true rfl | (simp only [List.map, hm_rf_cat, hm_ci, hm_cl, List.sum_cons, List.sum_nil] <;> decide)) dX5_make_88 ⟨Nat.le_of_ble_eq_true rfl, Nat.le_of_ble_eq_true rfl⟩ (fun H locs hI => ?_)
          refine W.cs (cells' := 3) (slots' := 4105) rfl rfl ?_
          refine W.eq (g2 := F0 m 91 ls [va_rf (some h.2), .int v7, va_rf v6]) rfl ?_
          obtain ⟨h10, eh10, hf⟩ := hm_b_s hf
          refine hm_aast (kd := 3) (t0 := 3) (ci := 3) hx hb hK hI rfl rfl eh10 dX5_make_91 (fun H locs hI => ?_)
          refine hm_aload_n hx hb dX5_make_92 rfl (lv_at hl 1 rfl) ?_
          refine lv_dup hx hb dX5_make_93 (hm_rf_cat _) ?_
          obtain ⟨v11, ev11, hf⟩ := hm_b_s hf
          refine hm_get (ci := 5) (k := 1) (C := RX5) (T := TX5) (N := 5) hx hb hts hiX5 hown hK hI rfl (by decide) w1 (hm_gi_s ev11) dX5_make_94 ?_
          refine lv_iconst (v := (1 : Int32)) hx hb dX5_make_97 (by decide) ?_
          refine lv_iadd hx hb dX5_make_98 ?_
          obtain ⟨h12, eh12, hf⟩ := hm_b_s hf
          refine hm_put (ci := 5) (k := 1) (C := RX5) (T := TX5) (N := 5) hx hb hts hiX5 tyX5 tyX5_ok nmX5 hown hK hI rfl (by decide) w1 rfl eh12 rfl rfl dX5_make_99 (fun H locs hI => ?_)
          refine hm_aload_n hx hb dX5_make_102 rfl (lv_at hl 1 rfl) ?_
          obtain ⟨v13, ev13, hf⟩ := hm_b_s hf
          refine hm_get (ci := 5) (k := 1) (C := RX5) (T := TX5) (N := 5) hx hb hts hiX5 hown hK hI rfl (by decide) w1 (hm_gi_s ev13) dX5_make_103 ?_
          refine lv_iconst (v := (1 : Int32)) hx hb dX5_make_106 (by decide) ?_
          refine lv_isub hx hb dX5_make_107 ?_
          exact hm_iret_e hf hx hb hr hlocks hK hI (Nat.le_of_ble_eq_true rfl) (Nat.le_of_ble_eq_true rfl) dX5_make_108
        · rw [if_neg c] at hf
          refine lv_iconst (v := (-1 : Int32)) hx hb dX5_make_71 (by decide) ?_
          exact hm_iret_e hf hx hb hr hlocks hK hI (Nat.le_of_ble_eq_true rfl) (Nat.le_of_ble_eq_true rfl) dX5_make_72
  have B49 : ∀ (x0 : Option Nat) (x1 : Int32) (x2 : Int32) (x3 : Int32) (x4 : Int32) (h : hm_H), fX5_make_49 x0 x1 x2 x3 x4 h = some (r, h') → ∀ (H : Heap) (locs : List Loc) (ls : Array Slot), hm_I D vwCl kA (hm_A h0) s.heap h H locs → lv_has ls 6 [(0, va_rf x0), (1, .int x1), (2, .int x2), (3, .int x3), (4, .int x4)] → W p l e (headSpec wsX5_make { frames := 3, cells := 3, slots := 4105, locals := 69 }).room s m args below meth c H locs 0 0 (MQ below (hm_Q D vwCl kA (hm_ty kA) h0 (some (.int r)) h') args s 3 4105 (hm_A h0)) (F0 m 49 ls []) := by
    intro x0 x1 x2 x3 x4 h hf H locs ls hI hl
    unfold fX5_make_49 at hf
    refine lv_iconst (v := (0 : Int32)) hx hb dX5_make_49 (by decide) ?_
    exact B50 x0 x1 x2 x3 x4 (0 : Int32) h hf _ _ _ hI (lv_sub hl [0, 1, 2, 3, 4] rfl)
  have B21 : ∀ (x0 : Option Nat) (x1 : Int32) (x2 : Int32) (x3 : Int32) (s0 : Int32) (h : hm_H), fX5_make_21 x0 x1 x2 x3 s0 h = some (r, h') → ∀ (H : Heap) (locs : List Loc) (ls : Array Slot), hm_I D vwCl kA (hm_A h0) s.heap h H locs → lv_has ls 6 [(0, va_rf x0), (1, .int x1), (2, .int x2), (3, .int x3)] → W p l e (headSpec wsX5_make { frames := 3, cells := 3, slots := 4105, locals := 69 }).room s m args below meth c H locs 0 0 (MQ below (hm_Q D vwCl kA (hm_ty kA) h0 (some (.int r)) h') args s 3 4105 (hm_A h0)) (F0 m 21 ls [.int s0]) := by
    intro x0 x1 x2 x3 s0 h hf H locs ls hI hl
    unfold fX5_make_21 at hf
    refine lv_istore (lv' := [(4, .int s0), (0, va_rf x0), (1, .int x1), (2, .int x2), (3, .int x3)]) hx hb dX5_make_21 hl (by decide) rfl (fun ls hl => ?_)
    refine lv_iload_n hx hb dX5_make_23 rfl (lv_at hl 3 rfl) ?_
    refine lv_if_le (tgt := 49) hx hb dX5_make_24 (by decide) (fun c => ?_) (fun c => ?_)
    · rw [if_pos c] at hf
      exact B49 x0 x1 x2 x3 s0 h hf _ _ _ hI (lv_sub hl [1, 2, 3, 4, 0] rfl)
    · rw [if_neg c] at hf
      refine lv_iload_n hx hb dX5_make_27 rfl (lv_at hl 4 rfl) ?_
      refine lv_if_le (tgt := 49) hx hb dX5_make_28 (by decide) (fun c => ?_) (fun c => ?_)
      · rw [if_pos c] at hf
        exact B49 x0 x1 x2 x3 s0 h hf _ _ _ hI (lv_sub hl [1, 2, 3, 4, 0] rfl)
      · rw [if_neg c] at hf
        refine lv_iload_n hx hb dX5_make_31 rfl (lv_at hl 3 rfl) ?_
        obtain ⟨v2, h1, eh1, hf⟩ := hm_b2_s hf
        refine hm_cS (As := [.int x2]) (rest := []) ⟨hx, hb, hml, hown, hts⟩ hK hI (kX5_isSide l D kA x2 h h1 v2 eh1) (va_cwS 1 hts gX5_make_X5_isSide rfl rfl rfl (by decide +kernel) ⟨Nat.le_of_ble_eq_true rfl, Nat.le_of_ble_eq_true rfl⟩) rfl hl.1 rfl (by first | exact Nat.le_of_ble_eq_true rfl | (simp only [List.map, hm_rf_cat, hm_ci, hm_cl, List.sum_cons, List.sum_nil] <;> decide)) dX5_make_32 ⟨Nat.le_of_ble_eq_true rfl, Nat.le_of_ble_eq_true rfl⟩ (fun H locs hI => ?_)
        refine lv_if_eq (tgt := 49) hx hb dX5_make_35 (by decide) (fun c => ?_) (fun c => ?_)
        · rw [if_pos c] at hf
          exact B49 x0 x1 x2 x3 s0 h1 hf _ _ _ hI (lv_sub hl [1, 2, 3, 4, 0] rfl)
        · rw [if_neg c] at hf
          refine lv_iload_n hx hb dX5_make_38 rfl (lv_at hl 4 rfl) ?_
          obtain ⟨v4, h3, eh3, hf⟩ := hm_b2_s hf
          refine hm_cS (As := [.int x3]) (rest := []) ⟨hx, hb, hml, hown, hts⟩ hK hI (kX5_isSide l D kA x3 h1 h3 v4 eh3) (va_cwS 1 hts gX5_make_X5_isSide rfl rfl rfl (by decide +kernel) ⟨Nat.le_of_ble_eq_true rfl, Nat.le_of_ble_eq_true rfl⟩) rfl hl.1 rfl (by first | exact Nat.le_of_ble_eq_true rfl | (simp only [List.map, hm_rf_cat, hm_ci, hm_cl, List.sum_cons, List.sum_nil] <;> decide)) dX5_make_39 ⟨Nat.le_of_ble_eq_true rfl, Nat.le_of_ble_eq_true rfl⟩ (fun H locs hI => ?_)
          refine lv_if_eq (tgt := 49) hx hb dX5_make_42 (by decide) (fun c => ?_) (fun c => ?_)
          · rw [if_pos c] at hf
            exact B49 x0 x1 x2 x3 s0 h3 hf _ _ _ hI (lv_sub hl [1, 2, 3, 4, 0] rfl)
          · rw [if_neg c] at hf
            refine lv_iconst (v := (1 : Int32)) hx hb dX5_make_45 (by decide) ?_
            refine lv_goto (tgt := 50) hx hb dX5_make_46 (by decide) ?_
            exact B50 x0 x1 x2 x3 s0 (1 : Int32) h3 hf _ _ _ hI (lv_sub hl [1, 2, 3, 4, 0] rfl)
  have B16 : ∀ (x0 : Option Nat) (x1 : Int32) (x2 : Int32) (x3 : Int32) (h : hm_H), fX5_make_16 x0 x1 x2 x3 h = some (r, h') → ∀ (H : Heap) (locs : List Loc) (ls : Array Slot), hm_I D vwCl kA (hm_A h0) s.heap h H locs → lv_has ls 6 [(0, va_rf x0), (1, .int x1), (2, .int x2), (3, .int x3)] → W p l e (headSpec wsX5_make { frames := 3, cells := 3, slots := 4105, locals := 69 }).room s m args below meth c H locs 0 0 (MQ below (hm_Q D vwCl kA (hm_ty kA) h0 (some (.int r)) h') args s 3 4105 (hm_A h0)) (F0 m 16 ls []) := by
    intro x0 x1 x2 x3 h hf H locs ls hI hl
    unfold fX5_make_16 at hf
    refine lv_iconst (v := (1 : Int32)) hx hb dX5_make_16 (by decide) ?_
    refine lv_goto (tgt := 21) hx hb dX5_make_17 (by decide) ?_
    exact B21 x0 x1 x2 x3 (1 : Int32) h hf _ _ _ hI (lv_sub hl [0, 1, 2, 3] rfl)
  rw [show entryFrame m args 6 = entryFrame m ([.ref t, .int a1, .int a2, .int a3] : List Value).toArray 6 from by rw [hargs]]
  have hl := lv_entry ([.ref t, .int a1, .int a2, .int a3]) (n := 6) (Nat.le_of_ble_eq_true rfl)
  rw [lg_entry_eq]
  generalize (lg_sl ([.ref t, .int a1, .int a2, .int a3]) ++ List.replicate (6 - (lg_sl ([.ref t, .int a1, .int a2, .int a3])).length) Slot.unset).toArray = ls at hl ⊢
  have hl : lv_has ls 6 [(0, va_rf (some t)), (1, .int a1), (2, .int a2), (3, .int a3)] := hl
  unfold fX5_make at hf
  refine lv_iload_n hx hb dX5_make_0 rfl (lv_at hl 1 rfl) ?_
  refine lv_iconst (v := (1 : Int32)) hx hb dX5_make_1 (by decide) ?_
  refine lv_icmp_eq (tgt := 16) hx hb dX5_make_2 (by decide) (fun c => ?_) (fun c => ?_)
  · rw [if_pos c] at hf
    exact B16 (some t) a1 a2 a3 h0 hf _ _ _ hI (lv_sub hl [0, 1, 2, 3] rfl)
  · rw [if_neg c] at hf
    refine lv_iload_n hx hb dX5_make_5 rfl (lv_at hl 1 rfl) ?_
    refine lv_iconst (v := (4 : Int32)) hx hb dX5_make_6 (by decide) ?_
    refine lv_icmp_eq (tgt := 16) hx hb dX5_make_7 (by decide) (fun c => ?_) (fun c => ?_)
    · rw [if_pos c] at hf
      exact B16 (some t) a1 a2 a3 h0 hf _ _ _ hI (lv_sub hl [0, 1, 2, 3] rfl)
    · rw [if_neg c] at hf
      refine lv_iload_n hx hb dX5_make_10 rfl (lv_at hl 1 rfl) ?_
      refine lv_bipush (v := (8 : Int32)) hx hb dX5_make_11 (by decide) ?_
      refine lv_icmp_ne (tgt := 20) hx hb dX5_make_13 (by decide) (fun c => ?_) (fun c => ?_)
      · rw [if_neg c] at hf
        refine lv_iconst (v := (0 : Int32)) hx hb dX5_make_20 (by decide) ?_
        exact B21 (some t) a1 a2 a3 (0 : Int32) h0 hf _ _ _ hI (lv_sub hl [0, 1, 2, 3] rfl)
      · rw [if_pos c] at hf
        exact B16 (some t) a1 a2 a3 h0 hf _ _ _ hI (lv_sub hl [0, 1, 2, 3] rfl)
/-! ==== X5_surfaceAt: BlitBoard.surfaceAt(I)LBlitBoard$Surface; ==== -/
def fX5_surfaceAt (t : Nat) (a1 : Int32) (h0 : hm_H) : Option (Option Nat × hm_H) :=
  if a1 < 0 then
    some (none, h0)
  else
    hm_b (hm_gi 5 1 h0 (some t)) fun v1 =>
    if v1 ≤ a1 then
      some (none, h0)
    else
      hm_b (hm_gq 5 0 h0 (some t)) fun v2 =>
      hm_b (hm_aq 3 h0 v2 a1) fun v3 =>
      some (v3, h0)
set_option maxRecDepth 100000 in
set_option maxHeartbeats 8000000 in
theorem kX5_surfaceAt (l : Launch) (D : va_G) (kA : Nat → ClassId) (t : Nat) (a1 : Int32) (h0 h' : hm_H) (r : Option Nat) (hf : fX5_surfaceAt t a1 h0 = some (r, h')) : hm_C l yX5_surfaceAt wsX5_surfaceAt { frames := 0, cells := 0, slots := 0, locals := 0 } D vwCl kA (hm_ty kA) [.ref t, .int a1] h0 (some (va_rf r)) h' 0 0 := by
  refine Met.ofW (cc := cX5_surfaceAt) (maxL := 2) (ret := (some (.object "BlitBoard$Surface"))) (by decide) rfl ?_
  intro p e s m args below meth c s₁ B hml hv
  obtain ⟨hargs, hB⟩ := hv
  have hx := B.exec
  have hb := B.bytes
  have hr := B.returns
  have hts := atoms_spec (ws := wsX5_surfaceAt) B.pre
  have hown : s.vm.findClass RX5 = some m.cls := findClass_of_methodNamed B.named
  have hlocks := B.notSynchronized
  have hK := hB.2
  have hI := hm_start hB
  have w1 := hts (.fieldLink RX5 15 "BlitBoard" "surfaceCount" "I") (by decide +kernel)
  have w2 := hts (.fieldLink RX5 11 "BlitBoard" "surfaces" "[LBlitBoard$Surface;") (by decide +kernel)
  have hiX5 : ∀ w ∈ wsX50, w ∈ wsX5_surfaceAt := by decide +kernel
  rw [show entryFrame m args 2 = entryFrame m ([.ref t, .int a1] : List Value).toArray 2 from by rw [hargs]]
  have hl := lv_entry ([.ref t, .int a1]) (n := 2) (Nat.le_of_ble_eq_true rfl)
  rw [lg_entry_eq]
  generalize (lg_sl ([.ref t, .int a1]) ++ List.replicate (2 - (lg_sl ([.ref t, .int a1])).length) Slot.unset).toArray = ls at hl ⊢
  have hl : lv_has ls 2 [(0, va_rf (some t)), (1, .int a1)] := hl
  unfold fX5_surfaceAt at hf
  refine lv_iload_n hx hb dX5_surfaceAt_0 rfl (lv_at hl 1 rfl) ?_
  refine lv_if_lt (tgt := 21) hx hb dX5_surfaceAt_1 (by decide) (fun c => ?_) (fun c => ?_)
  · rw [if_pos c] at hf
    refine lv_null hx hb dX5_surfaceAt_21 ?_
    refine W.eq (g2 := F0 m 22 ls (va_rf none :: [])) rfl ?_
    exact hm_aret_e hf hx hb hr hlocks hK hI (Nat.le_of_ble_eq_true rfl) (Nat.le_of_ble_eq_true rfl) dX5_surfaceAt_22
  · rw [if_neg c] at hf
    refine lv_iload_n hx hb dX5_surfaceAt_4 rfl (lv_at hl 1 rfl) ?_
    refine hm_aload_n hx hb dX5_surfaceAt_5 rfl (lv_at hl 0 rfl) ?_
    obtain ⟨v1, ev1, hf⟩ := hm_b_s hf
    refine hm_get (ci := 5) (k := 1) (C := RX5) (T := TX5) (N := 5) hx hb hts hiX5 hown hK hI rfl (by decide) w1 (hm_gi_s ev1) dX5_surfaceAt_6 ?_
    refine lv_icmp_ge (tgt := 21) hx hb dX5_surfaceAt_9 (by decide) (fun c => ?_) (fun c => ?_)
    · rw [if_pos c] at hf
      refine lv_null hx hb dX5_surfaceAt_21 ?_
      refine W.eq (g2 := F0 m 22 ls (va_rf none :: [])) rfl ?_
      exact hm_aret_e hf hx hb hr hlocks hK hI (Nat.le_of_ble_eq_true rfl) (Nat.le_of_ble_eq_true rfl) dX5_surfaceAt_22
    · rw [if_neg c] at hf
      refine hm_aload_n hx hb dX5_surfaceAt_12 rfl (lv_at hl 0 rfl) ?_
      obtain ⟨v2, ev2, hf⟩ := hm_b_s hf
      refine hm_get (ci := 5) (k := 0) (C := RX5) (T := TX5) (N := 5) hx hb hts hiX5 hown hK hI rfl (by decide) w2 (hm_gq_s ev2) dX5_surfaceAt_13 ?_
      refine lv_iload_n hx hb dX5_surfaceAt_16 rfl (lv_at hl 1 rfl) ?_
      obtain ⟨v3, ev3, hf⟩ := hm_b_s hf
      refine hm_aald (kd := 3) (t0 := 3) hx hb hK hI rfl ev3 dX5_surfaceAt_17 ?_
      refine lv_goto (tgt := 22) hx hb dX5_surfaceAt_18 (by decide) ?_
      exact hm_aret_e hf hx hb hr hlocks hK hI (Nat.le_of_ble_eq_true rfl) (Nat.le_of_ble_eq_true rfl) dX5_surfaceAt_22
/-! ==== X5_clip: BlitBoard.clip(IIIII)I ==== -/
def fX5_clip (t : Nat) (a1 : Int32) (a2 : Int32) (a3 : Int32) (a4 : Int32) (a5 : Int32) (h0 : hm_H) : Option (Int32 × hm_H) :=
  hm_b (hm_rc 5 h0 (some t)) fun b2 =>
  hm_b2 (fX5_surfaceAt b2 a1 h0) fun v3 h1 =>
  if v3 = none then
    some ((-1 : Int32), h1)
  else
    hm_b2 (fX5_isSide a4 h1) fun v5 h4 =>
    if v5 = 0 then
      some ((-1 : Int32), h4)
    else
      hm_b2 (fX5_isSide a5 h4) fun v7 h6 =>
      if v7 = 0 then
        some ((-1 : Int32), h6)
      else
        hm_b (hm_gq 3 2 h6 v3) fun v8 =>
        hm_let (hm_n h6 (.inr (0, [.long 0, .long 0, .int 0, .int 0]))) fun h9 =>
        hm_b (fX0_init h6.2 ((a2).toInt64) ((a3).toInt64) a4 a5 h9) fun h10 =>
        hm_b (hm_rc 0 h10 v8) fun b12 =>
        hm_b2 (fX0_shared b12 (some h6.2) h10) fun v13 h11 =>
        hm_b (hm_p 3 4 (va_rf v13) h11 v3) fun h14 =>
        hm_b (hm_gq 3 4 h14 v3) fun v15 =>
        hm_b (hm_rc 0 h14 v15) fun b17 =>
        hm_b2 (fX0_size b17 h14) fun v18 h16 =>
        some (v18, h16)
set_option maxRecDepth 100000 in
set_option maxHeartbeats 8000000 in
theorem kX5_clip (l : Launch) (D : va_G) (kA : Nat → ClassId) (t : Nat) (a1 : Int32) (a2 : Int32) (a3 : Int32) (a4 : Int32) (a5 : Int32) (h0 h' : hm_H) (r : Int32) (hf : fX5_clip t a1 a2 a3 a4 a5 h0 = some (r, h')) : hm_C l yX5_clip wsX5_clip { frames := 3, cells := 2, slots := 8, locals := 75 } D vwCl kA (hm_ty kA) [.ref t, .int a1, .int a2, .int a3, .int a4, .int a5] h0 (some (.int r)) h' 2 8 := by
  refine Met.ofW (cc := cX5_clip) (maxL := 7) (ret := (some .int)) (by decide) rfl ?_
  intro p e s m args below meth c s₁ B hml hv
  obtain ⟨hargs, hB⟩ := hv
  have hx := B.exec
  have hb := B.bytes
  have hr := B.returns
  have hts := atoms_spec (ws := wsX5_clip) B.pre
  have hown : s.vm.findClass RX5 = some m.cls := findClass_of_methodNamed B.named
  have hlocks := B.notSynchronized
  have hK := hB.2
  have hI := hm_start hB
  have w1 := hts (.fieldLink RX5 45 "BlitBoard$Surface" "whole" "LBlitBoard$Area;") (by decide +kernel)
  have w2 := hts (.classLink RX5 49 RX0) (by decide +kernel)
  have w3 := hts (.instantiable RX0 4) (by decide +kernel)
  have w4 := hts (.initialized RX0) (by decide +kernel)
  have w5 := hts (.methodLink RX5 51 yX0_init) (by decide +kernel)
  have w6 := hts (.instanceMethod yX0_init) (by decide +kernel)
  have w7 := hts (.fieldLink RX5 58 "BlitBoard$Surface" "clip" "LBlitBoard$Area;") (by decide +kernel)
  have hiX3 : ∀ w ∈ wsX30, w ∈ wsX5_clip := by decide +kernel
  have hiX0 : ∀ w ∈ wsX00, w ∈ wsX5_clip := by decide +kernel
  rw [show entryFrame m args 7 = entryFrame m ([.ref t, .int a1, .int a2, .int a3, .int a4, .int a5] : List Value).toArray 7 from by rw [hargs]]
  have hl := lv_entry ([.ref t, .int a1, .int a2, .int a3, .int a4, .int a5]) (n := 7) (Nat.le_of_ble_eq_true rfl)
  rw [lg_entry_eq]
  generalize (lg_sl ([.ref t, .int a1, .int a2, .int a3, .int a4, .int a5]) ++ List.replicate (7 - (lg_sl ([.ref t, .int a1, .int a2, .int a3, .int a4, .int a5])).length) Slot.unset).toArray = ls at hl ⊢
  have hl : lv_has ls 7 [(0, va_rf (some t)), (1, .int a1), (2, .int a2), (3, .int a3), (4, .int a4), (5, .int a5)] := hl
  unfold fX5_clip at hf
  refine hm_aload_n hx hb dX5_clip_0 rfl (lv_at hl 0 rfl) ?_
  refine lv_iload_n hx hb dX5_clip_1 rfl (lv_at hl 1 rfl) ?_
  obtain ⟨b2, eb2, hf⟩ := hm_b_s hf
  obtain ⟨v3, h1, eh1, hf⟩ := hm_b2_s hf
  refine hm_cV (As := [.int a1]) (rest := []) ⟨hx, hb, hml, hown, hts⟩ hK hI eb2 rfl rfl (kX5_surfaceAt l D kA b2 a1 h0 h1 v3 eh1) (cwV 1 hts gX5_clip_X5_surfaceAt rfl rfl rfl (by decide +kernel) ⟨Nat.le_of_ble_eq_true rfl, Nat.le_of_ble_eq_true rfl⟩) rfl hl.1 rfl (by first | exact Nat.le_of_ble_eq_true rfl | (simp only [List.map, hm_rf_cat, hm_ci, hm_cl, List.sum_cons, List.sum_nil] <;> decide)) dX5_clip_2 ⟨Nat.le_of_ble_eq_true rfl, Nat.le_of_ble_eq_true rfl⟩ (fun H locs hI => ?_)
  refine hm_astore (lv' := [(6, va_rf v3), (0, va_rf (some t)), (1, .int a1), (2, .int a2), (3, .int a3), (4, .int a4), (5, .int a5)]) hx hb dX5_clip_5 hl (by decide) rfl (fun ls hl => ?_)
  refine hm_aload hx hb dX5_clip_7 (lv_at hl 0 rfl) ?_
  refine hm_ifnull (tgt := 28) hx hb dX5_clip_9 (by decide) (fun c => ?_) (fun c => ?_)
  · rw [if_pos c] at hf
    refine lv_iconst (v := (-1 : Int32)) hx hb dX5_clip_28 (by decide) ?_
    exact hm_iret_e hf hx hb hr hlocks hK hI (Nat.le_of_ble_eq_true rfl) (Nat.le_of_ble_eq_true rfl) dX5_clip_29
  · rw [if_neg c] at hf
    refine lv_iload hx hb dX5_clip_12 (lv_at hl 5 rfl) ?_
    obtain ⟨v5, h4, eh4, hf⟩ := hm_b2_s hf
    refine hm_cS (As := [.int a4]) (rest := []) ⟨hx, hb, hml, hown, hts⟩ hK hI (kX5_isSide l D kA a4 h1 h4 v5 eh4) (va_cwS 1 hts gX5_clip_X5_isSide rfl rfl rfl (by decide +kernel) ⟨Nat.le_of_ble_eq_true rfl, Nat.le_of_ble_eq_true rfl⟩) rfl hl.1 rfl (by first | exact Nat.le_of_ble_eq_true rfl | (simp only [List.map, hm_rf_cat, hm_ci, hm_cl, List.sum_cons, List.sum_nil] <;> decide)) dX5_clip_14 ⟨Nat.le_of_ble_eq_true rfl, Nat.le_of_ble_eq_true rfl⟩ (fun H locs hI => ?_)
    refine lv_if_eq (tgt := 28) hx hb dX5_clip_17 (by decide) (fun c => ?_) (fun c => ?_)
    · rw [if_pos c] at hf
      refine lv_iconst (v := (-1 : Int32)) hx hb dX5_clip_28 (by decide) ?_
      exact hm_iret_e hf hx hb hr hlocks hK hI (Nat.le_of_ble_eq_true rfl) (Nat.le_of_ble_eq_true rfl) dX5_clip_29
    · rw [if_neg c] at hf
      refine lv_iload hx hb dX5_clip_20 (lv_at hl 6 rfl) ?_
      obtain ⟨v7, h6, eh6, hf⟩ := hm_b2_s hf
      refine hm_cS (As := [.int a5]) (rest := []) ⟨hx, hb, hml, hown, hts⟩ hK hI (kX5_isSide l D kA a5 h4 h6 v7 eh6) (va_cwS 1 hts gX5_clip_X5_isSide rfl rfl rfl (by decide +kernel) ⟨Nat.le_of_ble_eq_true rfl, Nat.le_of_ble_eq_true rfl⟩) rfl hl.1 rfl (by first | exact Nat.le_of_ble_eq_true rfl | (simp only [List.map, hm_rf_cat, hm_ci, hm_cl, List.sum_cons, List.sum_nil] <;> decide)) dX5_clip_22 ⟨Nat.le_of_ble_eq_true rfl, Nat.le_of_ble_eq_true rfl⟩ (fun H locs hI => ?_)
      refine lv_if_ne (tgt := 30) hx hb dX5_clip_25 (by decide) (fun c => ?_) (fun c => ?_)
      · rw [if_neg c] at hf
        refine hm_aload hx hb dX5_clip_30 (lv_at hl 0 rfl) ?_
        refine hm_aload hx hb dX5_clip_32 (lv_at hl 0 rfl) ?_
        obtain ⟨v8, ev8, hf⟩ := hm_b_s hf
        refine hm_get (ci := 3) (k := 2) (C := RX3) (T := TX3) (N := 5) hx hb hts hiX3 hown hK hI rfl (by decide) w1 (hm_gq_s ev8) dX5_clip_34 ?_
        obtain ⟨h9, eh9, hf⟩ := hm_let_s hf
        refine hm_new (ci := 0) (fs := [.long 0, .long 0, .int 0, .int 0]) (C := RX0) (T := TX0) (N := 4) hx hb hts hiX0 tyX0 tyX0_ok hown w2 w3 w4 hK hI rfl (fun j hj => by rcases (show j = 0 ∨ j = 1 ∨ j = 2 ∨ j = 3 by omega) with rfl | rfl | rfl | rfl <;> rfl) (Nat.le_of_ble_eq_true rfl) (Nat.le_of_ble_eq_true rfl) dX5_clip_37 (fun H hI => ?_)
        rw [← eh9] at hI
        refine W.cs (cells' := 1) (slots' := 4) rfl rfl ?_
        refine lv_dup hx hb dX5_clip_40 (hm_rf_cat _) ?_
        refine lv_iload_n hx hb dX5_clip_41 rfl (lv_at hl 3 rfl) ?_
        refine lv_i2l (v := (a2).toInt64) hx hb dX5_clip_42 rfl ?_
        refine lv_iload_n hx hb dX5_clip_43 rfl (lv_at hl 4 rfl) ?_
        refine lv_i2l (v := (a3).toInt64) hx hb dX5_clip_44 rfl ?_
        refine lv_iload hx hb dX5_clip_45 (lv_at hl 5 rfl) ?_
        refine lv_iload hx hb dX5_clip_47 (lv_at hl 6 rfl) ?_
        obtain ⟨h10, eh10, hf⟩ := hm_b_s hf
        refine hm_cI (As := [.long ((a2).toInt64), .long ((a3).toInt64), .int a4, .int a5]) (rest := [va_rf (some h6.2), va_rf v8, va_rf v3]) ⟨hx, hb, hml, hown, hts⟩ hK hI (kX0_init l D kA h6.2 ((a2).toInt64) ((a3).toInt64) a4 a5 h9 h10 eh10) (cwI 4 hts gX5_clip_X0_init rfl rfl rfl w4 w5 w6 rfl (by decide +kernel) ⟨Nat.le_of_ble_eq_true rfl, Nat.le_of_ble_eq_true rfl⟩) rfl hl.1 rfl (by first | exact Nat.le_of_ble_eq_true rfl | (simp only [List.map, hm_rf_cat, hm_ci, hm_cl, List.sum_cons, List.sum_nil] <;> decide)) dX5_clip_49 ⟨Nat.le_of_ble_eq_true rfl, Nat.le_of_ble_eq_true rfl⟩ (fun H locs hI => ?_)
        refine W.eq (g2 := F0 m 52 ls [va_rf (some h6.2), va_rf v8, va_rf v3]) rfl ?_
        obtain ⟨b12, eb12, hf⟩ := hm_b_s hf
        obtain ⟨v13, h11, eh11, hf⟩ := hm_b2_s hf
        refine hm_cV (As := [va_rf (some h6.2)]) (rest := [va_rf v3]) ⟨hx, hb, hml, hown, hts⟩ hK hI eb12 rfl rfl (kX0_shared l D kA b12 (some h6.2) h10 h11 v13 eh11) (cwV 1 hts gX5_clip_X0_shared rfl rfl rfl (by decide +kernel) ⟨Nat.le_of_ble_eq_true rfl, Nat.le_of_ble_eq_true rfl⟩) rfl hl.1 rfl (by first | exact Nat.le_of_ble_eq_true rfl | (simp only [List.map, hm_rf_cat, hm_ci, hm_cl, List.sum_cons, List.sum_nil] <;> decide)) dX5_clip_52 ⟨Nat.le_of_ble_eq_true rfl, Nat.le_of_ble_eq_true rfl⟩ (fun H locs hI => ?_)
        refine W.cs (cells' := 2) (slots' := 8) rfl rfl ?_
        obtain ⟨h14, eh14, hf⟩ := hm_b_s hf
        refine hm_put (ci := 3) (k := 4) (C := RX3) (T := TX3) (N := 5) hx hb hts hiX3 tyX3 tyX3_ok nmX3 hown hK hI rfl (by decide) w7 rfl eh14 hm_nqo hm_fqo dX5_clip_55 (fun H locs hI => ?_)
        refine hm_aload hx hb dX5_clip_58 (lv_at hl 0 rfl) ?_
        obtain ⟨v15, ev15, hf⟩ := hm_b_s hf
        refine hm_get (ci := 3) (k := 4) (C := RX3) (T := TX3) (N := 5) hx hb hts hiX3 hown hK hI rfl (by decide) w7 (hm_gq_s ev15) dX5_clip_60 ?_
        obtain ⟨b17, eb17, hf⟩ := hm_b_s hf
        obtain ⟨v18, h16, eh16, hf⟩ := hm_b2_s hf
        refine hm_cV (As := []) (rest := []) ⟨hx, hb, hml, hown, hts⟩ hK hI eb17 rfl rfl (kX0_size l D kA b17 h14 h16 v18 eh16) (cwV 0 hts gX5_clip_X0_size rfl rfl rfl (by decide +kernel) ⟨Nat.le_of_ble_eq_true rfl, Nat.le_of_ble_eq_true rfl⟩) rfl hl.1 rfl (by first | exact Nat.le_of_ble_eq_true rfl | (simp only [List.map, hm_rf_cat, hm_ci, hm_cl, List.sum_cons, List.sum_nil] <;> decide)) dX5_clip_63 ⟨Nat.le_of_ble_eq_true rfl, Nat.le_of_ble_eq_true rfl⟩ (fun H locs hI => ?_)
        exact hm_iret_e hf hx hb hr hlocks hK hI (Nat.le_of_ble_eq_true rfl) (Nat.le_of_ble_eq_true rfl) dX5_clip_66
      · rw [if_pos c] at hf
        refine lv_iconst (v := (-1 : Int32)) hx hb dX5_clip_28 (by decide) ?_
        exact hm_iret_e hf hx hb hr hlocks hK hI (Nat.le_of_ble_eq_true rfl) (Nat.le_of_ble_eq_true rfl) dX5_clip_29
/-! ==== X5_set: BlitBoard.set(IIII)I ==== -/
def fX5_set (t : Nat) (a1 : Int32) (a2 : Int32) (a3 : Int32) (a4 : Int32) (h0 : hm_H) : Option (Int32 × hm_H) :=
  hm_b (hm_rc 5 h0 (some t)) fun b2 =>
  hm_b2 (fX5_surfaceAt b2 a1 h0) fun v3 h1 =>
  if v3 = none then
    some ((0 : Int32), h1)
  else
    hm_b (hm_gq 3 2 h1 v3) fun v4 =>
    hm_b (hm_rc 0 h1 v4) fun b6 =>
    hm_b2 (fX0_holds b6 ((a2).toInt64) ((a3).toInt64) h1) fun v7 h5 =>
    if v7 = 0 then
      some ((0 : Int32), h5)
    else
      hm_b (hm_rc 3 h5 v3) fun b9 =>
      hm_b2 (fX3_fits b9 a4 h5) fun v10 h8 =>
      if v10 = 0 then
        some ((0 : Int32), h8)
      else
        hm_b (hm_gq 3 3 h8 v3) fun v11 =>
        hm_b (hm_rc 3 h8 v3) fun b13 =>
        hm_b2 (fX3_indexOf b13 ((a2).toInt64) ((a3).toInt64) h8) fun v14 h12 =>
        hm_b (hm_si 0 h12 v11 v14 a4) fun h15 =>
        some ((1 : Int32), h15)
set_option maxRecDepth 100000 in
set_option maxHeartbeats 8000000 in
theorem kX5_set (l : Launch) (D : va_G) (kA : Nat → ClassId) (t : Nat) (a1 : Int32) (a2 : Int32) (a3 : Int32) (a4 : Int32) (h0 h' : hm_H) (r : Int32) (hf : fX5_set t a1 a2 a3 a4 h0 = some (r, h')) : hm_C l yX5_set wsX5_set { frames := 1, cells := 0, slots := 0, locals := 24 } D vwCl kA (hm_ty kA) [.ref t, .int a1, .int a2, .int a3, .int a4] h0 (some (.int r)) h' 0 0 := by
  refine Met.ofW (cc := cX5_set) (maxL := 6) (ret := (some .int)) (by decide) rfl ?_
  intro p e s m args below meth c s₁ B hml hv
  obtain ⟨hargs, hB⟩ := hv
  have hx := B.exec
  have hb := B.bytes
  have hr := B.returns
  have hts := atoms_spec (ws := wsX5_set) B.pre
  have hown : s.vm.findClass RX5 = some m.cls := findClass_of_methodNamed B.named
  have hlocks := B.notSynchronized
  have hK := hB.2
  have hI := hm_start hB
  have w1 := hts (.fieldLink RX5 45 "BlitBoard$Surface" "whole" "LBlitBoard$Area;") (by decide +kernel)
  have w2 := hts (.fieldLink RX5 72 "BlitBoard$Surface" "dots" "[I") (by decide +kernel)
  have hiX3 : ∀ w ∈ wsX30, w ∈ wsX5_set := by decide +kernel
  rw [show entryFrame m args 6 = entryFrame m ([.ref t, .int a1, .int a2, .int a3, .int a4] : List Value).toArray 6 from by rw [hargs]]
  have hl := lv_entry ([.ref t, .int a1, .int a2, .int a3, .int a4]) (n := 6) (Nat.le_of_ble_eq_true rfl)
  rw [lg_entry_eq]
  generalize (lg_sl ([.ref t, .int a1, .int a2, .int a3, .int a4]) ++ List.replicate (6 - (lg_sl ([.ref t, .int a1, .int a2, .int a3, .int a4])).length) Slot.unset).toArray = ls at hl ⊢
  have hl : lv_has ls 6 [(0, va_rf (some t)), (1, .int a1), (2, .int a2), (3, .int a3), (4, .int a4)] := hl
  unfold fX5_set at hf
  refine hm_aload_n hx hb dX5_set_0 rfl (lv_at hl 0 rfl) ?_
  refine lv_iload_n hx hb dX5_set_1 rfl (lv_at hl 1 rfl) ?_
  obtain ⟨b2, eb2, hf⟩ := hm_b_s hf
  obtain ⟨v3, h1, eh1, hf⟩ := hm_b2_s hf
  refine hm_cV (As := [.int a1]) (rest := []) ⟨hx, hb, hml, hown, hts⟩ hK hI eb2 rfl rfl (kX5_surfaceAt l D kA b2 a1 h0 h1 v3 eh1) (cwV 1 hts gX5_set_X5_surfaceAt rfl rfl rfl (by decide +kernel) ⟨Nat.le_of_ble_eq_true rfl, Nat.le_of_ble_eq_true rfl⟩) rfl hl.1 rfl (by first | exact Nat.le_of_ble_eq_true rfl | (simp only [List.map, hm_rf_cat, hm_ci, hm_cl, List.sum_cons, List.sum_nil] <;> decide)) dX5_set_2 ⟨Nat.le_of_ble_eq_true rfl, Nat.le_of_ble_eq_true rfl⟩ (fun H locs hI => ?_)
  refine hm_astore (lv' := [(5, va_rf v3), (0, va_rf (some t)), (1, .int a1), (2, .int a2), (3, .int a3), (4, .int a4)]) hx hb dX5_set_5 hl (by decide) rfl (fun ls hl => ?_)
  refine hm_aload hx hb dX5_set_7 (lv_at hl 0 rfl) ?_
  refine hm_ifnull (tgt := 37) hx hb dX5_set_9 (by decide) (fun c => ?_) (fun c => ?_)
  · rw [if_pos c] at hf
    refine lv_iconst (v := (0 : Int32)) hx hb dX5_set_37 (by decide) ?_
    exact hm_iret_e hf hx hb hr hlocks hK hI (Nat.le_of_ble_eq_true rfl) (Nat.le_of_ble_eq_true rfl) dX5_set_38
  · rw [if_neg c] at hf
    refine hm_aload hx hb dX5_set_12 (lv_at hl 0 rfl) ?_
    obtain ⟨v4, ev4, hf⟩ := hm_b_s hf
    refine hm_get (ci := 3) (k := 2) (C := RX3) (T := TX3) (N := 5) hx hb hts hiX3 hown hK hI rfl (by decide) w1 (hm_gq_s ev4) dX5_set_14 ?_
    refine lv_iload_n hx hb dX5_set_17 rfl (lv_at hl 3 rfl) ?_
    refine lv_i2l (v := (a2).toInt64) hx hb dX5_set_18 rfl ?_
    refine lv_iload_n hx hb dX5_set_19 rfl (lv_at hl 4 rfl) ?_
    refine lv_i2l (v := (a3).toInt64) hx hb dX5_set_20 rfl ?_
    obtain ⟨b6, eb6, hf⟩ := hm_b_s hf
    obtain ⟨v7, h5, eh5, hf⟩ := hm_b2_s hf
    refine hm_cV (As := [.long ((a2).toInt64), .long ((a3).toInt64)]) (rest := []) ⟨hx, hb, hml, hown, hts⟩ hK hI eb6 rfl rfl (kX0_holds l D kA b6 ((a2).toInt64) ((a3).toInt64) h1 h5 v7 eh5) (cwV 2 hts gX5_set_X0_holds rfl rfl rfl (by decide +kernel) ⟨Nat.le_of_ble_eq_true rfl, Nat.le_of_ble_eq_true rfl⟩) rfl hl.1 rfl (by first | exact Nat.le_of_ble_eq_true rfl | (simp only [List.map, hm_rf_cat, hm_ci, hm_cl, List.sum_cons, List.sum_nil] <;> decide)) dX5_set_21 ⟨Nat.le_of_ble_eq_true rfl, Nat.le_of_ble_eq_true rfl⟩ (fun H locs hI => ?_)
    refine lv_if_eq (tgt := 37) hx hb dX5_set_24 (by decide) (fun c => ?_) (fun c => ?_)
    · rw [if_pos c] at hf
      refine lv_iconst (v := (0 : Int32)) hx hb dX5_set_37 (by decide) ?_
      exact hm_iret_e hf hx hb hr hlocks hK hI (Nat.le_of_ble_eq_true rfl) (Nat.le_of_ble_eq_true rfl) dX5_set_38
    · rw [if_neg c] at hf
      refine hm_aload hx hb dX5_set_27 (lv_at hl 0 rfl) ?_
      refine lv_iload hx hb dX5_set_29 (lv_at hl 5 rfl) ?_
      obtain ⟨b9, eb9, hf⟩ := hm_b_s hf
      obtain ⟨v10, h8, eh8, hf⟩ := hm_b2_s hf
      refine hm_cV (As := [.int a4]) (rest := []) ⟨hx, hb, hml, hown, hts⟩ hK hI eb9 rfl rfl (kX3_fits l D kA b9 a4 h5 h8 v10 eh8) (cwV 1 hts gX5_set_X3_fits rfl rfl rfl (by decide +kernel) ⟨Nat.le_of_ble_eq_true rfl, Nat.le_of_ble_eq_true rfl⟩) rfl hl.1 rfl (by first | exact Nat.le_of_ble_eq_true rfl | (simp only [List.map, hm_rf_cat, hm_ci, hm_cl, List.sum_cons, List.sum_nil] <;> decide)) dX5_set_31 ⟨Nat.le_of_ble_eq_true rfl, Nat.le_of_ble_eq_true rfl⟩ (fun H locs hI => ?_)
      refine lv_if_ne (tgt := 39) hx hb dX5_set_34 (by decide) (fun c => ?_) (fun c => ?_)
      · rw [if_neg c] at hf
        refine hm_aload hx hb dX5_set_39 (lv_at hl 0 rfl) ?_
        obtain ⟨v11, ev11, hf⟩ := hm_b_s hf
        refine hm_get (ci := 3) (k := 3) (C := RX3) (T := TX3) (N := 5) hx hb hts hiX3 hown hK hI rfl (by decide) w2 (hm_gq_s ev11) dX5_set_41 ?_
        refine hm_aload hx hb dX5_set_44 (lv_at hl 0 rfl) ?_
        refine lv_iload_n hx hb dX5_set_46 rfl (lv_at hl 3 rfl) ?_
        refine lv_i2l (v := (a2).toInt64) hx hb dX5_set_47 rfl ?_
        refine lv_iload_n hx hb dX5_set_48 rfl (lv_at hl 4 rfl) ?_
        refine lv_i2l (v := (a3).toInt64) hx hb dX5_set_49 rfl ?_
        obtain ⟨b13, eb13, hf⟩ := hm_b_s hf
        obtain ⟨v14, h12, eh12, hf⟩ := hm_b2_s hf
        refine hm_cV (As := [.long ((a2).toInt64), .long ((a3).toInt64)]) (rest := [va_rf v11]) ⟨hx, hb, hml, hown, hts⟩ hK hI eb13 rfl rfl (kX3_indexOf l D kA b13 ((a2).toInt64) ((a3).toInt64) h8 h12 v14 eh12) (cwV 2 hts gX5_set_X3_indexOf rfl rfl rfl (by decide +kernel) ⟨Nat.le_of_ble_eq_true rfl, Nat.le_of_ble_eq_true rfl⟩) rfl hl.1 rfl (by first | exact Nat.le_of_ble_eq_true rfl | (simp only [List.map, hm_rf_cat, hm_ci, hm_cl, List.sum_cons, List.sum_nil] <;> decide)) dX5_set_50 ⟨Nat.le_of_ble_eq_true rfl, Nat.le_of_ble_eq_true rfl⟩ (fun H locs hI => ?_)
        refine lv_iload hx hb dX5_set_53 (lv_at hl 5 rfl) ?_
        obtain ⟨h15, eh15, hf⟩ := hm_b_s hf
        refine hm_iast (kd := 0) (t0 := 0) hx hb hK hI rfl eh15 dX5_set_55 (fun H locs hI => ?_)
        refine lv_iconst (v := (1 : Int32)) hx hb dX5_set_56 (by decide) ?_
        exact hm_iret_e hf hx hb hr hlocks hK hI (Nat.le_of_ble_eq_true rfl) (Nat.le_of_ble_eq_true rfl) dX5_set_57
      · rw [if_pos c] at hf
        refine lv_iconst (v := (0 : Int32)) hx hb dX5_set_37 (by decide) ?_
        exact hm_iret_e hf hx hb hr hlocks hK hI (Nat.le_of_ble_eq_true rfl) (Nat.le_of_ble_eq_true rfl) dX5_set_38
/-! ==== X5_get: BlitBoard.get(III)I ==== -/
def fX5_get (t : Nat) (a1 : Int32) (a2 : Int32) (a3 : Int32) (h0 : hm_H) : Option (Int32 × hm_H) :=
  hm_b (hm_rc 5 h0 (some t)) fun b2 =>
  hm_b2 (fX5_surfaceAt b2 a1 h0) fun v3 h1 =>
  if v3 = none then
    some ((-1 : Int32), h1)
  else
    hm_b (hm_gq 3 2 h1 v3) fun v4 =>
    hm_b (hm_rc 0 h1 v4) fun b6 =>
    hm_b2 (fX0_holds b6 ((a2).toInt64) ((a3).toInt64) h1) fun v7 h5 =>
    if v7 = 0 then
      some ((-1 : Int32), h5)
    else
      hm_b (hm_gq 3 3 h5 v3) fun v8 =>
      hm_b (hm_rc 3 h5 v3) fun b10 =>
      hm_b2 (fX3_indexOf b10 ((a2).toInt64) ((a3).toInt64) h5) fun v11 h9 =>
      hm_b (hm_ai 0 h9 v8 v11) fun v12 =>
      some (v12, h9)
set_option maxRecDepth 100000 in
set_option maxHeartbeats 8000000 in
theorem kX5_get (l : Launch) (D : va_G) (kA : Nat → ClassId) (t : Nat) (a1 : Int32) (a2 : Int32) (a3 : Int32) (h0 h' : hm_H) (r : Int32) (hf : fX5_get t a1 a2 a3 h0 = some (r, h')) : hm_C l yX5_get wsX5_get { frames := 1, cells := 0, slots := 0, locals := 24 } D vwCl kA (hm_ty kA) [.ref t, .int a1, .int a2, .int a3] h0 (some (.int r)) h' 0 0 := by
  refine Met.ofW (cc := cX5_get) (maxL := 5) (ret := (some .int)) (by decide) rfl ?_
  intro p e s m args below meth c s₁ B hml hv
  obtain ⟨hargs, hB⟩ := hv
  have hx := B.exec
  have hb := B.bytes
  have hr := B.returns
  have hts := atoms_spec (ws := wsX5_get) B.pre
  have hown : s.vm.findClass RX5 = some m.cls := findClass_of_methodNamed B.named
  have hlocks := B.notSynchronized
  have hK := hB.2
  have hI := hm_start hB
  have w1 := hts (.fieldLink RX5 45 "BlitBoard$Surface" "whole" "LBlitBoard$Area;") (by decide +kernel)
  have w2 := hts (.fieldLink RX5 72 "BlitBoard$Surface" "dots" "[I") (by decide +kernel)
  have hiX3 : ∀ w ∈ wsX30, w ∈ wsX5_get := by decide +kernel
  rw [show entryFrame m args 5 = entryFrame m ([.ref t, .int a1, .int a2, .int a3] : List Value).toArray 5 from by rw [hargs]]
  have hl := lv_entry ([.ref t, .int a1, .int a2, .int a3]) (n := 5) (Nat.le_of_ble_eq_true rfl)
  rw [lg_entry_eq]
  generalize (lg_sl ([.ref t, .int a1, .int a2, .int a3]) ++ List.replicate (5 - (lg_sl ([.ref t, .int a1, .int a2, .int a3])).length) Slot.unset).toArray = ls at hl ⊢
  have hl : lv_has ls 5 [(0, va_rf (some t)), (1, .int a1), (2, .int a2), (3, .int a3)] := hl
  unfold fX5_get at hf
  refine hm_aload_n hx hb dX5_get_0 rfl (lv_at hl 0 rfl) ?_
  refine lv_iload_n hx hb dX5_get_1 rfl (lv_at hl 1 rfl) ?_
  obtain ⟨b2, eb2, hf⟩ := hm_b_s hf
  obtain ⟨v3, h1, eh1, hf⟩ := hm_b2_s hf
  refine hm_cV (As := [.int a1]) (rest := []) ⟨hx, hb, hml, hown, hts⟩ hK hI eb2 rfl rfl (kX5_surfaceAt l D kA b2 a1 h0 h1 v3 eh1) (cwV 1 hts gX5_get_X5_surfaceAt rfl rfl rfl (by decide +kernel) ⟨Nat.le_of_ble_eq_true rfl, Nat.le_of_ble_eq_true rfl⟩) rfl hl.1 rfl (by first | exact Nat.le_of_ble_eq_true rfl | (simp only [List.map, hm_rf_cat, hm_ci, hm_cl, List.sum_cons, List.sum_nil] <;> decide)) dX5_get_2 ⟨Nat.le_of_ble_eq_true rfl, Nat.le_of_ble_eq_true rfl⟩ (fun H locs hI => ?_)
  refine hm_astore (lv' := [(4, va_rf v3), (0, va_rf (some t)), (1, .int a1), (2, .int a2), (3, .int a3)]) hx hb dX5_get_5 hl (by decide) rfl (fun ls hl => ?_)
  refine hm_aload hx hb dX5_get_7 (lv_at hl 0 rfl) ?_
  refine hm_ifnull (tgt := 27) hx hb dX5_get_9 (by decide) (fun c => ?_) (fun c => ?_)
  · rw [if_pos c] at hf
    refine lv_iconst (v := (-1 : Int32)) hx hb dX5_get_27 (by decide) ?_
    exact hm_iret_e hf hx hb hr hlocks hK hI (Nat.le_of_ble_eq_true rfl) (Nat.le_of_ble_eq_true rfl) dX5_get_28
  · rw [if_neg c] at hf
    refine hm_aload hx hb dX5_get_12 (lv_at hl 0 rfl) ?_
    obtain ⟨v4, ev4, hf⟩ := hm_b_s hf
    refine hm_get (ci := 3) (k := 2) (C := RX3) (T := TX3) (N := 5) hx hb hts hiX3 hown hK hI rfl (by decide) w1 (hm_gq_s ev4) dX5_get_14 ?_
    refine lv_iload_n hx hb dX5_get_17 rfl (lv_at hl 3 rfl) ?_
    refine lv_i2l (v := (a2).toInt64) hx hb dX5_get_18 rfl ?_
    refine lv_iload_n hx hb dX5_get_19 rfl (lv_at hl 4 rfl) ?_
    refine lv_i2l (v := (a3).toInt64) hx hb dX5_get_20 rfl ?_
    obtain ⟨b6, eb6, hf⟩ := hm_b_s hf
    obtain ⟨v7, h5, eh5, hf⟩ := hm_b2_s hf
    refine hm_cV (As := [.long ((a2).toInt64), .long ((a3).toInt64)]) (rest := []) ⟨hx, hb, hml, hown, hts⟩ hK hI eb6 rfl rfl (kX0_holds l D kA b6 ((a2).toInt64) ((a3).toInt64) h1 h5 v7 eh5) (cwV 2 hts gX5_get_X0_holds rfl rfl rfl (by decide +kernel) ⟨Nat.le_of_ble_eq_true rfl, Nat.le_of_ble_eq_true rfl⟩) rfl hl.1 rfl (by first | exact Nat.le_of_ble_eq_true rfl | (simp only [List.map, hm_rf_cat, hm_ci, hm_cl, List.sum_cons, List.sum_nil] <;> decide)) dX5_get_21 ⟨Nat.le_of_ble_eq_true rfl, Nat.le_of_ble_eq_true rfl⟩ (fun H locs hI => ?_)
    refine lv_if_ne (tgt := 29) hx hb dX5_get_24 (by decide) (fun c => ?_) (fun c => ?_)
    · rw [if_neg c] at hf
      refine hm_aload hx hb dX5_get_29 (lv_at hl 0 rfl) ?_
      obtain ⟨v8, ev8, hf⟩ := hm_b_s hf
      refine hm_get (ci := 3) (k := 3) (C := RX3) (T := TX3) (N := 5) hx hb hts hiX3 hown hK hI rfl (by decide) w2 (hm_gq_s ev8) dX5_get_31 ?_
      refine hm_aload hx hb dX5_get_34 (lv_at hl 0 rfl) ?_
      refine lv_iload_n hx hb dX5_get_36 rfl (lv_at hl 3 rfl) ?_
      refine lv_i2l (v := (a2).toInt64) hx hb dX5_get_37 rfl ?_
      refine lv_iload_n hx hb dX5_get_38 rfl (lv_at hl 4 rfl) ?_
      refine lv_i2l (v := (a3).toInt64) hx hb dX5_get_39 rfl ?_
      obtain ⟨b10, eb10, hf⟩ := hm_b_s hf
      obtain ⟨v11, h9, eh9, hf⟩ := hm_b2_s hf
      refine hm_cV (As := [.long ((a2).toInt64), .long ((a3).toInt64)]) (rest := [va_rf v8]) ⟨hx, hb, hml, hown, hts⟩ hK hI eb10 rfl rfl (kX3_indexOf l D kA b10 ((a2).toInt64) ((a3).toInt64) h5 h9 v11 eh9) (cwV 2 hts gX5_get_X3_indexOf rfl rfl rfl (by decide +kernel) ⟨Nat.le_of_ble_eq_true rfl, Nat.le_of_ble_eq_true rfl⟩) rfl hl.1 rfl (by first | exact Nat.le_of_ble_eq_true rfl | (simp only [List.map, hm_rf_cat, hm_ci, hm_cl, List.sum_cons, List.sum_nil] <;> decide)) dX5_get_40 ⟨Nat.le_of_ble_eq_true rfl, Nat.le_of_ble_eq_true rfl⟩ (fun H locs hI => ?_)
      obtain ⟨v12, ev12, hf⟩ := hm_b_s hf
      refine hm_iald (kd := 0) (t0 := 0) hx hb hK hI rfl ev12 dX5_get_43 ?_
      exact hm_iret_e hf hx hb hr hlocks hK hI (Nat.le_of_ble_eq_true rfl) (Nat.le_of_ble_eq_true rfl) dX5_get_44
    · rw [if_pos c] at hf
      refine lv_iconst (v := (-1 : Int32)) hx hb dX5_get_27 (by decide) ?_
      exact hm_iret_e hf hx hb hr hlocks hK hI (Nat.le_of_ble_eq_true rfl) (Nat.le_of_ble_eq_true rfl) dX5_get_28
/-! ==== X5_told: BlitBoard.told(II)I ==== -/
def fX5_told (t : Nat) (a1 : Int32) (a2 : Int32) (h0 : hm_H) : Option (Int32 × hm_H) :=
  hm_b (hm_rc 5 h0 (some t)) fun b2 =>
  hm_b2 (fX5_surfaceAt b2 a1 h0) fun v3 h1 =>
  if v3 = none then
    some ((-1 : Int32), h1)
  else
    if a2 = (0 : Int32) then
      hm_b (hm_gi 3 0 h1 v3) fun v4 =>
      some (v4, h1)
    else
      if a2 = (1 : Int32) then
        hm_b (hm_gq 3 2 h1 v3) fun v5 =>
        hm_b (hm_gi 0 2 h1 v5) fun v6 =>
        some (v6, h1)
      else
        if a2 = (2 : Int32) then
          hm_b (hm_gq 3 2 h1 v3) fun v7 =>
          hm_b (hm_gi 0 3 h1 v7) fun v8 =>
          some (v8, h1)
        else
          if a2 = (3 : Int32) then
            hm_b (hm_gq 3 4 h1 v3) fun v9 =>
            hm_b (hm_gl 0 0 h1 v9) fun v10 =>
            some ((v10).toInt32, h1)
          else
            if a2 = (4 : Int32) then
              hm_b (hm_gq 3 4 h1 v3) fun v11 =>
              hm_b (hm_gl 0 1 h1 v11) fun v12 =>
              some ((v12).toInt32, h1)
            else
              if a2 = (5 : Int32) then
                hm_b (hm_gq 3 4 h1 v3) fun v13 =>
                hm_b (hm_gi 0 2 h1 v13) fun v14 =>
                some (v14, h1)
              else
                if a2 = (6 : Int32) then
                  hm_b (hm_gq 3 4 h1 v3) fun v15 =>
                  hm_b (hm_gi 0 3 h1 v15) fun v16 =>
                  some (v16, h1)
                else
                  some ((-1 : Int32), h1)
set_option maxRecDepth 100000 in
set_option maxHeartbeats 8000000 in
theorem kX5_told (l : Launch) (D : va_G) (kA : Nat → ClassId) (t : Nat) (a1 : Int32) (a2 : Int32) (h0 h' : hm_H) (r : Int32) (hf : fX5_told t a1 a2 h0 = some (r, h')) : hm_C l yX5_told wsX5_told { frames := 1, cells := 0, slots := 0, locals := 21 } D vwCl kA (hm_ty kA) [.ref t, .int a1, .int a2] h0 (some (.int r)) h' 0 0 := by
  refine Met.ofW (cc := cX5_told) (maxL := 4) (ret := (some .int)) (by decide) rfl ?_
  intro p e s m args below meth c s₁ B hml hv
  obtain ⟨hargs, hB⟩ := hv
  have hx := B.exec
  have hb := B.bytes
  have hr := B.returns
  have hts := atoms_spec (ws := wsX5_told) B.pre
  have hown : s.vm.findClass RX5 = some m.cls := findClass_of_methodNamed B.named
  have hlocks := B.notSynchronized
  have hK := hB.2
  have hI := hm_start hB
  have w1 := hts (.fieldLink RX5 79 "BlitBoard$Surface" "depth" "I") (by decide +kernel)
  have w2 := hts (.fieldLink RX5 45 "BlitBoard$Surface" "whole" "LBlitBoard$Area;") (by decide +kernel)
  have w3 := hts (.fieldLink RX5 82 "BlitBoard$Area" "wide" "I") (by decide +kernel)
  have w4 := hts (.fieldLink RX5 85 "BlitBoard$Area" "high" "I") (by decide +kernel)
  have w5 := hts (.fieldLink RX5 58 "BlitBoard$Surface" "clip" "LBlitBoard$Area;") (by decide +kernel)
  have w6 := hts (.fieldLink RX5 88 "BlitBoard$Area" "left" "J") (by decide +kernel)
  have w7 := hts (.fieldLink RX5 92 "BlitBoard$Area" "top" "J") (by decide +kernel)
  have hiX3 : ∀ w ∈ wsX30, w ∈ wsX5_told := by decide +kernel
  have hiX0 : ∀ w ∈ wsX00, w ∈ wsX5_told := by decide +kernel
  rw [show entryFrame m args 4 = entryFrame m ([.ref t, .int a1, .int a2] : List Value).toArray 4 from by rw [hargs]]
  have hl := lv_entry ([.ref t, .int a1, .int a2]) (n := 4) (Nat.le_of_ble_eq_true rfl)
  rw [lg_entry_eq]
  generalize (lg_sl ([.ref t, .int a1, .int a2]) ++ List.replicate (4 - (lg_sl ([.ref t, .int a1, .int a2])).length) Slot.unset).toArray = ls at hl ⊢
  have hl : lv_has ls 4 [(0, va_rf (some t)), (1, .int a1), (2, .int a2)] := hl
  unfold fX5_told at hf
  refine hm_aload_n hx hb dX5_told_0 rfl (lv_at hl 0 rfl) ?_
  refine lv_iload_n hx hb dX5_told_1 rfl (lv_at hl 1 rfl) ?_
  obtain ⟨b2, eb2, hf⟩ := hm_b_s hf
  obtain ⟨v3, h1, eh1, hf⟩ := hm_b2_s hf
  refine hm_cV (As := [.int a1]) (rest := []) ⟨hx, hb, hml, hown, hts⟩ hK hI eb2 rfl rfl (kX5_surfaceAt l D kA b2 a1 h0 h1 v3 eh1) (cwV 1 hts gX5_told_X5_surfaceAt rfl rfl rfl (by decide +kernel) ⟨Nat.le_of_ble_eq_true rfl, Nat.le_of_ble_eq_true rfl⟩) rfl hl.1 rfl (by first | exact Nat.le_of_ble_eq_true rfl | (simp only [List.map, hm_rf_cat, hm_ci, hm_cl, List.sum_cons, List.sum_nil] <;> decide)) dX5_told_2 ⟨Nat.le_of_ble_eq_true rfl, Nat.le_of_ble_eq_true rfl⟩ (fun H locs hI => ?_)
  refine hm_astore_n (lv' := [(3, va_rf v3), (0, va_rf (some t)), (1, .int a1), (2, .int a2)]) hx hb dX5_told_5 rfl hl (by decide) rfl (fun ls hl => ?_)
  refine hm_aload_n hx hb dX5_told_6 rfl (lv_at hl 0 rfl) ?_
  refine hm_ifnonnull (tgt := 12) hx hb dX5_told_7 (by decide) (fun c => ?_) (fun c => ?_)
  · rw [if_neg c] at hf
    refine lv_iload_n hx hb dX5_told_12 rfl (lv_at hl 3 rfl) ?_
    by_cases q0 : a2 = (0 : Int32)
    · rw [if_pos q0] at hf
      refine lv_tableIn (off := 43) (tgt := 56) hx hb dX5_told_13 (by rw [q0]; decide) (by rw [q0]; decide) (by rw [q0]; rfl) (by decide) ?_
      refine hm_aload_n hx hb dX5_told_56 rfl (lv_at hl 0 rfl) ?_
      obtain ⟨v4, ev4, hf⟩ := hm_b_s hf
      refine hm_get (ci := 3) (k := 0) (C := RX3) (T := TX3) (N := 5) hx hb hts hiX3 hown hK hI rfl (by decide) w1 (hm_gi_s ev4) dX5_told_57 ?_
      exact hm_iret_e hf hx hb hr hlocks hK hI (Nat.le_of_ble_eq_true rfl) (Nat.le_of_ble_eq_true rfl) dX5_told_60
    · rw [if_neg q0] at hf
      by_cases q1 : a2 = (1 : Int32)
      · rw [if_pos q1] at hf
        refine lv_tableIn (off := 48) (tgt := 61) hx hb dX5_told_13 (by rw [q1]; decide) (by rw [q1]; decide) (by rw [q1]; rfl) (by decide) ?_
        refine hm_aload_n hx hb dX5_told_61 rfl (lv_at hl 0 rfl) ?_
        obtain ⟨v5, ev5, hf⟩ := hm_b_s hf
        refine hm_get (ci := 3) (k := 2) (C := RX3) (T := TX3) (N := 5) hx hb hts hiX3 hown hK hI rfl (by decide) w2 (hm_gq_s ev5) dX5_told_62 ?_
        obtain ⟨v6, ev6, hf⟩ := hm_b_s hf
        refine hm_get (ci := 0) (k := 2) (C := RX0) (T := TX0) (N := 4) hx hb hts hiX0 hown hK hI rfl (by decide) w3 (hm_gi_s ev6) dX5_told_65 ?_
        exact hm_iret_e hf hx hb hr hlocks hK hI (Nat.le_of_ble_eq_true rfl) (Nat.le_of_ble_eq_true rfl) dX5_told_68
      · rw [if_neg q1] at hf
        by_cases q2 : a2 = (2 : Int32)
        · rw [if_pos q2] at hf
          refine lv_tableIn (off := 56) (tgt := 69) hx hb dX5_told_13 (by rw [q2]; decide) (by rw [q2]; decide) (by rw [q2]; rfl) (by decide) ?_
          refine hm_aload_n hx hb dX5_told_69 rfl (lv_at hl 0 rfl) ?_
          obtain ⟨v7, ev7, hf⟩ := hm_b_s hf
          refine hm_get (ci := 3) (k := 2) (C := RX3) (T := TX3) (N := 5) hx hb hts hiX3 hown hK hI rfl (by decide) w2 (hm_gq_s ev7) dX5_told_70 ?_
          obtain ⟨v8, ev8, hf⟩ := hm_b_s hf
          refine hm_get (ci := 0) (k := 3) (C := RX0) (T := TX0) (N := 4) hx hb hts hiX0 hown hK hI rfl (by decide) w4 (hm_gi_s ev8) dX5_told_73 ?_
          exact hm_iret_e hf hx hb hr hlocks hK hI (Nat.le_of_ble_eq_true rfl) (Nat.le_of_ble_eq_true rfl) dX5_told_76
        · rw [if_neg q2] at hf
          by_cases q3 : a2 = (3 : Int32)
          · rw [if_pos q3] at hf
            refine lv_tableIn (off := 64) (tgt := 77) hx hb dX5_told_13 (by rw [q3]; decide) (by rw [q3]; decide) (by rw [q3]; rfl) (by decide) ?_
            refine hm_aload_n hx hb dX5_told_77 rfl (lv_at hl 0 rfl) ?_
            obtain ⟨v9, ev9, hf⟩ := hm_b_s hf
            refine hm_get (ci := 3) (k := 4) (C := RX3) (T := TX3) (N := 5) hx hb hts hiX3 hown hK hI rfl (by decide) w5 (hm_gq_s ev9) dX5_told_78 ?_
            obtain ⟨v10, ev10, hf⟩ := hm_b_s hf
            refine hm_get (ci := 0) (k := 0) (C := RX0) (T := TX0) (N := 4) hx hb hts hiX0 hown hK hI rfl (by decide) w6 (hm_gl_s ev10) dX5_told_81 ?_
            refine lv_l2i (v := (v10).toInt32) hx hb dX5_told_84 rfl ?_
            exact hm_iret_e hf hx hb hr hlocks hK hI (Nat.le_of_ble_eq_true rfl) (Nat.le_of_ble_eq_true rfl) dX5_told_85
          · rw [if_neg q3] at hf
            by_cases q4 : a2 = (4 : Int32)
            · rw [if_pos q4] at hf
              refine lv_tableIn (off := 73) (tgt := 86) hx hb dX5_told_13 (by rw [q4]; decide) (by rw [q4]; decide) (by rw [q4]; rfl) (by decide) ?_
              refine hm_aload_n hx hb dX5_told_86 rfl (lv_at hl 0 rfl) ?_
              obtain ⟨v11, ev11, hf⟩ := hm_b_s hf
              refine hm_get (ci := 3) (k := 4) (C := RX3) (T := TX3) (N := 5) hx hb hts hiX3 hown hK hI rfl (by decide) w5 (hm_gq_s ev11) dX5_told_87 ?_
              obtain ⟨v12, ev12, hf⟩ := hm_b_s hf
              refine hm_get (ci := 0) (k := 1) (C := RX0) (T := TX0) (N := 4) hx hb hts hiX0 hown hK hI rfl (by decide) w7 (hm_gl_s ev12) dX5_told_90 ?_
              refine lv_l2i (v := (v12).toInt32) hx hb dX5_told_93 rfl ?_
              exact hm_iret_e hf hx hb hr hlocks hK hI (Nat.le_of_ble_eq_true rfl) (Nat.le_of_ble_eq_true rfl) dX5_told_94
            · rw [if_neg q4] at hf
              by_cases q5 : a2 = (5 : Int32)
              · rw [if_pos q5] at hf
                refine lv_tableIn (off := 82) (tgt := 95) hx hb dX5_told_13 (by rw [q5]; decide) (by rw [q5]; decide) (by rw [q5]; rfl) (by decide) ?_
                refine hm_aload_n hx hb dX5_told_95 rfl (lv_at hl 0 rfl) ?_
                obtain ⟨v13, ev13, hf⟩ := hm_b_s hf
                refine hm_get (ci := 3) (k := 4) (C := RX3) (T := TX3) (N := 5) hx hb hts hiX3 hown hK hI rfl (by decide) w5 (hm_gq_s ev13) dX5_told_96 ?_
                obtain ⟨v14, ev14, hf⟩ := hm_b_s hf
                refine hm_get (ci := 0) (k := 2) (C := RX0) (T := TX0) (N := 4) hx hb hts hiX0 hown hK hI rfl (by decide) w3 (hm_gi_s ev14) dX5_told_99 ?_
                exact hm_iret_e hf hx hb hr hlocks hK hI (Nat.le_of_ble_eq_true rfl) (Nat.le_of_ble_eq_true rfl) dX5_told_102
              · rw [if_neg q5] at hf
                by_cases q6 : a2 = (6 : Int32)
                · rw [if_pos q6] at hf
                  refine lv_tableIn (off := 90) (tgt := 103) hx hb dX5_told_13 (by rw [q6]; decide) (by rw [q6]; decide) (by rw [q6]; rfl) (by decide) ?_
                  refine hm_aload_n hx hb dX5_told_103 rfl (lv_at hl 0 rfl) ?_
                  obtain ⟨v15, ev15, hf⟩ := hm_b_s hf
                  refine hm_get (ci := 3) (k := 4) (C := RX3) (T := TX3) (N := 5) hx hb hts hiX3 hown hK hI rfl (by decide) w5 (hm_gq_s ev15) dX5_told_104 ?_
                  obtain ⟨v16, ev16, hf⟩ := hm_b_s hf
                  refine hm_get (ci := 0) (k := 3) (C := RX0) (T := TX0) (N := 4) hx hb hts hiX0 hown hK hI rfl (by decide) w4 (hm_gi_s ev16) dX5_told_107 ?_
                  exact hm_iret_e hf hx hb hr hlocks hK hI (Nat.le_of_ble_eq_true rfl) (Nat.le_of_ble_eq_true rfl) dX5_told_110
                · rw [if_neg q6] at hf
                  refine lv_tableOut (tgt := 111) hx hb dX5_told_13 (by have z0 : a2.toInt ≠ 0 := hm_neI q0; have z1 : a2.toInt ≠ 1 := hm_neI q1; have z2 : a2.toInt ≠ 2 := hm_neI q2; have z3 : a2.toInt ≠ 3 := hm_neI q3; have z4 : a2.toInt ≠ 4 := hm_neI q4; have z5 : a2.toInt ≠ 5 := hm_neI q5; have z6 : a2.toInt ≠ 6 := hm_neI q6; omega) (by decide) ?_
                  refine lv_iconst (v := (-1 : Int32)) hx hb dX5_told_111 (by decide) ?_
                  exact hm_iret_e hf hx hb hr hlocks hK hI (Nat.le_of_ble_eq_true rfl) (Nat.le_of_ble_eq_true rfl) dX5_told_112
  · rw [if_pos c] at hf
    refine lv_iconst (v := (-1 : Int32)) hx hb dX5_told_10 (by decide) ?_
    exact hm_iret_e hf hx hb hr hlocks hK hI (Nat.le_of_ble_eq_true rfl) (Nat.le_of_ble_eq_true rfl) dX5_told_11
/-! ==== X5_isOperation: BlitBoard.isOperation(I)Z ==== -/
def fX5_isOperation (a1 : Int32) (h0 : hm_H) : Option (Int32 × hm_H) :=
  if a1 < 0 then
    some ((0 : Int32), h0)
  else
    if (15 : Int32) < a1 then
      some ((0 : Int32), h0)
    else
      some ((1 : Int32), h0)
set_option maxRecDepth 100000 in
set_option maxHeartbeats 8000000 in
theorem kX5_isOperation (l : Launch) (D : va_G) (kA : Nat → ClassId) (a1 : Int32) (h0 h' : hm_H) (r : Int32) (hf : fX5_isOperation a1 h0 = some (r, h')) : hm_C l yX5_isOperation wsX5_isOperation { frames := 0, cells := 0, slots := 0, locals := 0 } D vwCl kA (hm_ty kA) [.int a1] h0 (some (.int r)) h' 0 0 := by
  refine Met.ofW (cc := cX5_isOperation) (maxL := 1) (ret := (some .boolean)) (by decide) rfl ?_
  intro p e s m args below meth c s₁ B hml hv
  obtain ⟨hargs, hB⟩ := hv
  have hx := B.exec
  have hb := B.bytes
  have hr := B.returns
  have hts := atoms_spec (ws := wsX5_isOperation) B.pre
  have hown : s.vm.findClass RX5 = some m.cls := findClass_of_methodNamed B.named
  have hlocks := B.notSynchronized
  have hK := hB.2
  have hI := hm_start hB
  rw [show entryFrame m args 1 = entryFrame m ([.int a1] : List Value).toArray 1 from by rw [hargs]]
  have hl := lv_entry ([.int a1]) (n := 1) (Nat.le_of_ble_eq_true rfl)
  rw [lg_entry_eq]
  generalize (lg_sl ([.int a1]) ++ List.replicate (1 - (lg_sl ([.int a1])).length) Slot.unset).toArray = ls at hl ⊢
  have hl : lv_has ls 1 [(0, .int a1)] := hl
  unfold fX5_isOperation at hf
  refine lv_iload_n hx hb dX5_isOperation_0 rfl (lv_at hl 0 rfl) ?_
  refine lv_if_lt (tgt := 14) hx hb dX5_isOperation_1 (by decide) (fun c => ?_) (fun c => ?_)
  · rw [if_pos c] at hf
    refine lv_iconst (v := (0 : Int32)) hx hb dX5_isOperation_14 (by decide) ?_
    exact hm_zret_e hf hx hb hr hlocks hK hI (Nat.le_of_ble_eq_true rfl) (Nat.le_of_ble_eq_true rfl) rfl dX5_isOperation_15
  · rw [if_neg c] at hf
    refine lv_iload_n hx hb dX5_isOperation_4 rfl (lv_at hl 0 rfl) ?_
    refine lv_bipush (v := (15 : Int32)) hx hb dX5_isOperation_5 (by decide) ?_
    refine lv_icmp_gt (tgt := 14) hx hb dX5_isOperation_7 (by decide) (fun c => ?_) (fun c => ?_)
    · rw [if_pos c] at hf
      refine lv_iconst (v := (0 : Int32)) hx hb dX5_isOperation_14 (by decide) ?_
      exact hm_zret_e hf hx hb hr hlocks hK hI (Nat.le_of_ble_eq_true rfl) (Nat.le_of_ble_eq_true rfl) rfl dX5_isOperation_15
    · rw [if_neg c] at hf
      refine lv_iconst (v := (1 : Int32)) hx hb dX5_isOperation_10 (by decide) ?_
      refine lv_goto (tgt := 15) hx hb dX5_isOperation_11 (by decide) ?_
      exact hm_zret_e hf hx hb hr hlocks hK hI (Nat.le_of_ble_eq_true rfl) (Nat.le_of_ble_eq_true rfl) rfl dX5_isOperation_15
/-! ==== J7_rangeCheck_23922: java/util/Arrays.rangeCheck(III)V ==== -/
def fJ7_rangeCheck_23922 (a1 : Int32) (a2 : Int32) (a3 : Int32) (h0 : hm_H) : Option hm_H :=
  if a2 ≤ a3 then
    if 0 ≤ a2 then
      if a3 ≤ a1 then
        some h0
      else
        none
    else
      none
  else
    none
set_option maxRecDepth 100000 in
set_option maxHeartbeats 8000000 in
theorem kJ7_rangeCheck_23922 (l : Launch) (D : va_G) (kA : Nat → ClassId) (a1 : Int32) (a2 : Int32) (a3 : Int32) (h0 h' : hm_H) (hf : fJ7_rangeCheck_23922 a1 a2 a3 h0 = some h') : hm_C l yJ7_rangeCheck_23922 wsJ7_rangeCheck_23922 { frames := 0, cells := 0, slots := 0, locals := 0 } D vwCl kA (hm_ty kA) [.int a1, .int a2, .int a3] h0 none h' 0 0 := by
  refine Met.ofW (cc := cJ7_rangeCheck_23922) (maxL := 3) (ret := none) (by decide) rfl ?_
  intro p e s m args below meth c s₁ B hml hv
  obtain ⟨hargs, hB⟩ := hv
  have hx := B.exec
  have hb := B.bytes
  have hr := B.returns
  have hts := atoms_spec (ws := wsJ7_rangeCheck_23922) B.pre
  have hown : s.vm.findClass RJ7 = some m.cls := findClass_of_methodNamed B.named
  have hlocks := B.notSynchronized
  have hK := hB.2
  have hI := hm_start hB
  rw [show entryFrame m args 3 = entryFrame m ([.int a1, .int a2, .int a3] : List Value).toArray 3 from by rw [hargs]]
  have hl := lv_entry ([.int a1, .int a2, .int a3]) (n := 3) (Nat.le_of_ble_eq_true rfl)
  rw [lg_entry_eq]
  generalize (lg_sl ([.int a1, .int a2, .int a3]) ++ List.replicate (3 - (lg_sl ([.int a1, .int a2, .int a3])).length) Slot.unset).toArray = ls at hl ⊢
  have hl : lv_has ls 3 [(0, .int a1), (1, .int a2), (2, .int a3)] := hl
  unfold fJ7_rangeCheck_23922 at hf
  refine lv_iload_n hx hb dJ7_rangeCheck_23922_0 rfl (lv_at hl 1 rfl) ?_
  refine lv_iload_n hx hb dJ7_rangeCheck_23922_1 rfl (lv_at hl 2 rfl) ?_
  refine lv_icmp_le (tgt := 46) hx hb dJ7_rangeCheck_23922_2 (by decide) (fun c => ?_) (fun c => ?_)
  · rw [if_pos c] at hf
    refine lv_iload_n hx hb dJ7_rangeCheck_23922_46 rfl (lv_at hl 1 rfl) ?_
    refine lv_if_ge (tgt := 59) hx hb dJ7_rangeCheck_23922_47 (by decide) (fun c => ?_) (fun c => ?_)
    · rw [if_pos c] at hf
      refine lv_iload_n hx hb dJ7_rangeCheck_23922_59 rfl (lv_at hl 2 rfl) ?_
      refine lv_iload_n hx hb dJ7_rangeCheck_23922_60 rfl (lv_at hl 0 rfl) ?_
      refine lv_icmp_le (tgt := 73) hx hb dJ7_rangeCheck_23922_61 (by decide) (fun c => ?_) (fun c => ?_)
      · rw [if_pos c] at hf
        exact hm_vret_e hf hx hb hr hlocks hK hI (Nat.le_of_ble_eq_true rfl) (Nat.le_of_ble_eq_true rfl) dJ7_rangeCheck_23922_73
      · rw [if_neg c] at hf
        cases hf
    · rw [if_neg c] at hf
      cases hf
  · rw [if_neg c] at hf
    cases hf
/-! ==== J7_fill_fda19: java/util/Arrays.fill([IIII)V ==== -/
def fJ7_fill_fda19_10 (K10 : Option Nat → Int32 → Int32 → Int32 → hm_H → Option hm_H) (x0 : Option Nat) (x2 : Int32) (x3 : Int32) (x4 : Int32) (h : hm_H) : Option hm_H :=
  if x2 ≤ x4 then
    some h
  else
    hm_b (hm_si 0 h x0 x4 x3) fun h3 =>
    K10 x0 x2 x3 (x4 + (1 : Int32)) h3
def fJ7_fill_fda19 (a1 : Option Nat) (a2 : Int32) (a3 : Int32) (a4 : Int32) (h0 : hm_H) : Option hm_H :=
  hm_b (hm_al 0 h0 a1) fun v1 =>
  hm_b (fJ7_rangeCheck_23922 v1 a2 a3 h0) fun h2 =>
  hm_loop (fun _ _ _ _ _ => none) (fJ7_fill_fda19_10) hm_fu a1 a3 a4 a2 h2
set_option maxRecDepth 100000 in
set_option maxHeartbeats 8000000 in
theorem kJ7_fill_fda19 (l : Launch) (D : va_G) (kA : Nat → ClassId) (a1 : Option Nat) (a2 : Int32) (a3 : Int32) (a4 : Int32) (h0 h' : hm_H) (hf : fJ7_fill_fda19 a1 a2 a3 a4 h0 = some h') : hm_C l yJ7_fill_fda19 wsJ7_fill_fda19 { frames := 1, cells := 0, slots := 0, locals := 22 } D vwCl kA (hm_ty kA) [va_rf a1, .int a2, .int a3, .int a4] h0 none h' 0 0 := by
  refine Met.ofW (cc := cJ7_fill_fda19) (maxL := 5) (ret := none) (by decide) rfl ?_
  intro p e s m args below meth c s₁ B hml hv
  obtain ⟨hargs, hB⟩ := hv
  have hx := B.exec
  have hb := B.bytes
  have hr := B.returns
  have hts := atoms_spec (ws := wsJ7_fill_fda19) B.pre
  have hown : s.vm.findClass RJ7 = some m.cls := findClass_of_methodNamed B.named
  have hlocks := B.notSynchronized
  have hK := hB.2
  have hI := hm_start hB
  have B10 : ∀ (fu : Nat) (x0 : Option Nat) (x2 : Int32) (x3 : Int32) (x4 : Int32) (h : hm_H), hm_loop (fun _ _ _ _ _ => none) (fJ7_fill_fda19_10) fu x0 x2 x3 x4 h = some h' → ∀ (H : Heap) (locs : List Loc) (ls : Array Slot), hm_I D vwCl kA (hm_A h0) s.heap h H locs → lv_has ls 5 [(0, va_rf x0), (2, .int x2), (3, .int x3), (4, .int x4)] → W p l e (headSpec wsJ7_fill_fda19 { frames := 1, cells := 0, slots := 0, locals := 22 }).room s m args below meth c H locs 0 0 (MQ below (hm_Q D vwCl kA (hm_ty kA) h0 none h') args s 0 0 (hm_A h0)) (F0 m 10 ls []) := by
    intro fu
    induction fu with
    | zero => intro x0 x2 x3 x4 h hf; cases hf
    | succ fu ih10 =>
      rw [hm_loop_s]
      generalize hm_loop (fun _ _ _ _ _ => none) (fJ7_fill_fda19_10) fu = K10 at ih10 ⊢
      intro x0 x2 x3 x4 h hf H locs ls hI hl
      unfold fJ7_fill_fda19_10 at hf
      refine lv_iload hx hb dJ7_fill_fda19_10 (lv_at hl 3 rfl) ?_
      refine lv_iload_n hx hb dJ7_fill_fda19_12 rfl (lv_at hl 1 rfl) ?_
      refine lv_icmp_ge (tgt := 27) hx hb dJ7_fill_fda19_13 (by decide) (fun c => ?_) (fun c => ?_)
      · rw [if_pos c] at hf
        exact hm_vret_e hf hx hb hr hlocks hK hI (Nat.le_of_ble_eq_true rfl) (Nat.le_of_ble_eq_true rfl) dJ7_fill_fda19_27
      · rw [if_neg c] at hf
        refine hm_aload_n hx hb dJ7_fill_fda19_16 rfl (lv_at hl 0 rfl) ?_
        refine lv_iload hx hb dJ7_fill_fda19_17 (lv_at hl 3 rfl) ?_
        refine lv_iload_n hx hb dJ7_fill_fda19_19 rfl (lv_at hl 2 rfl) ?_
        obtain ⟨h3, eh3, hf⟩ := hm_b_s hf
        refine hm_iast (kd := 0) (t0 := 0) hx hb hK hI rfl eh3 dJ7_fill_fda19_20 (fun H locs hI => ?_)
        refine lv_iinc (v := x4 + (1 : Int32)) (lv' := [(4, .int (x4 + (1 : Int32))), (0, va_rf x0), (2, .int x2), (3, .int x3)]) hx hb dJ7_fill_fda19_21 hl (k := 3) rfl rfl (by decide) rfl (fun ls hl => ?_)
        refine lv_goto (tgt := 10) hx hb dJ7_fill_fda19_24 (by decide) ?_
        exact ih10 x0 x2 x3 (x4 + (1 : Int32)) h3 hf _ _ _ hI (lv_sub hl [1, 2, 3, 0] rfl)
  rw [show entryFrame m args 5 = entryFrame m ([va_rf a1, .int a2, .int a3, .int a4] : List Value).toArray 5 from by rw [hargs]]
  have hl := lv_entry ([va_rf a1, .int a2, .int a3, .int a4]) (n := 5) (by simp only [hm_sl_q, hm_sl_i, hm_sl_l, hm_sl_r, hm_sl_n, List.length_cons, List.length_nil] <;> decide)
  rw [lg_entry_eq]
  generalize (lg_sl ([va_rf a1, .int a2, .int a3, .int a4]) ++ List.replicate (5 - (lg_sl ([va_rf a1, .int a2, .int a3, .int a4])).length) Slot.unset).toArray = ls at hl ⊢
  rw [show lv_args 0 [va_rf a1, .int a2, .int a3, .int a4] = [(0, va_rf a1), (1, .int a2), (2, .int a3), (3, .int a4)] from by simp only [hm_ar_q, hm_ar_i, hm_ar_l, hm_ar_r, hm_ar_n]] at hl
  have hl : lv_has ls 5 [(0, va_rf a1), (1, .int a2), (2, .int a3), (3, .int a4)] := hl
  unfold fJ7_fill_fda19 at hf
  refine hm_aload_n hx hb dJ7_fill_fda19_0 rfl (lv_at hl 0 rfl) ?_
  obtain ⟨v1, ev1, hf⟩ := hm_b_s hf
  refine hm_alen (kd := 0) (t0 := 0) hx hb hK hI rfl ev1 dJ7_fill_fda19_1 ?_
  refine lv_iload_n hx hb dJ7_fill_fda19_2 rfl (lv_at hl 1 rfl) ?_
  refine lv_iload_n hx hb dJ7_fill_fda19_3 rfl (lv_at hl 2 rfl) ?_
  obtain ⟨h2, eh2, hf⟩ := hm_b_s hf
  refine hm_cS (As := [.int v1, .int a2, .int a3]) (rest := []) ⟨hx, hb, hml, hown, hts⟩ hK hI (kJ7_rangeCheck_23922 l D kA v1 a2 a3 h0 h2 eh2) (va_cwS 3 hts gJ7_fill_fda19_J7_rangeCheck_23922 rfl rfl rfl (by decide +kernel) ⟨Nat.le_of_ble_eq_true rfl, Nat.le_of_ble_eq_true rfl⟩) rfl hl.1 rfl (by first | exact Nat.le_of_ble_eq_true rfl | (simp only [List.map, hm_rf_cat, hm_ci, hm_cl, List.sum_cons, List.sum_nil] <;> decide)) dJ7_fill_fda19_4 ⟨Nat.le_of_ble_eq_true rfl, Nat.le_of_ble_eq_true rfl⟩ (fun H locs hI => ?_)
  refine W.eq (g2 := F0 m 7 ls []) rfl ?_
  refine lv_iload_n hx hb dJ7_fill_fda19_7 rfl (lv_at hl 1 rfl) ?_
  refine lv_istore (lv' := [(4, .int a2), (0, va_rf a1), (1, .int a2), (2, .int a3), (3, .int a4)]) hx hb dJ7_fill_fda19_8 hl (by decide) rfl (fun ls hl => ?_)
  exact B10 hm_fu a1 a3 a4 a2 h2 hf _ _ _ hI (lv_sub hl [1, 3, 4, 0] rfl)
/-! ==== X5_combined: BlitBoard.combined(III)I ==== -/
def fX5_combined_46 (x0 : Int32) (x1 : Int32) (x2 : Int32) (x3 : Int32) (h : hm_H) : Option (Int32 × hm_H) :=
  if (x0 &&& (8 : Int32)) = 0 then
    some (x3, h)
  else
    hm_let (x3 ||| (x1 &&& x2)) fun v4 =>
    some (v4, h)
def fX5_combined_32 (x0 : Int32) (x1 : Int32) (x2 : Int32) (x3 : Int32) (h : hm_H) : Option (Int32 × hm_H) :=
  if (x0 &&& (4 : Int32)) = 0 then
    fX5_combined_46 x0 x1 x2 x3 h
  else
    hm_let (x3 ||| (x1 &&& (x2 ^^^ (-1 : Int32)))) fun v3 =>
    fX5_combined_46 x0 x1 x2 v3 h
def fX5_combined_18 (x0 : Int32) (x1 : Int32) (x2 : Int32) (x3 : Int32) (h : hm_H) : Option (Int32 × hm_H) :=
  if (x0 &&& (2 : Int32)) = 0 then
    fX5_combined_32 x0 x1 x2 x3 h
  else
    hm_let (x3 ||| ((x1 ^^^ (-1 : Int32)) &&& x2)) fun v2 =>
    fX5_combined_32 x0 x1 x2 v2 h
def fX5_combined (a1 : Int32) (a2 : Int32) (a3 : Int32) (h0 : hm_H) : Option (Int32 × hm_H) :=
  if (a1 &&& (1 : Int32)) = 0 then
    fX5_combined_18 a1 a2 a3 (0 : Int32) h0
  else
    hm_let ((0 : Int32) ||| ((a2 ^^^ (-1 : Int32)) &&& (a3 ^^^ (-1 : Int32)))) fun v1 =>
    fX5_combined_18 a1 a2 a3 v1 h0
set_option maxRecDepth 100000 in
set_option maxHeartbeats 8000000 in
theorem kX5_combined (l : Launch) (D : va_G) (kA : Nat → ClassId) (a1 : Int32) (a2 : Int32) (a3 : Int32) (h0 h' : hm_H) (r : Int32) (hf : fX5_combined a1 a2 a3 h0 = some (r, h')) : hm_C l yX5_combined wsX5_combined { frames := 0, cells := 0, slots := 0, locals := 0 } D vwCl kA (hm_ty kA) [.int a1, .int a2, .int a3] h0 (some (.int r)) h' 0 0 := by
  refine Met.ofW (cc := cX5_combined) (maxL := 4) (ret := (some .int)) (by decide) rfl ?_
  intro p e s m args below meth c s₁ B hml hv
  obtain ⟨hargs, hB⟩ := hv
  have hx := B.exec
  have hb := B.bytes
  have hr := B.returns
  have hts := atoms_spec (ws := wsX5_combined) B.pre
  have hown : s.vm.findClass RX5 = some m.cls := findClass_of_methodNamed B.named
  have hlocks := B.notSynchronized
  have hK := hB.2
  have hI := hm_start hB
  have B46 : ∀ (x0 : Int32) (x1 : Int32) (x2 : Int32) (x3 : Int32) (h : hm_H), fX5_combined_46 x0 x1 x2 x3 h = some (r, h') → ∀ (H : Heap) (locs : List Loc) (ls : Array Slot), hm_I D vwCl kA (hm_A h0) s.heap h H locs → lv_has ls 4 [(0, .int x0), (1, .int x1), (2, .int x2), (3, .int x3)] → W p l e (headSpec wsX5_combined { frames := 0, cells := 0, slots := 0, locals := 0 }).room s m args below meth c H locs 0 0 (MQ below (hm_Q D vwCl kA (hm_ty kA) h0 (some (.int r)) h') args s 0 0 (hm_A h0)) (F0 m 46 ls []) := by
    intro x0 x1 x2 x3 h hf H locs ls hI hl
    unfold fX5_combined_46 at hf
    refine lv_iload_n hx hb dX5_combined_46 rfl (lv_at hl 0 rfl) ?_
    refine lv_bipush (v := (8 : Int32)) hx hb dX5_combined_47 (by decide) ?_
    refine lv_iand hx hb dX5_combined_49 ?_
    refine lv_if_eq (tgt := 59) hx hb dX5_combined_50 (by decide) (fun c => ?_) (fun c => ?_)
    · rw [if_pos c] at hf
      refine lv_iload_n hx hb dX5_combined_59 rfl (lv_at hl 3 rfl) ?_
      exact hm_iret_e hf hx hb hr hlocks hK hI (Nat.le_of_ble_eq_true rfl) (Nat.le_of_ble_eq_true rfl) dX5_combined_60
    · rw [if_neg c] at hf
      refine lv_iload_n hx hb dX5_combined_53 rfl (lv_at hl 3 rfl) ?_
      refine lv_iload_n hx hb dX5_combined_54 rfl (lv_at hl 1 rfl) ?_
      refine lv_iload_n hx hb dX5_combined_55 rfl (lv_at hl 2 rfl) ?_
      refine lv_iand hx hb dX5_combined_56 ?_
      refine lv_ior hx hb dX5_combined_57 ?_
      obtain ⟨v4, ev4, hf⟩ := hm_let_s hf
      refine hm_ti ev4 ?_
      refine lv_istore_n (lv' := [(3, .int v4), (0, .int x0), (1, .int x1), (2, .int x2)]) hx hb dX5_combined_58 rfl hl (by decide) rfl (fun ls hl => ?_)
      refine lv_iload_n hx hb dX5_combined_59 rfl (lv_at hl 0 rfl) ?_
      exact hm_iret_e hf hx hb hr hlocks hK hI (Nat.le_of_ble_eq_true rfl) (Nat.le_of_ble_eq_true rfl) dX5_combined_60
  have B32 : ∀ (x0 : Int32) (x1 : Int32) (x2 : Int32) (x3 : Int32) (h : hm_H), fX5_combined_32 x0 x1 x2 x3 h = some (r, h') → ∀ (H : Heap) (locs : List Loc) (ls : Array Slot), hm_I D vwCl kA (hm_A h0) s.heap h H locs → lv_has ls 4 [(0, .int x0), (1, .int x1), (2, .int x2), (3, .int x3)] → W p l e (headSpec wsX5_combined { frames := 0, cells := 0, slots := 0, locals := 0 }).room s m args below meth c H locs 0 0 (MQ below (hm_Q D vwCl kA (hm_ty kA) h0 (some (.int r)) h') args s 0 0 (hm_A h0)) (F0 m 32 ls []) := by
    intro x0 x1 x2 x3 h hf H locs ls hI hl
    unfold fX5_combined_32 at hf
    refine lv_iload_n hx hb dX5_combined_32 rfl (lv_at hl 0 rfl) ?_
    refine lv_iconst (v := (4 : Int32)) hx hb dX5_combined_33 (by decide) ?_
    refine lv_iand hx hb dX5_combined_34 ?_
    refine lv_if_eq (tgt := 46) hx hb dX5_combined_35 (by decide) (fun c => ?_) (fun c => ?_)
    · rw [if_pos c] at hf
      exact B46 x0 x1 x2 x3 h hf _ _ _ hI (lv_sub hl [0, 1, 2, 3] rfl)
    · rw [if_neg c] at hf
      refine lv_iload_n hx hb dX5_combined_38 rfl (lv_at hl 3 rfl) ?_
      refine lv_iload_n hx hb dX5_combined_39 rfl (lv_at hl 1 rfl) ?_
      refine lv_iload_n hx hb dX5_combined_40 rfl (lv_at hl 2 rfl) ?_
      refine lv_iconst (v := (-1 : Int32)) hx hb dX5_combined_41 (by decide) ?_
      refine lv_ixor hx hb dX5_combined_42 ?_
      refine lv_iand hx hb dX5_combined_43 ?_
      refine lv_ior hx hb dX5_combined_44 ?_
      obtain ⟨v3, ev3, hf⟩ := hm_let_s hf
      refine hm_ti ev3 ?_
      refine lv_istore_n (lv' := [(3, .int v3), (0, .int x0), (1, .int x1), (2, .int x2)]) hx hb dX5_combined_45 rfl hl (by decide) rfl (fun ls hl => ?_)
      exact B46 x0 x1 x2 v3 h hf _ _ _ hI (lv_sub hl [1, 2, 3, 0] rfl)
  have B18 : ∀ (x0 : Int32) (x1 : Int32) (x2 : Int32) (x3 : Int32) (h : hm_H), fX5_combined_18 x0 x1 x2 x3 h = some (r, h') → ∀ (H : Heap) (locs : List Loc) (ls : Array Slot), hm_I D vwCl kA (hm_A h0) s.heap h H locs → lv_has ls 4 [(0, .int x0), (1, .int x1), (2, .int x2), (3, .int x3)] → W p l e (headSpec wsX5_combined { frames := 0, cells := 0, slots := 0, locals := 0 }).room s m args below meth c H locs 0 0 (MQ below (hm_Q D vwCl kA (hm_ty kA) h0 (some (.int r)) h') args s 0 0 (hm_A h0)) (F0 m 18 ls []) := by
    intro x0 x1 x2 x3 h hf H locs ls hI hl
    unfold fX5_combined_18 at hf
    refine lv_iload_n hx hb dX5_combined_18 rfl (lv_at hl 0 rfl) ?_
    refine lv_iconst (v := (2 : Int32)) hx hb dX5_combined_19 (by decide) ?_
    refine lv_iand hx hb dX5_combined_20 ?_
    refine lv_if_eq (tgt := 32) hx hb dX5_combined_21 (by decide) (fun c => ?_) (fun c => ?_)
    · rw [if_pos c] at hf
      exact B32 x0 x1 x2 x3 h hf _ _ _ hI (lv_sub hl [0, 1, 2, 3] rfl)
    · rw [if_neg c] at hf
      refine lv_iload_n hx hb dX5_combined_24 rfl (lv_at hl 3 rfl) ?_
      refine lv_iload_n hx hb dX5_combined_25 rfl (lv_at hl 1 rfl) ?_
      refine lv_iconst (v := (-1 : Int32)) hx hb dX5_combined_26 (by decide) ?_
      refine lv_ixor hx hb dX5_combined_27 ?_
      refine lv_iload_n hx hb dX5_combined_28 rfl (lv_at hl 2 rfl) ?_
      refine lv_iand hx hb dX5_combined_29 ?_
      refine lv_ior hx hb dX5_combined_30 ?_
      obtain ⟨v2, ev2, hf⟩ := hm_let_s hf
      refine hm_ti ev2 ?_
      refine lv_istore_n (lv' := [(3, .int v2), (0, .int x0), (1, .int x1), (2, .int x2)]) hx hb dX5_combined_31 rfl hl (by decide) rfl (fun ls hl => ?_)
      exact B32 x0 x1 x2 v2 h hf _ _ _ hI (lv_sub hl [1, 2, 3, 0] rfl)
  rw [show entryFrame m args 4 = entryFrame m ([.int a1, .int a2, .int a3] : List Value).toArray 4 from by rw [hargs]]
  have hl := lv_entry ([.int a1, .int a2, .int a3]) (n := 4) (Nat.le_of_ble_eq_true rfl)
  rw [lg_entry_eq]
  generalize (lg_sl ([.int a1, .int a2, .int a3]) ++ List.replicate (4 - (lg_sl ([.int a1, .int a2, .int a3])).length) Slot.unset).toArray = ls at hl ⊢
  have hl : lv_has ls 4 [(0, .int a1), (1, .int a2), (2, .int a3)] := hl
  unfold fX5_combined at hf
  refine lv_iconst (v := (0 : Int32)) hx hb dX5_combined_0 (by decide) ?_
  refine lv_istore_n (lv' := [(3, .int (0 : Int32)), (0, .int a1), (1, .int a2), (2, .int a3)]) hx hb dX5_combined_1 rfl hl (by decide) rfl (fun ls hl => ?_)
  refine lv_iload_n hx hb dX5_combined_2 rfl (lv_at hl 1 rfl) ?_
  refine lv_iconst (v := (1 : Int32)) hx hb dX5_combined_3 (by decide) ?_
  refine lv_iand hx hb dX5_combined_4 ?_
  refine lv_if_eq (tgt := 18) hx hb dX5_combined_5 (by decide) (fun c => ?_) (fun c => ?_)
  · rw [if_pos c] at hf
    exact B18 a1 a2 a3 (0 : Int32) h0 hf _ _ _ hI (lv_sub hl [1, 2, 3, 0] rfl)
  · rw [if_neg c] at hf
    refine lv_iload_n hx hb dX5_combined_8 rfl (lv_at hl 0 rfl) ?_
    refine lv_iload_n hx hb dX5_combined_9 rfl (lv_at hl 2 rfl) ?_
    refine lv_iconst (v := (-1 : Int32)) hx hb dX5_combined_10 (by decide) ?_
    refine lv_ixor hx hb dX5_combined_11 ?_
    refine lv_iload_n hx hb dX5_combined_12 rfl (lv_at hl 3 rfl) ?_
    refine lv_iconst (v := (-1 : Int32)) hx hb dX5_combined_13 (by decide) ?_
    refine lv_ixor hx hb dX5_combined_14 ?_
    refine lv_iand hx hb dX5_combined_15 ?_
    refine lv_ior hx hb dX5_combined_16 ?_
    obtain ⟨v1, ev1, hf⟩ := hm_let_s hf
    refine hm_ti ev1 ?_
    refine lv_istore_n (lv' := [(3, .int v1), (0, .int a1), (1, .int a2), (2, .int a3)]) hx hb dX5_combined_17 rfl hl (by decide) rfl (fun ls hl => ?_)
    exact B18 a1 a2 a3 v1 h0 hf _ _ _ hI (lv_sub hl [1, 2, 3, 0] rfl)
/-! ==== X5_putDots: BlitBoard.putDots(LBlitBoard$Surface;LBlitBoard$Area;I)V ==== -/
def fX5_putDots_100 (K33 : Option Nat → Option Nat → Option Nat → Int32 → Int32 → Int32 → Int32 → hm_H → Option hm_H) (x0 : Option Nat) (x1 : Option Nat) (x2 : Option Nat) (x3 : Int32) (x4 : Int32) (x5 : Int32) (x6 : Int32) (h : hm_H) : Option hm_H :=
  K33 x0 x1 x2 x3 x4 x5 (x6 + (1 : Int32)) h
def fX5_putDots_33 (K3 : Option Nat → Option Nat → Option Nat → Int32 → Int32 → hm_H → Option hm_H) (K33 : Option Nat → Option Nat → Option Nat → Int32 → Int32 → Int32 → Int32 → hm_H → Option hm_H) (x0 : Option Nat) (x1 : Option Nat) (x2 : Option Nat) (x3 : Int32) (x4 : Int32) (x5 : Int32) (x6 : Int32) (h : hm_H) : Option hm_H :=
  hm_b (hm_gi 0 2 h x2) fun v7 =>
  if v7 ≤ x6 then
    K3 x0 x1 x2 x3 (x4 + (1 : Int32)) h
  else
    hm_b (hm_gq 5 4 h x0) fun v8 =>
    hm_b (hm_gi 0 2 h x2) fun v9 =>
    hm_b (hm_ai 0 h v8 ((x4 * v9) + x6)) fun v10 =>
    if v10 = (-1 : Int32) then
      fX5_putDots_100 K33 x0 x1 x2 x3 x4 x5 x6 h
    else
      hm_b (hm_gq 3 3 h x1) fun v11 =>
      hm_b (hm_ai 0 h v11 (x5 + x6)) fun v12 =>
      hm_b (hm_gq 3 3 h x1) fun v13 =>
      hm_b2 (fX5_combined x3 v10 v12 h) fun v15 h14 =>
      hm_b (hm_gi 3 1 h14 x1) fun v16 =>
      hm_b (hm_si 0 h14 v13 (x5 + x6) (v15 &&& v16)) fun h17 =>
      fX5_putDots_100 K33 x0 x1 x2 x3 x4 x5 x6 h17
def fX5_putDots_3 (K3 : Option Nat → Option Nat → Option Nat → Int32 → Int32 → hm_H → Option hm_H) (x0 : Option Nat) (x1 : Option Nat) (x2 : Option Nat) (x3 : Int32) (x4 : Int32) (h : hm_H) : Option hm_H :=
  hm_b (hm_gi 0 3 h x2) fun v1 =>
  if v1 ≤ x4 then
    some h
  else
    hm_b (hm_gl 0 0 h x2) fun v2 =>
    hm_b (hm_gl 0 1 h x2) fun v3 =>
    hm_b (hm_rc 3 h x1) fun b5 =>
    hm_b2 (fX3_indexOf b5 v2 (v3 + ((x4).toInt64)) h) fun v6 h4 =>
    hm_loop (fun _ _ _ _ _ _ _ _ => none) (fX5_putDots_33 K3) hm_fu x0 x1 x2 x3 x4 v6 (0 : Int32) h4
def fX5_putDots (t : Nat) (a1 : Option Nat) (a2 : Option Nat) (a3 : Int32) (h0 : hm_H) : Option hm_H :=
  hm_loop (fun _ _ _ _ _ _ => none) (fX5_putDots_3) hm_fu (some t) a1 a2 a3 (0 : Int32) h0
set_option maxRecDepth 100000 in
set_option maxHeartbeats 8000000 in
theorem kX5_putDots (l : Launch) (D : va_G) (kA : Nat → ClassId) (t : Nat) (a1 : Option Nat) (a2 : Option Nat) (a3 : Int32) (h0 h' : hm_H) (hf : fX5_putDots t a1 a2 a3 h0 = some h') : hm_C l yX5_putDots wsX5_putDots { frames := 1, cells := 0, slots := 0, locals := 24 } D vwCl kA (hm_ty kA) [.ref t, va_rf a1, va_rf a2, .int a3] h0 none h' 0 0 := by
  refine Met.ofW (cc := cX5_putDots) (maxL := 9) (ret := none) (by decide) rfl ?_
  intro p e s m args below meth c s₁ B hml hv
  obtain ⟨hargs, hB⟩ := hv
  have hx := B.exec
  have hb := B.bytes
  have hr := B.returns
  have hts := atoms_spec (ws := wsX5_putDots) B.pre
  have hown : s.vm.findClass RX5 = some m.cls := findClass_of_methodNamed B.named
  have hlocks := B.notSynchronized
  have hK := hB.2
  have hI := hm_start hB
  have w1 := hts (.fieldLink RX5 85 "BlitBoard$Area" "high" "I") (by decide +kernel)
  have w2 := hts (.fieldLink RX5 88 "BlitBoard$Area" "left" "J") (by decide +kernel)
  have w3 := hts (.fieldLink RX5 92 "BlitBoard$Area" "top" "J") (by decide +kernel)
  have w4 := hts (.fieldLink RX5 82 "BlitBoard$Area" "wide" "I") (by decide +kernel)
  have w5 := hts (.fieldLink RX5 30 "BlitBoard" "taken" "[I") (by decide +kernel)
  have w6 := hts (.fieldLink RX5 72 "BlitBoard$Surface" "dots" "[I") (by decide +kernel)
  have w7 := hts (.fieldLink RX5 177 "BlitBoard$Surface" "largest" "I") (by decide +kernel)
  have hiX0 : ∀ w ∈ wsX00, w ∈ wsX5_putDots := by decide +kernel
  have hiX5 : ∀ w ∈ wsX50, w ∈ wsX5_putDots := by decide +kernel
  have hiX3 : ∀ w ∈ wsX30, w ∈ wsX5_putDots := by decide +kernel
  have B3 : ∀ (fu : Nat) (x0 : Option Nat) (x1 : Option Nat) (x2 : Option Nat) (x3 : Int32) (x4 : Int32) (h : hm_H), hm_loop (fun _ _ _ _ _ _ => none) (fX5_putDots_3) fu x0 x1 x2 x3 x4 h = some h' → ∀ (H : Heap) (locs : List Loc) (ls : Array Slot), hm_I D vwCl kA (hm_A h0) s.heap h H locs → lv_has ls 9 [(0, va_rf x0), (1, va_rf x1), (2, va_rf x2), (3, .int x3), (4, .int x4)] → W p l e (headSpec wsX5_putDots { frames := 1, cells := 0, slots := 0, locals := 24 }).room s m args below meth c H locs 0 0 (MQ below (hm_Q D vwCl kA (hm_ty kA) h0 none h') args s 0 0 (hm_A h0)) (F0 m 3 ls []) := by
    intro fu
    induction fu with
    | zero => intro x0 x1 x2 x3 x4 h hf; cases hf
    | succ fu ih3 =>
      rw [hm_loop_s]
      generalize hm_loop (fun _ _ _ _ _ _ => none) (fX5_putDots_3) fu = K3 at ih3 ⊢
      have B33 : ∀ (fu : Nat) (x0 : Option Nat) (x1 : Option Nat) (x2 : Option Nat) (x3 : Int32) (x4 : Int32) (x5 : Int32) (x6 : Int32) (h : hm_H), hm_loop (fun _ _ _ _ _ _ _ _ => none) (fX5_putDots_33 K3) fu x0 x1 x2 x3 x4 x5 x6 h = some h' → ∀ (H : Heap) (locs : List Loc) (ls : Array Slot), hm_I D vwCl kA (hm_A h0) s.heap h H locs → lv_has ls 9 [(0, va_rf x0), (1, va_rf x1), (2, va_rf x2), (3, .int x3), (4, .int x4), (5, .int x5), (6, .int x6)] → W p l e (headSpec wsX5_putDots { frames := 1, cells := 0, slots := 0, locals := 24 }).room s m args below meth c H locs 0 0 (MQ below (hm_Q D vwCl kA (hm_ty kA) h0 none h') args s 0 0 (hm_A h0)) (F0 m 33 ls []) := by
        intro fu
        induction fu with
        | zero => intro x0 x1 x2 x3 x4 x5 x6 h hf; cases hf
        | succ fu ih33 =>
          rw [hm_loop_s]
          generalize hm_loop (fun _ _ _ _ _ _ _ _ => none) (fX5_putDots_33 K3) fu = K33 at ih33 ⊢
          have B100 : ∀ (x0 : Option Nat) (x1 : Option Nat) (x2 : Option Nat) (x3 : Int32) (x4 : Int32) (x5 : Int32) (x6 : Int32) (h : hm_H), fX5_putDots_100 K33 x0 x1 x2 x3 x4 x5 x6 h = some h' → ∀ (H : Heap) (locs : List Loc) (ls : Array Slot), hm_I D vwCl kA (hm_A h0) s.heap h H locs → lv_has ls 9 [(0, va_rf x0), (1, va_rf x1), (2, va_rf x2), (3, .int x3), (4, .int x4), (5, .int x5), (6, .int x6)] → W p l e (headSpec wsX5_putDots { frames := 1, cells := 0, slots := 0, locals := 24 }).room s m args below meth c H locs 0 0 (MQ below (hm_Q D vwCl kA (hm_ty kA) h0 none h') args s 0 0 (hm_A h0)) (F0 m 100 ls []) := by
            intro x0 x1 x2 x3 x4 x5 x6 h hf H locs ls hI hl
            unfold fX5_putDots_100 at hf
            refine lv_iinc (v := x6 + (1 : Int32)) (lv' := [(6, .int (x6 + (1 : Int32))), (0, va_rf x0), (1, va_rf x1), (2, va_rf x2), (3, .int x3), (4, .int x4), (5, .int x5)]) hx hb dX5_putDots_100 hl (k := 6) rfl rfl (by decide) rfl (fun ls hl => ?_)
            refine lv_goto (tgt := 33) hx hb dX5_putDots_103 (by decide) ?_
            exact ih33 x0 x1 x2 x3 x4 x5 (x6 + (1 : Int32)) h hf _ _ _ hI (lv_sub hl [1, 2, 3, 4, 5, 6, 0] rfl)
          intro x0 x1 x2 x3 x4 x5 x6 h hf H locs ls hI hl
          unfold fX5_putDots_33 at hf
          refine lv_iload hx hb dX5_putDots_33 (lv_at hl 6 rfl) ?_
          refine hm_aload_n hx hb dX5_putDots_35 rfl (lv_at hl 2 rfl) ?_
          obtain ⟨v7, ev7, hf⟩ := hm_b_s hf
          refine hm_get (ci := 0) (k := 2) (C := RX0) (T := TX0) (N := 4) hx hb hts hiX0 hown hK hI rfl (by decide) w4 (hm_gi_s ev7) dX5_putDots_36 ?_
          refine lv_icmp_ge (tgt := 106) hx hb dX5_putDots_39 (by decide) (fun c => ?_) (fun c => ?_)
          · rw [if_pos c] at hf
            refine lv_iinc (v := x4 + (1 : Int32)) (lv' := [(4, .int (x4 + (1 : Int32))), (0, va_rf x0), (1, va_rf x1), (2, va_rf x2), (3, .int x3), (5, .int x5), (6, .int x6)]) hx hb dX5_putDots_106 hl (k := 4) rfl rfl (by decide) rfl (fun ls hl => ?_)
            refine lv_goto (tgt := 3) hx hb dX5_putDots_109 (by decide) ?_
            exact ih3 x0 x1 x2 x3 (x4 + (1 : Int32)) h hf _ _ _ hI (lv_sub hl [1, 2, 3, 4, 0] rfl)
          · rw [if_neg c] at hf
            refine hm_aload_n hx hb dX5_putDots_42 rfl (lv_at hl 0 rfl) ?_
            obtain ⟨v8, ev8, hf⟩ := hm_b_s hf
            refine hm_get (ci := 5) (k := 4) (C := RX5) (T := TX5) (N := 5) hx hb hts hiX5 hown hK hI rfl (by decide) w5 (hm_gq_s ev8) dX5_putDots_43 ?_
            refine lv_iload hx hb dX5_putDots_46 (lv_at hl 4 rfl) ?_
            refine hm_aload_n hx hb dX5_putDots_48 rfl (lv_at hl 2 rfl) ?_
            obtain ⟨v9, ev9, hf⟩ := hm_b_s hf
            refine hm_get (ci := 0) (k := 2) (C := RX0) (T := TX0) (N := 4) hx hb hts hiX0 hown hK hI rfl (by decide) w4 (hm_gi_s ev9) dX5_putDots_49 ?_
            refine lv_imul hx hb dX5_putDots_52 ?_
            refine lv_iload hx hb dX5_putDots_53 (lv_at hl 6 rfl) ?_
            refine lv_iadd hx hb dX5_putDots_55 ?_
            obtain ⟨v10, ev10, hf⟩ := hm_b_s hf
            refine hm_iald (kd := 0) (t0 := 0) hx hb hK hI rfl ev10 dX5_putDots_56 ?_
            refine lv_istore (lv' := [(7, .int v10), (0, va_rf x0), (1, va_rf x1), (2, va_rf x2), (3, .int x3), (4, .int x4), (5, .int x5), (6, .int x6)]) hx hb dX5_putDots_57 hl (by decide) rfl (fun ls hl => ?_)
            refine lv_iload hx hb dX5_putDots_59 (lv_at hl 0 rfl) ?_
            refine lv_iconst (v := (-1 : Int32)) hx hb dX5_putDots_61 (by decide) ?_
            refine lv_icmp_eq (tgt := 100) hx hb dX5_putDots_62 (by decide) (fun c => ?_) (fun c => ?_)
            · rw [if_pos c] at hf
              exact B100 x0 x1 x2 x3 x4 x5 x6 h hf _ _ _ hI (lv_sub hl [1, 2, 3, 4, 5, 6, 7] rfl)
            · rw [if_neg c] at hf
              refine hm_aload_n hx hb dX5_putDots_65 rfl (lv_at hl 2 rfl) ?_
              obtain ⟨v11, ev11, hf⟩ := hm_b_s hf
              refine hm_get (ci := 3) (k := 3) (C := RX3) (T := TX3) (N := 5) hx hb hts hiX3 hown hK hI rfl (by decide) w6 (hm_gq_s ev11) dX5_putDots_66 ?_
              refine lv_iload hx hb dX5_putDots_69 (lv_at hl 6 rfl) ?_
              refine lv_iload hx hb dX5_putDots_71 (lv_at hl 7 rfl) ?_
              refine lv_iadd hx hb dX5_putDots_73 ?_
              obtain ⟨v12, ev12, hf⟩ := hm_b_s hf
              refine hm_iald (kd := 0) (t0 := 0) hx hb hK hI rfl ev12 dX5_putDots_74 ?_
              refine lv_istore (lv' := [(8, .int v12), (7, .int v10), (0, va_rf x0), (1, va_rf x1), (2, va_rf x2), (3, .int x3), (4, .int x4), (5, .int x5), (6, .int x6)]) hx hb dX5_putDots_75 hl (by decide) rfl (fun ls hl => ?_)
              refine hm_aload_n hx hb dX5_putDots_77 rfl (lv_at hl 3 rfl) ?_
              obtain ⟨v13, ev13, hf⟩ := hm_b_s hf
              refine hm_get (ci := 3) (k := 3) (C := RX3) (T := TX3) (N := 5) hx hb hts hiX3 hown hK hI rfl (by decide) w6 (hm_gq_s ev13) dX5_putDots_78 ?_
              refine lv_iload hx hb dX5_putDots_81 (lv_at hl 7 rfl) ?_
              refine lv_iload hx hb dX5_putDots_83 (lv_at hl 8 rfl) ?_
              refine lv_iadd hx hb dX5_putDots_85 ?_
              refine lv_iload_n hx hb dX5_putDots_86 rfl (lv_at hl 5 rfl) ?_
              refine lv_iload hx hb dX5_putDots_87 (lv_at hl 1 rfl) ?_
              refine lv_iload hx hb dX5_putDots_89 (lv_at hl 0 rfl) ?_
              obtain ⟨v15, h14, eh14, hf⟩ := hm_b2_s hf
              refine hm_cS (As := [.int x3, .int v10, .int v12]) (rest := [.int (x5 + x6), va_rf v13]) ⟨hx, hb, hml, hown, hts⟩ hK hI (kX5_combined l D kA x3 v10 v12 h h14 v15 eh14) (va_cwS 3 hts gX5_putDots_X5_combined rfl rfl rfl (by decide +kernel) ⟨Nat.le_of_ble_eq_true rfl, Nat.le_of_ble_eq_true rfl⟩) rfl hl.1 rfl (by first | exact Nat.le_of_ble_eq_true rfl | (simp only [List.map, hm_rf_cat, hm_ci, hm_cl, List.sum_cons, List.sum_nil] <;> decide)) dX5_putDots_91 ⟨Nat.le_of_ble_eq_true rfl, Nat.le_of_ble_eq_true rfl⟩ (fun H locs hI => ?_)
              refine hm_aload_n hx hb dX5_putDots_94 rfl (lv_at hl 3 rfl) ?_
              obtain ⟨v16, ev16, hf⟩ := hm_b_s hf
              refine hm_get (ci := 3) (k := 1) (C := RX3) (T := TX3) (N := 5) hx hb hts hiX3 hown hK hI rfl (by decide) w7 (hm_gi_s ev16) dX5_putDots_95 ?_
              refine lv_iand hx hb dX5_putDots_98 ?_
              obtain ⟨h17, eh17, hf⟩ := hm_b_s hf
              refine hm_iast (kd := 0) (t0 := 0) hx hb hK hI rfl eh17 dX5_putDots_99 (fun H locs hI => ?_)
              exact B100 x0 x1 x2 x3 x4 x5 x6 h17 hf _ _ _ hI (lv_sub hl [2, 3, 4, 5, 6, 7, 8] rfl)
      intro x0 x1 x2 x3 x4 h hf H locs ls hI hl
      unfold fX5_putDots_3 at hf
      refine lv_iload hx hb dX5_putDots_3 (lv_at hl 4 rfl) ?_
      refine hm_aload_n hx hb dX5_putDots_5 rfl (lv_at hl 2 rfl) ?_
      obtain ⟨v1, ev1, hf⟩ := hm_b_s hf
      refine hm_get (ci := 0) (k := 3) (C := RX0) (T := TX0) (N := 4) hx hb hts hiX0 hown hK hI rfl (by decide) w1 (hm_gi_s ev1) dX5_putDots_6 ?_
      refine lv_icmp_ge (tgt := 112) hx hb dX5_putDots_9 (by decide) (fun c => ?_) (fun c => ?_)
      · rw [if_pos c] at hf
        exact hm_vret_e hf hx hb hr hlocks hK hI (Nat.le_of_ble_eq_true rfl) (Nat.le_of_ble_eq_true rfl) dX5_putDots_112
      · rw [if_neg c] at hf
        refine hm_aload_n hx hb dX5_putDots_12 rfl (lv_at hl 1 rfl) ?_
        refine hm_aload_n hx hb dX5_putDots_13 rfl (lv_at hl 2 rfl) ?_
        obtain ⟨v2, ev2, hf⟩ := hm_b_s hf
        refine hm_get (ci := 0) (k := 0) (C := RX0) (T := TX0) (N := 4) hx hb hts hiX0 hown hK hI rfl (by decide) w2 (hm_gl_s ev2) dX5_putDots_14 ?_
        refine hm_aload_n hx hb dX5_putDots_17 rfl (lv_at hl 2 rfl) ?_
        obtain ⟨v3, ev3, hf⟩ := hm_b_s hf
        refine hm_get (ci := 0) (k := 1) (C := RX0) (T := TX0) (N := 4) hx hb hts hiX0 hown hK hI rfl (by decide) w3 (hm_gl_s ev3) dX5_putDots_18 ?_
        refine lv_iload hx hb dX5_putDots_21 (lv_at hl 4 rfl) ?_
        refine lv_i2l (v := (x4).toInt64) hx hb dX5_putDots_23 rfl ?_
        refine lv_ladd hx hb dX5_putDots_24 ?_
        obtain ⟨b5, eb5, hf⟩ := hm_b_s hf
        obtain ⟨v6, h4, eh4, hf⟩ := hm_b2_s hf
        refine hm_cV (As := [.long v2, .long (v3 + ((x4).toInt64))]) (rest := []) ⟨hx, hb, hml, hown, hts⟩ hK hI eb5 rfl rfl (kX3_indexOf l D kA b5 v2 (v3 + ((x4).toInt64)) h h4 v6 eh4) (cwV 2 hts gX5_putDots_X3_indexOf rfl rfl rfl (by decide +kernel) ⟨Nat.le_of_ble_eq_true rfl, Nat.le_of_ble_eq_true rfl⟩) rfl hl.1 rfl (by first | exact Nat.le_of_ble_eq_true rfl | (simp only [List.map, hm_rf_cat, hm_ci, hm_cl, List.sum_cons, List.sum_nil] <;> decide)) dX5_putDots_25 ⟨Nat.le_of_ble_eq_true rfl, Nat.le_of_ble_eq_true rfl⟩ (fun H locs hI => ?_)
        refine lv_istore (lv' := [(5, .int v6), (0, va_rf x0), (1, va_rf x1), (2, va_rf x2), (3, .int x3), (4, .int x4)]) hx hb dX5_putDots_28 hl (by decide) rfl (fun ls hl => ?_)
        refine lv_iconst (v := (0 : Int32)) hx hb dX5_putDots_30 (by decide) ?_
        refine lv_istore (lv' := [(6, .int (0 : Int32)), (5, .int v6), (0, va_rf x0), (1, va_rf x1), (2, va_rf x2), (3, .int x3), (4, .int x4)]) hx hb dX5_putDots_31 hl (by decide) rfl (fun ls hl => ?_)
        exact B33 hm_fu x0 x1 x2 x3 x4 v6 (0 : Int32) h4 hf _ _ _ hI (lv_sub hl [2, 3, 4, 5, 6, 1, 0] rfl)
  rw [show entryFrame m args 9 = entryFrame m ([.ref t, va_rf a1, va_rf a2, .int a3] : List Value).toArray 9 from by rw [hargs]]
  have hl := lv_entry ([.ref t, va_rf a1, va_rf a2, .int a3]) (n := 9) (by simp only [hm_sl_q, hm_sl_i, hm_sl_l, hm_sl_r, hm_sl_n, List.length_cons, List.length_nil] <;> decide)
  rw [lg_entry_eq]
  generalize (lg_sl ([.ref t, va_rf a1, va_rf a2, .int a3]) ++ List.replicate (9 - (lg_sl ([.ref t, va_rf a1, va_rf a2, .int a3])).length) Slot.unset).toArray = ls at hl ⊢
  rw [show lv_args 0 [.ref t, va_rf a1, va_rf a2, .int a3] = [(0, va_rf (some t)), (1, va_rf a1), (2, va_rf a2), (3, .int a3)] from by simp only [hm_ar_q, hm_ar_i, hm_ar_l, hm_ar_r, hm_ar_n]] at hl
  have hl : lv_has ls 9 [(0, va_rf (some t)), (1, va_rf a1), (2, va_rf a2), (3, .int a3)] := hl
  unfold fX5_putDots at hf
  refine lv_iconst (v := (0 : Int32)) hx hb dX5_putDots_0 (by decide) ?_
  refine lv_istore (lv' := [(4, .int (0 : Int32)), (0, va_rf (some t)), (1, va_rf a1), (2, va_rf a2), (3, .int a3)]) hx hb dX5_putDots_1 hl (by decide) rfl (fun ls hl => ?_)
  exact B3 hm_fu (some t) a1 a2 a3 (0 : Int32) h0 hf _ _ _ hI (lv_sub hl [1, 2, 3, 4, 0] rfl)
/-! ==== X5_fill: BlitBoard.fill(IIIIIII)I ==== -/
def fX5_fill (t : Nat) (a1 : Int32) (a2 : Int32) (a3 : Int32) (a4 : Int32) (a5 : Int32) (a6 : Int32) (a7 : Int32) (h0 : hm_H) : Option (Int32 × hm_H) :=
  hm_b (hm_rc 5 h0 (some t)) fun b2 =>
  hm_b2 (fX5_surfaceAt b2 a1 h0) fun v3 h1 =>
  if v3 = none then
    some ((-1 : Int32), h1)
  else
    hm_b (hm_rc 3 h1 v3) fun b5 =>
    hm_b2 (fX3_fits b5 a6 h1) fun v6 h4 =>
    if v6 = 0 then
      some ((-1 : Int32), h4)
    else
      hm_b2 (fX5_isOperation a7 h4) fun v8 h7 =>
      if v8 = 0 then
        some ((-1 : Int32), h7)
      else
        hm_b2 (fX5_isSide a4 h7) fun v10 h9 =>
        if v10 = 0 then
          some ((-1 : Int32), h9)
        else
          hm_b2 (fX5_isSide a5 h9) fun v12 h11 =>
          if v12 = 0 then
            some ((-1 : Int32), h11)
          else
            hm_b (hm_gq 3 4 h11 v3) fun v13 =>
            hm_let (hm_n h11 (.inr (0, [.long 0, .long 0, .int 0, .int 0]))) fun h14 =>
            hm_b (fX0_init h11.2 ((a2).toInt64) ((a3).toInt64) a4 a5 h14) fun h15 =>
            hm_b (hm_rc 0 h15 v13) fun b17 =>
            hm_b2 (fX0_shared b17 (some h11.2) h15) fun v18 h16 =>
            hm_b (hm_gq 5 4 h16 (some t)) fun v19 =>
            hm_b (hm_rc 0 h16 v18) fun b21 =>
            hm_b2 (fX0_size b21 h16) fun v22 h20 =>
            hm_b (fJ7_fill_fda19 v19 (0 : Int32) v22 a6 h20) fun h23 =>
            hm_b (hm_rc 5 h23 (some t)) fun b25 =>
            hm_b (fX5_putDots b25 v3 v18 a7 h23) fun h24 =>
            hm_b (hm_rc 0 h24 v18) fun b27 =>
            hm_b2 (fX0_size b27 h24) fun v28 h26 =>
            some (v28, h26)
set_option maxRecDepth 100000 in
set_option maxHeartbeats 8000000 in
theorem kX5_fill (l : Launch) (D : va_G) (kA : Nat → ClassId) (t : Nat) (a1 : Int32) (a2 : Int32) (a3 : Int32) (a4 : Int32) (a5 : Int32) (a6 : Int32) (a7 : Int32) (h0 h' : hm_H) (r : Int32) (hf : fX5_fill t a1 a2 a3 a4 a5 a6 a7 h0 = some (r, h')) : hm_C l yX5_fill wsX5_fill { frames := 3, cells := 2, slots := 8, locals := 75 } D vwCl kA (hm_ty kA) [.ref t, .int a1, .int a2, .int a3, .int a4, .int a5, .int a6, .int a7] h0 (some (.int r)) h' 2 8 := by
  refine Met.ofW (cc := cX5_fill) (maxL := 10) (ret := (some .int)) (by decide) rfl ?_
  intro p e s m args below meth c s₁ B hml hv
  obtain ⟨hargs, hB⟩ := hv
  have hx := B.exec
  have hb := B.bytes
  have hr := B.returns
  have hts := atoms_spec (ws := wsX5_fill) B.pre
  have hown : s.vm.findClass RX5 = some m.cls := findClass_of_methodNamed B.named
  have hlocks := B.notSynchronized
  have hK := hB.2
  have hI := hm_start hB
  have w1 := hts (.fieldLink RX5 58 "BlitBoard$Surface" "clip" "LBlitBoard$Area;") (by decide +kernel)
  have w2 := hts (.classLink RX5 49 RX0) (by decide +kernel)
  have w3 := hts (.instantiable RX0 4) (by decide +kernel)
  have w4 := hts (.initialized RX0) (by decide +kernel)
  have w5 := hts (.methodLink RX5 51 yX0_init) (by decide +kernel)
  have w6 := hts (.instanceMethod yX0_init) (by decide +kernel)
  have w7 := hts (.fieldLink RX5 30 "BlitBoard" "taken" "[I") (by decide +kernel)
  have hiX3 : ∀ w ∈ wsX30, w ∈ wsX5_fill := by decide +kernel
  have hiX0 : ∀ w ∈ wsX00, w ∈ wsX5_fill := by decide +kernel
  have hiX5 : ∀ w ∈ wsX50, w ∈ wsX5_fill := by decide +kernel
  rw [show entryFrame m args 10 = entryFrame m ([.ref t, .int a1, .int a2, .int a3, .int a4, .int a5, .int a6, .int a7] : List Value).toArray 10 from by rw [hargs]]
  have hl := lv_entry ([.ref t, .int a1, .int a2, .int a3, .int a4, .int a5, .int a6, .int a7]) (n := 10) (Nat.le_of_ble_eq_true rfl)
  rw [lg_entry_eq]
  generalize (lg_sl ([.ref t, .int a1, .int a2, .int a3, .int a4, .int a5, .int a6, .int a7]) ++ List.replicate (10 - (lg_sl ([.ref t, .int a1, .int a2, .int a3, .int a4, .int a5, .int a6, .int a7])).length) Slot.unset).toArray = ls at hl ⊢
  have hl : lv_has ls 10 [(0, va_rf (some t)), (1, .int a1), (2, .int a2), (3, .int a3), (4, .int a4), (5, .int a5), (6, .int a6), (7, .int a7)] := hl
  unfold fX5_fill at hf
  refine hm_aload_n hx hb dX5_fill_0 rfl (lv_at hl 0 rfl) ?_
  refine lv_iload_n hx hb dX5_fill_1 rfl (lv_at hl 1 rfl) ?_
  obtain ⟨b2, eb2, hf⟩ := hm_b_s hf
  obtain ⟨v3, h1, eh1, hf⟩ := hm_b2_s hf
  refine hm_cV (As := [.int a1]) (rest := []) ⟨hx, hb, hml, hown, hts⟩ hK hI eb2 rfl rfl (kX5_surfaceAt l D kA b2 a1 h0 h1 v3 eh1) (cwV 1 hts gX5_fill_X5_surfaceAt rfl rfl rfl (by decide +kernel) ⟨Nat.le_of_ble_eq_true rfl, Nat.le_of_ble_eq_true rfl⟩) rfl hl.1 rfl (by first | exact Nat.le_of_ble_eq_true rfl | (simp only [List.map, hm_rf_cat, hm_ci, hm_cl, List.sum_cons, List.sum_nil] <;> decide)) dX5_fill_2 ⟨Nat.le_of_ble_eq_true rfl, Nat.le_of_ble_eq_true rfl⟩ (fun H locs hI => ?_)
  refine hm_astore (lv' := [(8, va_rf v3), (0, va_rf (some t)), (1, .int a1), (2, .int a2), (3, .int a3), (4, .int a4), (5, .int a5), (6, .int a6), (7, .int a7)]) hx hb dX5_fill_5 hl (by decide) rfl (fun ls hl => ?_)
  refine hm_aload hx hb dX5_fill_7 (lv_at hl 0 rfl) ?_
  refine hm_ifnull (tgt := 46) hx hb dX5_fill_9 (by decide) (fun c => ?_) (fun c => ?_)
  · rw [if_pos c] at hf
    refine lv_iconst (v := (-1 : Int32)) hx hb dX5_fill_46 (by decide) ?_
    exact hm_iret_e hf hx hb hr hlocks hK hI (Nat.le_of_ble_eq_true rfl) (Nat.le_of_ble_eq_true rfl) dX5_fill_47
  · rw [if_neg c] at hf
    refine hm_aload hx hb dX5_fill_12 (lv_at hl 0 rfl) ?_
    refine lv_iload hx hb dX5_fill_14 (lv_at hl 7 rfl) ?_
    obtain ⟨b5, eb5, hf⟩ := hm_b_s hf
    obtain ⟨v6, h4, eh4, hf⟩ := hm_b2_s hf
    refine hm_cV (As := [.int a6]) (rest := []) ⟨hx, hb, hml, hown, hts⟩ hK hI eb5 rfl rfl (kX3_fits l D kA b5 a6 h1 h4 v6 eh4) (cwV 1 hts gX5_fill_X3_fits rfl rfl rfl (by decide +kernel) ⟨Nat.le_of_ble_eq_true rfl, Nat.le_of_ble_eq_true rfl⟩) rfl hl.1 rfl (by first | exact Nat.le_of_ble_eq_true rfl | (simp only [List.map, hm_rf_cat, hm_ci, hm_cl, List.sum_cons, List.sum_nil] <;> decide)) dX5_fill_16 ⟨Nat.le_of_ble_eq_true rfl, Nat.le_of_ble_eq_true rfl⟩ (fun H locs hI => ?_)
    refine lv_if_eq (tgt := 46) hx hb dX5_fill_19 (by decide) (fun c => ?_) (fun c => ?_)
    · rw [if_pos c] at hf
      refine lv_iconst (v := (-1 : Int32)) hx hb dX5_fill_46 (by decide) ?_
      exact hm_iret_e hf hx hb hr hlocks hK hI (Nat.le_of_ble_eq_true rfl) (Nat.le_of_ble_eq_true rfl) dX5_fill_47
    · rw [if_neg c] at hf
      refine lv_iload hx hb dX5_fill_22 (lv_at hl 8 rfl) ?_
      obtain ⟨v8, h7, eh7, hf⟩ := hm_b2_s hf
      refine hm_cS (As := [.int a7]) (rest := []) ⟨hx, hb, hml, hown, hts⟩ hK hI (kX5_isOperation l D kA a7 h4 h7 v8 eh7) (va_cwS 1 hts gX5_fill_X5_isOperation rfl rfl rfl (by decide +kernel) ⟨Nat.le_of_ble_eq_true rfl, Nat.le_of_ble_eq_true rfl⟩) rfl hl.1 rfl (by first | exact Nat.le_of_ble_eq_true rfl | (simp only [List.map, hm_rf_cat, hm_ci, hm_cl, List.sum_cons, List.sum_nil] <;> decide)) dX5_fill_24 ⟨Nat.le_of_ble_eq_true rfl, Nat.le_of_ble_eq_true rfl⟩ (fun H locs hI => ?_)
      refine lv_if_eq (tgt := 46) hx hb dX5_fill_27 (by decide) (fun c => ?_) (fun c => ?_)
      · rw [if_pos c] at hf
        refine lv_iconst (v := (-1 : Int32)) hx hb dX5_fill_46 (by decide) ?_
        exact hm_iret_e hf hx hb hr hlocks hK hI (Nat.le_of_ble_eq_true rfl) (Nat.le_of_ble_eq_true rfl) dX5_fill_47
      · rw [if_neg c] at hf
        refine lv_iload hx hb dX5_fill_30 (lv_at hl 5 rfl) ?_
        obtain ⟨v10, h9, eh9, hf⟩ := hm_b2_s hf
        refine hm_cS (As := [.int a4]) (rest := []) ⟨hx, hb, hml, hown, hts⟩ hK hI (kX5_isSide l D kA a4 h7 h9 v10 eh9) (va_cwS 1 hts gX5_fill_X5_isSide rfl rfl rfl (by decide +kernel) ⟨Nat.le_of_ble_eq_true rfl, Nat.le_of_ble_eq_true rfl⟩) rfl hl.1 rfl (by first | exact Nat.le_of_ble_eq_true rfl | (simp only [List.map, hm_rf_cat, hm_ci, hm_cl, List.sum_cons, List.sum_nil] <;> decide)) dX5_fill_32 ⟨Nat.le_of_ble_eq_true rfl, Nat.le_of_ble_eq_true rfl⟩ (fun H locs hI => ?_)
        refine lv_if_eq (tgt := 46) hx hb dX5_fill_35 (by decide) (fun c => ?_) (fun c => ?_)
        · rw [if_pos c] at hf
          refine lv_iconst (v := (-1 : Int32)) hx hb dX5_fill_46 (by decide) ?_
          exact hm_iret_e hf hx hb hr hlocks hK hI (Nat.le_of_ble_eq_true rfl) (Nat.le_of_ble_eq_true rfl) dX5_fill_47
        · rw [if_neg c] at hf
          refine lv_iload hx hb dX5_fill_38 (lv_at hl 6 rfl) ?_
          obtain ⟨v12, h11, eh11, hf⟩ := hm_b2_s hf
          refine hm_cS (As := [.int a5]) (rest := []) ⟨hx, hb, hml, hown, hts⟩ hK hI (kX5_isSide l D kA a5 h9 h11 v12 eh11) (va_cwS 1 hts gX5_fill_X5_isSide rfl rfl rfl (by decide +kernel) ⟨Nat.le_of_ble_eq_true rfl, Nat.le_of_ble_eq_true rfl⟩) rfl hl.1 rfl (by first | exact Nat.le_of_ble_eq_true rfl | (simp only [List.map, hm_rf_cat, hm_ci, hm_cl, List.sum_cons, List.sum_nil] <;> decide)) dX5_fill_40 ⟨Nat.le_of_ble_eq_true rfl, Nat.le_of_ble_eq_true rfl⟩ (fun H locs hI => ?_)
          refine lv_if_ne (tgt := 48) hx hb dX5_fill_43 (by decide) (fun c => ?_) (fun c => ?_)
          · rw [if_neg c] at hf
            refine hm_aload hx hb dX5_fill_48 (lv_at hl 0 rfl) ?_
            obtain ⟨v13, ev13, hf⟩ := hm_b_s hf
            refine hm_get (ci := 3) (k := 4) (C := RX3) (T := TX3) (N := 5) hx hb hts hiX3 hown hK hI rfl (by decide) w1 (hm_gq_s ev13) dX5_fill_50 ?_
            obtain ⟨h14, eh14, hf⟩ := hm_let_s hf
            refine hm_new (ci := 0) (fs := [.long 0, .long 0, .int 0, .int 0]) (C := RX0) (T := TX0) (N := 4) hx hb hts hiX0 tyX0 tyX0_ok hown w2 w3 w4 hK hI rfl (fun j hj => by rcases (show j = 0 ∨ j = 1 ∨ j = 2 ∨ j = 3 by omega) with rfl | rfl | rfl | rfl <;> rfl) (Nat.le_of_ble_eq_true rfl) (Nat.le_of_ble_eq_true rfl) dX5_fill_53 (fun H hI => ?_)
            rw [← eh14] at hI
            refine W.cs (cells' := 1) (slots' := 4) rfl rfl ?_
            refine lv_dup hx hb dX5_fill_56 (hm_rf_cat _) ?_
            refine lv_iload_n hx hb dX5_fill_57 rfl (lv_at hl 3 rfl) ?_
            refine lv_i2l (v := (a2).toInt64) hx hb dX5_fill_58 rfl ?_
            refine lv_iload_n hx hb dX5_fill_59 rfl (lv_at hl 4 rfl) ?_
            refine lv_i2l (v := (a3).toInt64) hx hb dX5_fill_60 rfl ?_
            refine lv_iload hx hb dX5_fill_61 (lv_at hl 5 rfl) ?_
            refine lv_iload hx hb dX5_fill_63 (lv_at hl 6 rfl) ?_
            obtain ⟨h15, eh15, hf⟩ := hm_b_s hf
            refine hm_cI (As := [.long ((a2).toInt64), .long ((a3).toInt64), .int a4, .int a5]) (rest := [va_rf (some h11.2), va_rf v13]) ⟨hx, hb, hml, hown, hts⟩ hK hI (kX0_init l D kA h11.2 ((a2).toInt64) ((a3).toInt64) a4 a5 h14 h15 eh15) (cwI 4 hts gX5_fill_X0_init rfl rfl rfl w4 w5 w6 rfl (by decide +kernel) ⟨Nat.le_of_ble_eq_true rfl, Nat.le_of_ble_eq_true rfl⟩) rfl hl.1 rfl (by first | exact Nat.le_of_ble_eq_true rfl | (simp only [List.map, hm_rf_cat, hm_ci, hm_cl, List.sum_cons, List.sum_nil] <;> decide)) dX5_fill_65 ⟨Nat.le_of_ble_eq_true rfl, Nat.le_of_ble_eq_true rfl⟩ (fun H locs hI => ?_)
            refine W.eq (g2 := F0 m 68 ls [va_rf (some h11.2), va_rf v13]) rfl ?_
            obtain ⟨b17, eb17, hf⟩ := hm_b_s hf
            obtain ⟨v18, h16, eh16, hf⟩ := hm_b2_s hf
            refine hm_cV (As := [va_rf (some h11.2)]) (rest := []) ⟨hx, hb, hml, hown, hts⟩ hK hI eb17 rfl rfl (kX0_shared l D kA b17 (some h11.2) h15 h16 v18 eh16) (cwV 1 hts gX5_fill_X0_shared rfl rfl rfl (by decide +kernel) ⟨Nat.le_of_ble_eq_true rfl, Nat.le_of_ble_eq_true rfl⟩) rfl hl.1 rfl (by first | exact Nat.le_of_ble_eq_true rfl | (simp only [List.map, hm_rf_cat, hm_ci, hm_cl, List.sum_cons, List.sum_nil] <;> decide)) dX5_fill_68 ⟨Nat.le_of_ble_eq_true rfl, Nat.le_of_ble_eq_true rfl⟩ (fun H locs hI => ?_)
            refine W.cs (cells' := 2) (slots' := 8) rfl rfl ?_
            refine hm_astore (lv' := [(9, va_rf v18), (8, va_rf v3), (0, va_rf (some t)), (1, .int a1), (2, .int a2), (3, .int a3), (4, .int a4), (5, .int a5), (6, .int a6), (7, .int a7)]) hx hb dX5_fill_71 hl (by decide) (by simp only [List.filter, hm_cat2, Bool.and_false, Bool.not_false] <;> rfl) (fun ls hl => ?_)
            refine hm_aload_n hx hb dX5_fill_73 rfl (lv_at hl 2 rfl) ?_
            obtain ⟨v19, ev19, hf⟩ := hm_b_s hf
            refine hm_get (ci := 5) (k := 4) (C := RX5) (T := TX5) (N := 5) hx hb hts hiX5 hown hK hI rfl (by decide) w7 (hm_gq_s ev19) dX5_fill_74 ?_
            refine lv_iconst (v := (0 : Int32)) hx hb dX5_fill_77 (by decide) ?_
            refine hm_aload hx hb dX5_fill_78 (lv_at hl 0 rfl) ?_
            obtain ⟨b21, eb21, hf⟩ := hm_b_s hf
            obtain ⟨v22, h20, eh20, hf⟩ := hm_b2_s hf
            refine hm_cV (As := []) (rest := [.int (0 : Int32), va_rf v19]) ⟨hx, hb, hml, hown, hts⟩ hK hI eb21 rfl rfl (kX0_size l D kA b21 h16 h20 v22 eh20) (cwV 0 hts gX5_fill_X0_size rfl rfl rfl (by decide +kernel) ⟨Nat.le_of_ble_eq_true rfl, Nat.le_of_ble_eq_true rfl⟩) rfl hl.1 rfl (by first | exact Nat.le_of_ble_eq_true rfl | (simp only [List.map, hm_rf_cat, hm_ci, hm_cl, List.sum_cons, List.sum_nil] <;> decide)) dX5_fill_80 ⟨Nat.le_of_ble_eq_true rfl, Nat.le_of_ble_eq_true rfl⟩ (fun H locs hI => ?_)
            refine lv_iload hx hb dX5_fill_83 (lv_at hl 8 rfl) ?_
            obtain ⟨h23, eh23, hf⟩ := hm_b_s hf
            refine hm_cS (As := [va_rf v19, .int (0 : Int32), .int v22, .int a6]) (rest := []) ⟨hx, hb, hml, hown, hts⟩ hK hI (kJ7_fill_fda19 l D kA v19 (0 : Int32) v22 a6 h20 h23 eh23) (va_cwS 4 hts gX5_fill_J7_fill_fda19 rfl rfl rfl (by decide +kernel) ⟨Nat.le_of_ble_eq_true rfl, Nat.le_of_ble_eq_true rfl⟩) rfl hl.1 rfl (by first | exact Nat.le_of_ble_eq_true rfl | (simp only [List.map, hm_rf_cat, hm_ci, hm_cl, List.sum_cons, List.sum_nil] <;> decide)) dX5_fill_85 ⟨Nat.le_of_ble_eq_true rfl, Nat.le_of_ble_eq_true rfl⟩ (fun H locs hI => ?_)
            refine W.eq (g2 := F0 m 88 ls []) rfl ?_
            refine hm_aload_n hx hb dX5_fill_88 rfl (lv_at hl 2 rfl) ?_
            refine hm_aload hx hb dX5_fill_89 (lv_at hl 1 rfl) ?_
            refine hm_aload hx hb dX5_fill_91 (lv_at hl 0 rfl) ?_
            refine lv_iload hx hb dX5_fill_93 (lv_at hl 9 rfl) ?_
            obtain ⟨b25, eb25, hf⟩ := hm_b_s hf
            obtain ⟨h24, eh24, hf⟩ := hm_b_s hf
            refine hm_cV (As := [va_rf v3, va_rf v18, .int a7]) (rest := []) ⟨hx, hb, hml, hown, hts⟩ hK hI eb25 rfl rfl (kX5_putDots l D kA b25 v3 v18 a7 h23 h24 eh24) (cwV 3 hts gX5_fill_X5_putDots rfl rfl rfl (by decide +kernel) ⟨Nat.le_of_ble_eq_true rfl, Nat.le_of_ble_eq_true rfl⟩) rfl hl.1 rfl (by first | exact Nat.le_of_ble_eq_true rfl | (simp only [List.map, hm_rf_cat, hm_ci, hm_cl, List.sum_cons, List.sum_nil] <;> decide)) dX5_fill_95 ⟨Nat.le_of_ble_eq_true rfl, Nat.le_of_ble_eq_true rfl⟩ (fun H locs hI => ?_)
            refine W.eq (g2 := F0 m 98 ls []) rfl ?_
            refine hm_aload hx hb dX5_fill_98 (lv_at hl 0 rfl) ?_
            obtain ⟨b27, eb27, hf⟩ := hm_b_s hf
            obtain ⟨v28, h26, eh26, hf⟩ := hm_b2_s hf
            refine hm_cV (As := []) (rest := []) ⟨hx, hb, hml, hown, hts⟩ hK hI eb27 rfl rfl (kX0_size l D kA b27 h24 h26 v28 eh26) (cwV 0 hts gX5_fill_X0_size rfl rfl rfl (by decide +kernel) ⟨Nat.le_of_ble_eq_true rfl, Nat.le_of_ble_eq_true rfl⟩) rfl hl.1 rfl (by first | exact Nat.le_of_ble_eq_true rfl | (simp only [List.map, hm_rf_cat, hm_ci, hm_cl, List.sum_cons, List.sum_nil] <;> decide)) dX5_fill_100 ⟨Nat.le_of_ble_eq_true rfl, Nat.le_of_ble_eq_true rfl⟩ (fun H locs hI => ?_)
            exact hm_iret_e hf hx hb hr hlocks hK hI (Nat.le_of_ble_eq_true rfl) (Nat.le_of_ble_eq_true rfl) dX5_fill_103
          · rw [if_pos c] at hf
            refine lv_iconst (v := (-1 : Int32)) hx hb dX5_fill_46 (by decide) ?_
            exact hm_iret_e hf hx hb hr hlocks hK hI (Nat.le_of_ble_eq_true rfl) (Nat.le_of_ble_eq_true rfl) dX5_fill_47
