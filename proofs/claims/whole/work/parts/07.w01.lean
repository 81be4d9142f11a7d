/-! ==== X0_init: BlitBoard$Area.<init>(JJII)V ==== -/
def fX0_init (t : Nat) (a1 : Int64) (a2 : Int64) (a3 : Int32) (a4 : Int32) (h0 : hm_H) : Option hm_H :=
  hm_b (hm_p 0 0 (.long a1) h0 (some t)) fun h1 =>
  hm_b (hm_p 0 1 (.long a2) h1 (some t)) fun h2 =>
  hm_b (hm_p 0 2 (.int a3) h2 (some t)) fun h3 =>
  hm_b (hm_p 0 3 (.int a4) h3 (some t)) fun h4 =>
  some h4
set_option maxRecDepth 100000 in
set_option maxHeartbeats 8000000 in
theorem kX0_init (l : Launch) (D : va_G) (kA : Nat → ClassId) (t : Nat) (a1 : Int64) (a2 : Int64) (a3 : Int32) (a4 : Int32) (h0 h' : hm_H) (hf : fX0_init t a1 a2 a3 a4 h0 = some h') : hm_C l yX0_init wsX0_init { frames := 1, cells := 0, slots := 0, locals := 20 } D vwCl kA (hm_ty kA) [.ref t, .long a1, .long a2, .int a3, .int a4] h0 none h' 0 0 := by
  refine Met.ofW (cc := cX0_init) (maxL := 7) (ret := none) (by decide) rfl ?_
  intro p e s m args below meth c s₁ B hml hv
  obtain ⟨hargs, hB⟩ := hv
  have hx := B.exec
  have hb := B.bytes
  have hr := B.returns
  have hts := atoms_spec (ws := wsX0_init) B.pre
  have hown : s.vm.findClass RX0 = some m.cls := findClass_of_methodNamed B.named
  have hlocks := B.notSynchronized
  have hin : meth.name = "<init>" := (name_of_methodNamed B.named B.method).1
  have hK := hB.2
  have hI := hm_start hB
  have w1 := hts (.methodLink RX0 1 objectInit) (by decide +kernel)
  have w2 := hts (.instanceMethod objectInit) (by decide +kernel)
  have w3 := hts (.code objectInit ⟨#[0xb1]⟩ 1 none) (by decide +kernel)
  have w4 := hts (.fieldLink RX0 7 "BlitBoard$Area" "left" "J") (by decide +kernel)
  have w5 := hts (.fieldLink RX0 13 "BlitBoard$Area" "top" "J") (by decide +kernel)
  have w6 := hts (.fieldLink RX0 16 "BlitBoard$Area" "wide" "I") (by decide +kernel)
  have w7 := hts (.fieldLink RX0 20 "BlitBoard$Area" "high" "I") (by decide +kernel)
  have hiX0 : ∀ w ∈ wsX00, w ∈ wsX0_init := by decide +kernel
  rw [show entryFrame m args 7 = entryFrame m ([.ref t, .long a1, .long a2, .int a3, .int a4] : List Value).toArray 7 from by rw [hargs]]
  have hl := lv_entry ([.ref t, .long a1, .long a2, .int a3, .int a4]) (n := 7) (Nat.le_of_ble_eq_true rfl)
  rw [lg_entry_eq]
  generalize (lg_sl ([.ref t, .long a1, .long a2, .int a3, .int a4]) ++ List.replicate (7 - (lg_sl ([.ref t, .long a1, .long a2, .int a3, .int a4])).length) Slot.unset).toArray = ls at hl ⊢
  have hl : lv_has ls 7 [(0, va_rf (some t)), (1, .long a1), (3, .long a2), (5, .int a3), (6, .int a4)] := hl
  unfold fX0_init at hf
  refine hm_aload_n hx hb dX0_init_0 rfl (lv_at hl 0 rfl) ?_
  refine W.objInit hx hb hown w1 w2 w3 rfl (by rw [hml]; exact hl.1) rfl dX0_init_1 (Nat.le_of_ble_eq_true rfl) (Nat.le_of_ble_eq_true rfl) ?_
  refine W.eq (g2 := F0 m 4 ls []) rfl ?_
  refine hm_aload_n hx hb dX0_init_4 rfl (lv_at hl 0 rfl) ?_
  refine lv_lload_n hx hb dX0_init_5 rfl (lv_at hl 1 rfl) ?_
  obtain ⟨h1, eh1, hf⟩ := hm_b_s hf
  refine hm_putF (ci := 0) (k := 0) (C := RX0) (T := TX0) (N := 4) hx hb hts hiX0 tyX0 tyX0_ok nmX0 hown hK hI rfl (by decide) w4 rfl hin rfl eh1 rfl rfl dX0_init_6 (fun H locs hI => ?_)
  refine hm_aload_n hx hb dX0_init_9 rfl (lv_at hl 0 rfl) ?_
  refine lv_lload_n hx hb dX0_init_10 rfl (lv_at hl 2 rfl) ?_
  obtain ⟨h2, eh2, hf⟩ := hm_b_s hf
  refine hm_putF (ci := 0) (k := 1) (C := RX0) (T := TX0) (N := 4) hx hb hts hiX0 tyX0 tyX0_ok nmX0 hown hK hI rfl (by decide) w5 rfl hin rfl eh2 rfl rfl dX0_init_11 (fun H locs hI => ?_)
  refine hm_aload_n hx hb dX0_init_14 rfl (lv_at hl 0 rfl) ?_
  refine lv_iload hx hb dX0_init_15 (lv_at hl 3 rfl) ?_
  obtain ⟨h3, eh3, hf⟩ := hm_b_s hf
  refine hm_putF (ci := 0) (k := 2) (C := RX0) (T := TX0) (N := 4) hx hb hts hiX0 tyX0 tyX0_ok nmX0 hown hK hI rfl (by decide) w6 rfl hin rfl eh3 rfl rfl dX0_init_17 (fun H locs hI => ?_)
  refine hm_aload_n hx hb dX0_init_20 rfl (lv_at hl 0 rfl) ?_
  refine lv_iload hx hb dX0_init_21 (lv_at hl 4 rfl) ?_
  obtain ⟨h4, eh4, hf⟩ := hm_b_s hf
  refine hm_putF (ci := 0) (k := 3) (C := RX0) (T := TX0) (N := 4) hx hb hts hiX0 tyX0 tyX0_ok nmX0 hown hK hI rfl (by decide) w7 rfl hin rfl eh4 rfl rfl dX0_init_23 (fun H locs hI => ?_)
  exact hm_vret_e hf hx hb hr hlocks hK hI (Nat.le_of_ble_eq_true rfl) (Nat.le_of_ble_eq_true rfl) dX0_init_26
/-! ==== X0_size: BlitBoard$Area.size()I ==== -/
def fX0_size (t : Nat) (h0 : hm_H) : Option (Int32 × hm_H) :=
  hm_b (hm_gi 0 2 h0 (some t)) fun v1 =>
  hm_b (hm_gi 0 3 h0 (some t)) fun v2 =>
  some (v1 * v2, h0)
set_option maxRecDepth 100000 in
set_option maxHeartbeats 8000000 in
theorem kX0_size (l : Launch) (D : va_G) (kA : Nat → ClassId) (t : Nat) (h0 h' : hm_H) (r : Int32) (hf : fX0_size t h0 = some (r, h')) : hm_C l yX0_size wsX0_size { frames := 0, cells := 0, slots := 0, locals := 0 } D vwCl kA (hm_ty kA) [.ref t] h0 (some (.int r)) h' 0 0 := by
  refine Met.ofW (cc := cX0_size) (maxL := 1) (ret := (some .int)) (by decide) rfl ?_
  intro p e s m args below meth c s₁ B hml hv
  obtain ⟨hargs, hB⟩ := hv
  have hx := B.exec
  have hb := B.bytes
  have hr := B.returns
  have hts := atoms_spec (ws := wsX0_size) B.pre
  have hown : s.vm.findClass RX0 = some m.cls := findClass_of_methodNamed B.named
  have hlocks := B.notSynchronized
  have hK := hB.2
  have hI := hm_start hB
  have w1 := hts (.fieldLink RX0 16 "BlitBoard$Area" "wide" "I") (by decide +kernel)
  have w2 := hts (.fieldLink RX0 20 "BlitBoard$Area" "high" "I") (by decide +kernel)
  have hiX0 : ∀ w ∈ wsX00, w ∈ wsX0_size := by decide +kernel
  rw [show entryFrame m args 1 = entryFrame m ([.ref t] : List Value).toArray 1 from by rw [hargs]]
  have hl := lv_entry ([.ref t]) (n := 1) (Nat.le_of_ble_eq_true rfl)
  rw [lg_entry_eq]
  generalize (lg_sl ([.ref t]) ++ List.replicate (1 - (lg_sl ([.ref t])).length) Slot.unset).toArray = ls at hl ⊢
  have hl : lv_has ls 1 [(0, va_rf (some t))] := hl
  unfold fX0_size at hf
  refine hm_aload_n hx hb dX0_size_0 rfl (lv_at hl 0 rfl) ?_
  obtain ⟨v1, ev1, hf⟩ := hm_b_s hf
  refine hm_get (ci := 0) (k := 2) (C := RX0) (T := TX0) (N := 4) hx hb hts hiX0 hown hK hI rfl (by decide) w1 (hm_gi_s ev1) dX0_size_1 ?_
  refine hm_aload_n hx hb dX0_size_4 rfl (lv_at hl 0 rfl) ?_
  obtain ⟨v2, ev2, hf⟩ := hm_b_s hf
  refine hm_get (ci := 0) (k := 3) (C := RX0) (T := TX0) (N := 4) hx hb hts hiX0 hown hK hI rfl (by decide) w2 (hm_gi_s ev2) dX0_size_5 ?_
  refine lv_imul hx hb dX0_size_8 ?_
  exact hm_iret_e hf hx hb hr hlocks hK hI (Nat.le_of_ble_eq_true rfl) (Nat.le_of_ble_eq_true rfl) dX0_size_9
/-! ==== X0_holds: BlitBoard$Area.holds(JJ)Z ==== -/
def fX0_holds (t : Nat) (a1 : Int64) (a2 : Int64) (h0 : hm_H) : Option (Int32 × hm_H) :=
  hm_b (hm_gl 0 0 h0 (some t)) fun v1 =>
  if (lg_cmp a1 v1) < 0 then
    some ((0 : Int32), h0)
  else
    hm_b (hm_gl 0 0 h0 (some t)) fun v2 =>
    hm_b (hm_gi 0 2 h0 (some t)) fun v3 =>
    if 0 ≤ (lg_cmp a1 (v2 + ((v3).toInt64))) then
      some ((0 : Int32), h0)
    else
      hm_b (hm_gl 0 1 h0 (some t)) fun v4 =>
      if (lg_cmp a2 v4) < 0 then
        some ((0 : Int32), h0)
      else
        hm_b (hm_gl 0 1 h0 (some t)) fun v5 =>
        hm_b (hm_gi 0 3 h0 (some t)) fun v6 =>
        if 0 ≤ (lg_cmp a2 (v5 + ((v6).toInt64))) then
          some ((0 : Int32), h0)
        else
          some ((1 : Int32), h0)
set_option maxRecDepth 100000 in
set_option maxHeartbeats 8000000 in
theorem kX0_holds (l : Launch) (D : va_G) (kA : Nat → ClassId) (t : Nat) (a1 : Int64) (a2 : Int64) (h0 h' : hm_H) (r : Int32) (hf : fX0_holds t a1 a2 h0 = some (r, h')) : hm_C l yX0_holds wsX0_holds { frames := 0, cells := 0, slots := 0, locals := 0 } D vwCl kA (hm_ty kA) [.ref t, .long a1, .long a2] h0 (some (.int r)) h' 0 0 := by
  refine Met.ofW (cc := cX0_holds) (maxL := 5) (ret := (some .boolean)) (by decide) rfl ?_
  intro p e s m args below meth c s₁ B hml hv
  obtain ⟨hargs, hB⟩ := hv
  have hx := B.exec
  have hb := B.bytes
  have hr := B.returns
  have hts := atoms_spec (ws := wsX0_holds) B.pre
  have hown : s.vm.findClass RX0 = some m.cls := findClass_of_methodNamed B.named
  have hlocks := B.notSynchronized
  have hK := hB.2
  have hI := hm_start hB
  have w1 := hts (.fieldLink RX0 7 "BlitBoard$Area" "left" "J") (by decide +kernel)
  have w2 := hts (.fieldLink RX0 16 "BlitBoard$Area" "wide" "I") (by decide +kernel)
  have w3 := hts (.fieldLink RX0 13 "BlitBoard$Area" "top" "J") (by decide +kernel)
  have w4 := hts (.fieldLink RX0 20 "BlitBoard$Area" "high" "I") (by decide +kernel)
  have hiX0 : ∀ w ∈ wsX00, w ∈ wsX0_holds := by decide +kernel
  rw [show entryFrame m args 5 = entryFrame m ([.ref t, .long a1, .long a2] : List Value).toArray 5 from by rw [hargs]]
  have hl := lv_entry ([.ref t, .long a1, .long a2]) (n := 5) (Nat.le_of_ble_eq_true rfl)
  rw [lg_entry_eq]
  generalize (lg_sl ([.ref t, .long a1, .long a2]) ++ List.replicate (5 - (lg_sl ([.ref t, .long a1, .long a2])).length) Slot.unset).toArray = ls at hl ⊢
  have hl : lv_has ls 5 [(0, va_rf (some t)), (1, .long a1), (3, .long a2)] := hl
  unfold fX0_holds at hf
  refine lv_lload_n hx hb dX0_holds_0 rfl (lv_at hl 1 rfl) ?_
  refine hm_aload_n hx hb dX0_holds_1 rfl (lv_at hl 0 rfl) ?_
  obtain ⟨v1, ev1, hf⟩ := hm_b_s hf
  refine hm_get (ci := 0) (k := 0) (C := RX0) (T := TX0) (N := 4) hx hb hts hiX0 hown hK hI rfl (by decide) w1 (hm_gl_s ev1) dX0_holds_2 ?_
  refine W.lcmp hx hb dX0_holds_5 ?_
  refine lv_if_lt (tgt := 52) hx hb dX0_holds_6 (by decide) (fun c => ?_) (fun c => ?_)
  · rw [if_pos c] at hf
    refine lv_iconst (v := (0 : Int32)) hx hb dX0_holds_52 (by decide) ?_
    exact hm_zret_e hf hx hb hr hlocks hK hI (Nat.le_of_ble_eq_true rfl) (Nat.le_of_ble_eq_true rfl) rfl dX0_holds_53
  · rw [if_neg c] at hf
    refine lv_lload_n hx hb dX0_holds_9 rfl (lv_at hl 1 rfl) ?_
    refine hm_aload_n hx hb dX0_holds_10 rfl (lv_at hl 0 rfl) ?_
    obtain ⟨v2, ev2, hf⟩ := hm_b_s hf
    refine hm_get (ci := 0) (k := 0) (C := RX0) (T := TX0) (N := 4) hx hb hts hiX0 hown hK hI rfl (by decide) w1 (hm_gl_s ev2) dX0_holds_11 ?_
    refine hm_aload_n hx hb dX0_holds_14 rfl (lv_at hl 0 rfl) ?_
    obtain ⟨v3, ev3, hf⟩ := hm_b_s hf
    refine hm_get (ci := 0) (k := 2) (C := RX0) (T := TX0) (N := 4) hx hb hts hiX0 hown hK hI rfl (by decide) w2 (hm_gi_s ev3) dX0_holds_15 ?_
    refine lv_i2l (v := (v3).toInt64) hx hb dX0_holds_18 rfl ?_
    refine lv_ladd hx hb dX0_holds_19 ?_
    refine W.lcmp hx hb dX0_holds_20 ?_
    refine lv_if_ge (tgt := 52) hx hb dX0_holds_21 (by decide) (fun c => ?_) (fun c => ?_)
    · rw [if_pos c] at hf
      refine lv_iconst (v := (0 : Int32)) hx hb dX0_holds_52 (by decide) ?_
      exact hm_zret_e hf hx hb hr hlocks hK hI (Nat.le_of_ble_eq_true rfl) (Nat.le_of_ble_eq_true rfl) rfl dX0_holds_53
    · rw [if_neg c] at hf
      refine lv_lload_n hx hb dX0_holds_24 rfl (lv_at hl 2 rfl) ?_
      refine hm_aload_n hx hb dX0_holds_25 rfl (lv_at hl 0 rfl) ?_
      obtain ⟨v4, ev4, hf⟩ := hm_b_s hf
      refine hm_get (ci := 0) (k := 1) (C := RX0) (T := TX0) (N := 4) hx hb hts hiX0 hown hK hI rfl (by decide) w3 (hm_gl_s ev4) dX0_holds_26 ?_
      refine W.lcmp hx hb dX0_holds_29 ?_
      refine lv_if_lt (tgt := 52) hx hb dX0_holds_30 (by decide) (fun c => ?_) (fun c => ?_)
      · rw [if_pos c] at hf
        refine lv_iconst (v := (0 : Int32)) hx hb dX0_holds_52 (by decide) ?_
        exact hm_zret_e hf hx hb hr hlocks hK hI (Nat.le_of_ble_eq_true rfl) (Nat.le_of_ble_eq_true rfl) rfl dX0_holds_53
      · rw [if_neg c] at hf
        refine lv_lload_n hx hb dX0_holds_33 rfl (lv_at hl 2 rfl) ?_
        refine hm_aload_n hx hb dX0_holds_34 rfl (lv_at hl 0 rfl) ?_
        obtain ⟨v5, ev5, hf⟩ := hm_b_s hf
        refine hm_get (ci := 0) (k := 1) (C := RX0) (T := TX0) (N := 4) hx hb hts hiX0 hown hK hI rfl (by decide) w3 (hm_gl_s ev5) dX0_holds_35 ?_
        refine hm_aload_n hx hb dX0_holds_38 rfl (lv_at hl 0 rfl) ?_
        obtain ⟨v6, ev6, hf⟩ := hm_b_s hf
        refine hm_get (ci := 0) (k := 3) (C := RX0) (T := TX0) (N := 4) hx hb hts hiX0 hown hK hI rfl (by decide) w4 (hm_gi_s ev6) dX0_holds_39 ?_
        refine lv_i2l (v := (v6).toInt64) hx hb dX0_holds_42 rfl ?_
        refine lv_ladd hx hb dX0_holds_43 ?_
        refine W.lcmp hx hb dX0_holds_44 ?_
        refine lv_if_ge (tgt := 52) hx hb dX0_holds_45 (by decide) (fun c => ?_) (fun c => ?_)
        · rw [if_pos c] at hf
          refine lv_iconst (v := (0 : Int32)) hx hb dX0_holds_52 (by decide) ?_
          exact hm_zret_e hf hx hb hr hlocks hK hI (Nat.le_of_ble_eq_true rfl) (Nat.le_of_ble_eq_true rfl) rfl dX0_holds_53
        · rw [if_neg c] at hf
          refine lv_iconst (v := (1 : Int32)) hx hb dX0_holds_48 (by decide) ?_
          refine lv_goto (tgt := 53) hx hb dX0_holds_49 (by decide) ?_
          exact hm_zret_e hf hx hb hr hlocks hK hI (Nat.le_of_ble_eq_true rfl) (Nat.le_of_ble_eq_true rfl) rfl dX0_holds_53
/-! ==== X0_movedBy: BlitBoard$Area.movedBy(JJ)LBlitBoard$Area; ==== -/
def fX0_movedBy (t : Nat) (a1 : Int64) (a2 : Int64) (h0 : hm_H) : Option (Option Nat × hm_H) :=
  hm_let (hm_n h0 (.inr (0, [.long 0, .long 0, .int 0, .int 0]))) fun h1 =>
  hm_b (hm_gl 0 0 h1 (some t)) fun v2 =>
  hm_b (hm_gl 0 1 h1 (some t)) fun v3 =>
  hm_b (hm_gi 0 2 h1 (some t)) fun v4 =>
  hm_b (hm_gi 0 3 h1 (some t)) fun v5 =>
  hm_b (fX0_init h0.2 (v2 + a1) (v3 + a2) v4 v5 h1) fun h6 =>
  some (some h0.2, h6)
set_option maxRecDepth 100000 in
set_option maxHeartbeats 8000000 in
theorem kX0_movedBy (l : Launch) (D : va_G) (kA : Nat → ClassId) (t : Nat) (a1 : Int64) (a2 : Int64) (h0 h' : hm_H) (r : Option Nat) (hf : fX0_movedBy t a1 a2 h0 = some (r, h')) : hm_C l yX0_movedBy wsX0_movedBy { frames := 2, cells := 1, slots := 4, locals := 46 } D vwCl kA (hm_ty kA) [.ref t, .long a1, .long a2] h0 (some (va_rf r)) h' 1 4 := by
  refine Met.ofW (cc := cX0_movedBy) (maxL := 5) (ret := (some (.object "BlitBoard$Area"))) (by decide) rfl ?_
  intro p e s m args below meth c s₁ B hml hv
  obtain ⟨hargs, hB⟩ := hv
  have hx := B.exec
  have hb := B.bytes
  have hr := B.returns
  have hts := atoms_spec (ws := wsX0_movedBy) B.pre
  have hown : s.vm.findClass RX0 = some m.cls := findClass_of_methodNamed B.named
  have hlocks := B.notSynchronized
  have hK := hB.2
  have hI := hm_start hB
  have w1 := hts (.classLink RX0 8 RX0) (by decide +kernel)
  have w2 := hts (.instantiable RX0 4) (by decide +kernel)
  have w3 := hts (.initialized RX0) (by decide +kernel)
  have w4 := hts (.fieldLink RX0 7 "BlitBoard$Area" "left" "J") (by decide +kernel)
  have w5 := hts (.fieldLink RX0 13 "BlitBoard$Area" "top" "J") (by decide +kernel)
  have w6 := hts (.fieldLink RX0 16 "BlitBoard$Area" "wide" "I") (by decide +kernel)
  have w7 := hts (.fieldLink RX0 20 "BlitBoard$Area" "high" "I") (by decide +kernel)
  have w8 := hts (.methodLink RX0 23 yX0_init) (by decide +kernel)
  have w9 := hts (.instanceMethod yX0_init) (by decide +kernel)
  have hiX0 : ∀ w ∈ wsX00, w ∈ wsX0_movedBy := by decide +kernel
  rw [show entryFrame m args 5 = entryFrame m ([.ref t, .long a1, .long a2] : List Value).toArray 5 from by rw [hargs]]
  have hl := lv_entry ([.ref t, .long a1, .long a2]) (n := 5) (Nat.le_of_ble_eq_true rfl)
  rw [lg_entry_eq]
  generalize (lg_sl ([.ref t, .long a1, .long a2]) ++ List.replicate (5 - (lg_sl ([.ref t, .long a1, .long a2])).length) Slot.unset).toArray = ls at hl ⊢
  have hl : lv_has ls 5 [(0, va_rf (some t)), (1, .long a1), (3, .long a2)] := hl
  unfold fX0_movedBy at hf
  obtain ⟨h1, eh1, hf⟩ := hm_let_s hf
  refine hm_new (ci := 0) (fs := [.long 0, .long 0, .int 0, .int 0]) (C := RX0) (T := TX0) (N := 4) hx hb hts hiX0 tyX0 tyX0_ok hown w1 w2 w3 hK hI rfl (fun j hj => by rcases (show j = 0 ∨ j = 1 ∨ j = 2 ∨ j = 3 by omega) with rfl | rfl | rfl | rfl <;> rfl) (Nat.le_of_ble_eq_true rfl) (Nat.le_of_ble_eq_true rfl) dX0_movedBy_0 (fun H hI => ?_)
  rw [← eh1] at hI
  refine W.cs (cells' := 1) (slots' := 4) rfl rfl ?_
  refine lv_dup hx hb dX0_movedBy_3 (hm_rf_cat _) ?_
  refine hm_aload_n hx hb dX0_movedBy_4 rfl (lv_at hl 0 rfl) ?_
  obtain ⟨v2, ev2, hf⟩ := hm_b_s hf
  refine hm_get (ci := 0) (k := 0) (C := RX0) (T := TX0) (N := 4) hx hb hts hiX0 hown hK hI rfl (by decide) w4 (hm_gl_s ev2) dX0_movedBy_5 ?_
  refine lv_lload_n hx hb dX0_movedBy_8 rfl (lv_at hl 1 rfl) ?_
  refine lv_ladd hx hb dX0_movedBy_9 ?_
  refine hm_aload_n hx hb dX0_movedBy_10 rfl (lv_at hl 0 rfl) ?_
  obtain ⟨v3, ev3, hf⟩ := hm_b_s hf
  refine hm_get (ci := 0) (k := 1) (C := RX0) (T := TX0) (N := 4) hx hb hts hiX0 hown hK hI rfl (by decide) w5 (hm_gl_s ev3) dX0_movedBy_11 ?_
  refine lv_lload_n hx hb dX0_movedBy_14 rfl (lv_at hl 2 rfl) ?_
  refine lv_ladd hx hb dX0_movedBy_15 ?_
  refine hm_aload_n hx hb dX0_movedBy_16 rfl (lv_at hl 0 rfl) ?_
  obtain ⟨v4, ev4, hf⟩ := hm_b_s hf
  refine hm_get (ci := 0) (k := 2) (C := RX0) (T := TX0) (N := 4) hx hb hts hiX0 hown hK hI rfl (by decide) w6 (hm_gi_s ev4) dX0_movedBy_17 ?_
  refine hm_aload_n hx hb dX0_movedBy_20 rfl (lv_at hl 0 rfl) ?_
  obtain ⟨v5, ev5, hf⟩ := hm_b_s hf
  refine hm_get (ci := 0) (k := 3) (C := RX0) (T := TX0) (N := 4) hx hb hts hiX0 hown hK hI rfl (by decide) w7 (hm_gi_s ev5) dX0_movedBy_21 ?_
  obtain ⟨h6, eh6, hf⟩ := hm_b_s hf
  refine hm_cI (As := [.long (v2 + a1), .long (v3 + a2), .int v4, .int v5]) (rest := [va_rf (some h0.2)]) ⟨hx, hb, hml, hown, hts⟩ hK hI (kX0_init l D kA h0.2 (v2 + a1) (v3 + a2) v4 v5 h1 h6 eh6) (cwI 4 hts gX0_movedBy_X0_init rfl rfl rfl w3 w8 w9 rfl (by decide +kernel) ⟨Nat.le_of_ble_eq_true rfl, Nat.le_of_ble_eq_true rfl⟩) rfl hl.1 rfl (by first | exact Nat.le_of_ble_eq_true rfl | (simp only [List.map, hm_rf_cat, hm_ci, hm_cl, List.sum_cons, List.sum_nil] <;> decide)) dX0_movedBy_24 ⟨Nat.le_of_ble_eq_true rfl, Nat.le_of_ble_eq_true rfl⟩ (fun H locs hI => ?_)
  refine W.eq (g2 := F0 m 27 ls [va_rf (some h0.2)]) rfl ?_
  exact hm_aret_e hf hx hb hr hlocks hK hI (Nat.le_of_ble_eq_true rfl) (Nat.le_of_ble_eq_true rfl) dX0_movedBy_27
/-! ==== X0_shared: BlitBoard$Area.shared(LBlitBoard$Area;)LBlitBoard$Area; ==== -/
def fX0_shared_94 (h : hm_H) : Option (Option Nat × hm_H) :=
  hm_let (hm_n h (.inr (0, [.long 0, .long 0, .int 0, .int 0]))) fun h19 =>
  hm_b (fX0_init h.2 (0 : Int64) (0 : Int64) (0 : Int32) (0 : Int32) h19) fun h20 =>
  some (some h.2, h20)
def fX0_shared (t : Nat) (a1 : Option Nat) (h0 : hm_H) : Option (Option Nat × hm_H) :=
  hm_b (hm_gl 0 0 h0 (some t)) fun v1 =>
  hm_b (hm_gl 0 0 h0 a1) fun v2 =>
  hm_let (if v2 < v1 then v1 else v2) fun v3 =>
  hm_b (hm_gl 0 1 h0 (some t)) fun v4 =>
  hm_b (hm_gl 0 1 h0 a1) fun v5 =>
  hm_let (if v5 < v4 then v4 else v5) fun v6 =>
  hm_b (hm_gl 0 0 h0 (some t)) fun v7 =>
  hm_b (hm_gi 0 2 h0 (some t)) fun v8 =>
  hm_b (hm_gl 0 0 h0 a1) fun v9 =>
  hm_b (hm_gi 0 2 h0 a1) fun v10 =>
  hm_let ((if (v9 + ((v10).toInt64)) < (v7 + ((v8).toInt64)) then (v9 + ((v10).toInt64)) else (v7 + ((v8).toInt64))) - v3) fun v11 =>
  hm_b (hm_gl 0 1 h0 (some t)) fun v12 =>
  hm_b (hm_gi 0 3 h0 (some t)) fun v13 =>
  hm_b (hm_gl 0 1 h0 a1) fun v14 =>
  hm_b (hm_gi 0 3 h0 a1) fun v15 =>
  hm_let ((if (v14 + ((v15).toInt64)) < (v12 + ((v13).toInt64)) then (v14 + ((v15).toInt64)) else (v12 + ((v13).toInt64))) - v6) fun v16 =>
  if (lg_cmp v11 (0 : Int64)) ≤ 0 then
    fX0_shared_94  h0
  else
    if 0 < (lg_cmp v16 (0 : Int64)) then
      hm_let (hm_n h0 (.inr (0, [.long 0, .long 0, .int 0, .int 0]))) fun h17 =>
      hm_b (fX0_init h0.2 v3 v6 ((v11).toInt32) ((v16).toInt32) h17) fun h18 =>
      some (some h0.2, h18)
    else
      fX0_shared_94  h0
set_option maxRecDepth 100000 in
set_option maxHeartbeats 8000000 in
theorem kX0_shared (l : Launch) (D : va_G) (kA : Nat → ClassId) (t : Nat) (a1 : Option Nat) (h0 h' : hm_H) (r : Option Nat) (hf : fX0_shared t a1 h0 = some (r, h')) : hm_C l yX0_shared wsX0_shared { frames := 2, cells := 1, slots := 4, locals := 46 } D vwCl kA (hm_ty kA) [.ref t, va_rf a1] h0 (some (va_rf r)) h' 1 4 := by
  refine Met.ofW (cc := cX0_shared) (maxL := 10) (ret := (some (.object "BlitBoard$Area"))) (by decide) rfl ?_
  intro p e s m args below meth c s₁ B hml hv
  obtain ⟨hargs, hB⟩ := hv
  have hx := B.exec
  have hb := B.bytes
  have hr := B.returns
  have hts := atoms_spec (ws := wsX0_shared) B.pre
  have hown : s.vm.findClass RX0 = some m.cls := findClass_of_methodNamed B.named
  have hlocks := B.notSynchronized
  have hK := hB.2
  have hI := hm_start hB
  have w1 := hts (.fieldLink RX0 7 "BlitBoard$Area" "left" "J") (by decide +kernel)
  have w2 := hts (.methodLink RX0 26 Lib.MathLoose.max_long.x) (by decide +kernel)
  have w3 := hts (.static Lib.MathLoose.max_long.x) (by decide +kernel)
  have w4 := hts (.initialized "java/lang/Math") (by decide +kernel)
  have w5 := hts (.code Lib.MathLoose.max_long.x Lib.MathLoose.max_long.code 4 (some .long)) (by decide +kernel)
  have w6 := hts (.fieldLink RX0 13 "BlitBoard$Area" "top" "J") (by decide +kernel)
  have w7 := hts (.fieldLink RX0 16 "BlitBoard$Area" "wide" "I") (by decide +kernel)
  have w8 := hts (.methodLink RX0 32 Lib.MathLoose.min_long.x) (by decide +kernel)
  have w9 := hts (.static Lib.MathLoose.min_long.x) (by decide +kernel)
  have w10 := hts (.code Lib.MathLoose.min_long.x Lib.MathLoose.min_long.code 4 (some .long)) (by decide +kernel)
  have w11 := hts (.fieldLink RX0 20 "BlitBoard$Area" "high" "I") (by decide +kernel)
  have w12 := hts (.classLink RX0 8 RX0) (by decide +kernel)
  have w13 := hts (.instantiable RX0 4) (by decide +kernel)
  have w14 := hts (.initialized RX0) (by decide +kernel)
  have w15 := hts (.methodLink RX0 23 yX0_init) (by decide +kernel)
  have w16 := hts (.instanceMethod yX0_init) (by decide +kernel)
  have hiX0 : ∀ w ∈ wsX00, w ∈ wsX0_shared := by decide +kernel
  have B94 : ∀ (h : hm_H), fX0_shared_94 h = some (r, h') → ∀ (H : Heap) (locs : List Loc) (ls : Array Slot), hm_I D vwCl kA (hm_A h0) s.heap h H locs → lv_has ls 10 [] → W p l e (headSpec wsX0_shared { frames := 2, cells := 1, slots := 4, locals := 46 }).room s m args below meth c H locs 0 0 (MQ below (hm_Q D vwCl kA (hm_ty kA) h0 (some (va_rf r)) h') args s 1 4 (hm_A h0)) (F0 m 94 ls []) := by
    intro h hf H locs ls hI hl
    unfold fX0_shared_94 at hf
    obtain ⟨h19, eh19, hf⟩ := hm_let_s hf
    refine hm_new (ci := 0) (fs := [.long 0, .long 0, .int 0, .int 0]) (C := RX0) (T := TX0) (N := 4) hx hb hts hiX0 tyX0 tyX0_ok hown w12 w13 w14 hK hI rfl (fun j hj => by rcases (show j = 0 ∨ j = 1 ∨ j = 2 ∨ j = 3 by omega) with rfl | rfl | rfl | rfl <;> rfl) (Nat.le_of_ble_eq_true rfl) (Nat.le_of_ble_eq_true rfl) dX0_shared_94 (fun H hI => ?_)
    rw [← eh19] at hI
    refine W.cs (cells' := 1) (slots' := 4) rfl rfl ?_
    refine lv_dup hx hb dX0_shared_97 (hm_rf_cat _) ?_
    refine lv_lconst (v := (0 : Int64)) hx hb dX0_shared_98 (by decide) ?_
    refine lv_lconst (v := (0 : Int64)) hx hb dX0_shared_99 (by decide) ?_
    refine lv_iconst (v := (0 : Int32)) hx hb dX0_shared_100 (by decide) ?_
    refine lv_iconst (v := (0 : Int32)) hx hb dX0_shared_101 (by decide) ?_
    obtain ⟨h20, eh20, hf⟩ := hm_b_s hf
    refine hm_cI (As := [.long (0 : Int64), .long (0 : Int64), .int (0 : Int32), .int (0 : Int32)]) (rest := [va_rf (some h.2)]) ⟨hx, hb, hml, hown, hts⟩ hK hI (kX0_init l D kA h.2 (0 : Int64) (0 : Int64) (0 : Int32) (0 : Int32) h19 h20 eh20) (cwI 4 hts gX0_shared_X0_init rfl rfl rfl w14 w15 w16 rfl (by decide +kernel) ⟨Nat.le_of_ble_eq_true rfl, Nat.le_of_ble_eq_true rfl⟩) rfl hl.1 rfl (by first | exact Nat.le_of_ble_eq_true rfl | (simp only [List.map, hm_rf_cat, hm_ci, hm_cl, List.sum_cons, List.sum_nil] <;> decide)) dX0_shared_102 ⟨Nat.le_of_ble_eq_true rfl, Nat.le_of_ble_eq_true rfl⟩ (fun H locs hI => ?_)
    refine W.eq (g2 := F0 m 105 ls [va_rf (some h.2)]) rfl ?_
    exact hm_aret_e hf hx hb hr hlocks hK hI (Nat.le_of_ble_eq_true rfl) (Nat.le_of_ble_eq_true rfl) dX0_shared_105
  rw [show entryFrame m args 10 = entryFrame m ([.ref t, va_rf a1] : List Value).toArray 10 from by rw [hargs]]
  have hl := lv_entry ([.ref t, va_rf a1]) (n := 10) (by simp only [hm_sl_q, hm_sl_i, hm_sl_l, hm_sl_r, hm_sl_n, List.length_cons, List.length_nil] <;> decide)
  rw [lg_entry_eq]
  generalize (lg_sl ([.ref t, va_rf a1]) ++ List.replicate (10 - (lg_sl ([.ref t, va_rf a1])).length) Slot.unset).toArray = ls at hl ⊢
  rw [show lv_args 0 [.ref t, va_rf a1] = [(0, va_rf (some t)), (1, va_rf a1)] from by simp only [hm_ar_q, hm_ar_i, hm_ar_l, hm_ar_r, hm_ar_n]] at hl
  have hl : lv_has ls 10 [(0, va_rf (some t)), (1, va_rf a1)] := hl
  unfold fX0_shared at hf
  refine hm_aload_n hx hb dX0_shared_0 rfl (lv_at hl 0 rfl) ?_
  obtain ⟨v1, ev1, hf⟩ := hm_b_s hf
  refine hm_get (ci := 0) (k := 0) (C := RX0) (T := TX0) (N := 4) hx hb hts hiX0 hown hK hI rfl (by decide) w1 (hm_gl_s ev1) dX0_shared_1 ?_
  refine hm_aload_n hx hb dX0_shared_4 rfl (lv_at hl 1 rfl) ?_
  obtain ⟨v2, ev2, hf⟩ := hm_b_s hf
  refine hm_get (ci := 0) (k := 0) (C := RX0) (T := TX0) (N := 4) hx hb hts hiX0 hown hK hI rfl (by decide) w1 (hm_gl_s ev2) dX0_shared_5 ?_
  refine va_mmax_long hx hb (hml.trans hl.1.symm) hown w2 w3 w4 w5 (Nat.le_of_ble_eq_true rfl) (by first | exact Nat.le_of_ble_eq_true rfl | (simp only [List.map, hm_rf_cat, hm_ci, hm_cl, List.sum_cons, List.sum_nil] <;> exact Nat.le_of_ble_eq_true rfl)) (Nat.le_of_ble_eq_true rfl) (Nat.le_of_ble_eq_true rfl) dX0_shared_8 ?_
  obtain ⟨v3, ev3, hf⟩ := hm_let_s hf
  refine hm_tj ev3 ?_
  refine lv_lstore_n (lv' := [(2, .long v3), (0, va_rf (some t)), (1, va_rf a1)]) hx hb dX0_shared_11 rfl hl (by decide) (by simp only [List.filter, hm_cat2, Bool.and_false, Bool.not_false] <;> rfl) (fun ls hl => ?_)
  refine hm_aload_n hx hb dX0_shared_12 rfl (lv_at hl 1 rfl) ?_
  obtain ⟨v4, ev4, hf⟩ := hm_b_s hf
  refine hm_get (ci := 0) (k := 1) (C := RX0) (T := TX0) (N := 4) hx hb hts hiX0 hown hK hI rfl (by decide) w6 (hm_gl_s ev4) dX0_shared_13 ?_
  refine hm_aload_n hx hb dX0_shared_16 rfl (lv_at hl 2 rfl) ?_
  obtain ⟨v5, ev5, hf⟩ := hm_b_s hf
  refine hm_get (ci := 0) (k := 1) (C := RX0) (T := TX0) (N := 4) hx hb hts hiX0 hown hK hI rfl (by decide) w6 (hm_gl_s ev5) dX0_shared_17 ?_
  refine va_mmax_long hx hb (hml.trans hl.1.symm) hown w2 w3 w4 w5 (Nat.le_of_ble_eq_true rfl) (by first | exact Nat.le_of_ble_eq_true rfl | (simp only [List.map, hm_rf_cat, hm_ci, hm_cl, List.sum_cons, List.sum_nil] <;> exact Nat.le_of_ble_eq_true rfl)) (Nat.le_of_ble_eq_true rfl) (Nat.le_of_ble_eq_true rfl) dX0_shared_20 ?_
  obtain ⟨v6, ev6, hf⟩ := hm_let_s hf
  refine hm_tj ev6 ?_
  refine lv_lstore (lv' := [(4, .long v6), (2, .long v3), (0, va_rf (some t)), (1, va_rf a1)]) hx hb dX0_shared_23 hl (by decide) rfl (fun ls hl => ?_)
  refine hm_aload_n hx hb dX0_shared_25 rfl (lv_at hl 2 rfl) ?_
  obtain ⟨v7, ev7, hf⟩ := hm_b_s hf
  refine hm_get (ci := 0) (k := 0) (C := RX0) (T := TX0) (N := 4) hx hb hts hiX0 hown hK hI rfl (by decide) w1 (hm_gl_s ev7) dX0_shared_26 ?_
  refine hm_aload_n hx hb dX0_shared_29 rfl (lv_at hl 2 rfl) ?_
  obtain ⟨v8, ev8, hf⟩ := hm_b_s hf
  refine hm_get (ci := 0) (k := 2) (C := RX0) (T := TX0) (N := 4) hx hb hts hiX0 hown hK hI rfl (by decide) w7 (hm_gi_s ev8) dX0_shared_30 ?_
  refine lv_i2l (v := (v8).toInt64) hx hb dX0_shared_33 rfl ?_
  refine lv_ladd hx hb dX0_shared_34 ?_
  refine hm_aload_n hx hb dX0_shared_35 rfl (lv_at hl 3 rfl) ?_
  obtain ⟨v9, ev9, hf⟩ := hm_b_s hf
  refine hm_get (ci := 0) (k := 0) (C := RX0) (T := TX0) (N := 4) hx hb hts hiX0 hown hK hI rfl (by decide) w1 (hm_gl_s ev9) dX0_shared_36 ?_
  refine hm_aload_n hx hb dX0_shared_39 rfl (lv_at hl 3 rfl) ?_
  obtain ⟨v10, ev10, hf⟩ := hm_b_s hf
  refine hm_get (ci := 0) (k := 2) (C := RX0) (T := TX0) (N := 4) hx hb hts hiX0 hown hK hI rfl (by decide) w7 (hm_gi_s ev10) dX0_shared_40 ?_
  refine lv_i2l (v := (v10).toInt64) hx hb dX0_shared_43 rfl ?_
  refine lv_ladd hx hb dX0_shared_44 ?_
  refine va_mmin_long hx hb (hml.trans hl.1.symm) hown w8 w9 w4 w10 (Nat.le_of_ble_eq_true rfl) (by first | exact Nat.le_of_ble_eq_true rfl | (simp only [List.map, hm_rf_cat, hm_ci, hm_cl, List.sum_cons, List.sum_nil] <;> exact Nat.le_of_ble_eq_true rfl)) (Nat.le_of_ble_eq_true rfl) (Nat.le_of_ble_eq_true rfl) dX0_shared_45 ?_
  refine lv_lload_n hx hb dX0_shared_48 rfl (lv_at hl 1 rfl) ?_
  refine lv_lsub hx hb dX0_shared_49 ?_
  obtain ⟨v11, ev11, hf⟩ := hm_let_s hf
  refine hm_tj ev11 ?_
  refine lv_lstore (lv' := [(6, .long v11), (4, .long v6), (2, .long v3), (0, va_rf (some t)), (1, va_rf a1)]) hx hb dX0_shared_50 hl (by decide) rfl (fun ls hl => ?_)
  refine hm_aload_n hx hb dX0_shared_52 rfl (lv_at hl 3 rfl) ?_
  obtain ⟨v12, ev12, hf⟩ := hm_b_s hf
  refine hm_get (ci := 0) (k := 1) (C := RX0) (T := TX0) (N := 4) hx hb hts hiX0 hown hK hI rfl (by decide) w6 (hm_gl_s ev12) dX0_shared_53 ?_
  refine hm_aload_n hx hb dX0_shared_56 rfl (lv_at hl 3 rfl) ?_
  obtain ⟨v13, ev13, hf⟩ := hm_b_s hf
  refine hm_get (ci := 0) (k := 3) (C := RX0) (T := TX0) (N := 4) hx hb hts hiX0 hown hK hI rfl (by decide) w11 (hm_gi_s ev13) dX0_shared_57 ?_
  refine lv_i2l (v := (v13).toInt64) hx hb dX0_shared_60 rfl ?_
  refine lv_ladd hx hb dX0_shared_61 ?_
  refine hm_aload_n hx hb dX0_shared_62 rfl (lv_at hl 4 rfl) ?_
  obtain ⟨v14, ev14, hf⟩ := hm_b_s hf
  refine hm_get (ci := 0) (k := 1) (C := RX0) (T := TX0) (N := 4) hx hb hts hiX0 hown hK hI rfl (by decide) w6 (hm_gl_s ev14) dX0_shared_63 ?_
  refine hm_aload_n hx hb dX0_shared_66 rfl (lv_at hl 4 rfl) ?_
  obtain ⟨v15, ev15, hf⟩ := hm_b_s hf
  refine hm_get (ci := 0) (k := 3) (C := RX0) (T := TX0) (N := 4) hx hb hts hiX0 hown hK hI rfl (by decide) w11 (hm_gi_s ev15) dX0_shared_67 ?_
  refine lv_i2l (v := (v15).toInt64) hx hb dX0_shared_70 rfl ?_
  refine lv_ladd hx hb dX0_shared_71 ?_
  refine va_mmin_long hx hb (hml.trans hl.1.symm) hown w8 w9 w4 w10 (Nat.le_of_ble_eq_true rfl) (by first | exact Nat.le_of_ble_eq_true rfl | (simp only [List.map, hm_rf_cat, hm_ci, hm_cl, List.sum_cons, List.sum_nil] <;> exact Nat.le_of_ble_eq_true rfl)) (Nat.le_of_ble_eq_true rfl) (Nat.le_of_ble_eq_true rfl) dX0_shared_72 ?_
  refine lv_lload hx hb dX0_shared_75 (lv_at hl 1 rfl) ?_
  refine lv_lsub hx hb dX0_shared_77 ?_
  obtain ⟨v16, ev16, hf⟩ := hm_let_s hf
  refine hm_tj ev16 ?_
  refine lv_lstore (lv' := [(8, .long v16), (6, .long v11), (4, .long v6), (2, .long v3), (0, va_rf (some t)), (1, va_rf a1)]) hx hb dX0_shared_78 hl (by decide) rfl (fun ls hl => ?_)
  refine lv_lload hx hb dX0_shared_80 (lv_at hl 1 rfl) ?_
  refine lv_lconst (v := (0 : Int64)) hx hb dX0_shared_82 (by decide) ?_
  refine W.lcmp hx hb dX0_shared_83 ?_
  refine lv_if_le (tgt := 94) hx hb dX0_shared_84 (by decide) (fun c => ?_) (fun c => ?_)
  · rw [if_pos c] at hf
    exact B94  h0 hf _ _ _ hI (lv_sub hl [] rfl)
  · rw [if_neg c] at hf
    refine lv_lload hx hb dX0_shared_87 (lv_at hl 0 rfl) ?_
    refine lv_lconst (v := (0 : Int64)) hx hb dX0_shared_89 (by decide) ?_
    refine W.lcmp hx hb dX0_shared_90 ?_
    refine lv_if_gt (tgt := 106) hx hb dX0_shared_91 (by decide) (fun c => ?_) (fun c => ?_)
    · rw [if_pos c] at hf
      obtain ⟨h17, eh17, hf⟩ := hm_let_s hf
      refine hm_new (ci := 0) (fs := [.long 0, .long 0, .int 0, .int 0]) (C := RX0) (T := TX0) (N := 4) hx hb hts hiX0 tyX0 tyX0_ok hown w12 w13 w14 hK hI rfl (fun j hj => by rcases (show j = 0 ∨ j = 1 ∨ j = 2 ∨ j = 3 by omega) with rfl | rfl | rfl | rfl <;> rfl) (Nat.le_of_ble_eq_true rfl) (Nat.le_of_ble_eq_true rfl) dX0_shared_106 (fun H hI => ?_)
      rw [← eh17] at hI
      refine W.cs (cells' := 1) (slots' := 4) rfl rfl ?_
      refine lv_dup hx hb dX0_shared_109 (hm_rf_cat _) ?_
      refine lv_lload_n hx hb dX0_shared_110 rfl (lv_at hl 3 rfl) ?_
      refine lv_lload hx hb dX0_shared_111 (lv_at hl 2 rfl) ?_
      refine lv_lload hx hb dX0_shared_113 (lv_at hl 1 rfl) ?_
      refine lv_l2i (v := (v11).toInt32) hx hb dX0_shared_115 rfl ?_
      refine lv_lload hx hb dX0_shared_116 (lv_at hl 0 rfl) ?_
      refine lv_l2i (v := (v16).toInt32) hx hb dX0_shared_118 rfl ?_
      obtain ⟨h18, eh18, hf⟩ := hm_b_s hf
      refine hm_cI (As := [.long v3, .long v6, .int ((v11).toInt32), .int ((v16).toInt32)]) (rest := [va_rf (some h0.2)]) ⟨hx, hb, hml, hown, hts⟩ hK hI (kX0_init l D kA h0.2 v3 v6 ((v11).toInt32) ((v16).toInt32) h17 h18 eh18) (cwI 4 hts gX0_shared_X0_init rfl rfl rfl w14 w15 w16 rfl (by decide +kernel) ⟨Nat.le_of_ble_eq_true rfl, Nat.le_of_ble_eq_true rfl⟩) rfl hl.1 rfl (by first | exact Nat.le_of_ble_eq_true rfl | (simp only [List.map, hm_rf_cat, hm_ci, hm_cl, List.sum_cons, List.sum_nil] <;> decide)) dX0_shared_119 ⟨Nat.le_of_ble_eq_true rfl, Nat.le_of_ble_eq_true rfl⟩ (fun H locs hI => ?_)
      refine W.eq (g2 := F0 m 122 ls [va_rf (some h0.2)]) rfl ?_
      exact hm_aret_e hf hx hb hr hlocks hK hI (Nat.le_of_ble_eq_true rfl) (Nat.le_of_ble_eq_true rfl) dX0_shared_122
    · rw [if_neg c] at hf
      exact B94  h0 hf _ _ _ hI (lv_sub hl [] rfl)
/-! ==== X1_init: BlitBoard$Move.<init>(LBlitBoard$Surface;LBlitBoard$Area;LBlitBoard$Surface;II)V ==== -/
def fX1_init (t : Nat) (a1 : Option Nat) (a2 : Option Nat) (a3 : Option Nat) (a4 : Int32) (a5 : Int32) (h0 : hm_H) : Option hm_H :=
  hm_b (hm_gl 0 0 h0 a2) fun v1 =>
  hm_let (((a4).toInt64) - v1) fun v2 =>
  hm_b (hm_gl 0 1 h0 a2) fun v3 =>
  hm_let (((a5).toInt64) - v3) fun v4 =>
  hm_b (hm_p 1 0 (va_rf a1) h0 (some t)) fun h5 =>
  hm_b (hm_p 1 1 (va_rf a3) h5 (some t)) fun h6 =>
  hm_b (hm_gq 3 2 h6 a1) fun v7 =>
  hm_b (hm_rc 0 h6 v7) fun b9 =>
  hm_b2 (fX0_shared b9 a2 h6) fun v10 h8 =>
  hm_b (hm_rc 0 h8 v10) fun b12 =>
  hm_b2 (fX0_movedBy b12 v2 v4 h8) fun v13 h11 =>
  hm_b (hm_gq 3 4 h11 a3) fun v14 =>
  hm_b (hm_rc 0 h11 v13) fun b16 =>
  hm_b2 (fX0_shared b16 v14 h11) fun v17 h15 =>
  hm_b (hm_p 1 3 (va_rf v17) h15 (some t)) fun h18 =>
  hm_b (hm_gq 1 3 h18 (some t)) fun v19 =>
  hm_b (hm_rc 0 h18 v19) fun b21 =>
  hm_b2 (fX0_movedBy b21 (-v2) (-v4) h18) fun v22 h20 =>
  hm_b (hm_p 1 2 (va_rf v22) h20 (some t)) fun h23 =>
  some h23
set_option maxRecDepth 100000 in
set_option maxHeartbeats 8000000 in
theorem kX1_init (l : Launch) (D : va_G) (kA : Nat → ClassId) (t : Nat) (a1 : Option Nat) (a2 : Option Nat) (a3 : Option Nat) (a4 : Int32) (a5 : Int32) (h0 h' : hm_H) (hf : fX1_init t a1 a2 a3 a4 a5 h0 = some h') : hm_C l yX1_init wsX1_init { frames := 3, cells := 4, slots := 16, locals := 75 } D vwCl kA (hm_ty kA) [.ref t, va_rf a1, va_rf a2, va_rf a3, .int a4, .int a5] h0 none h' 4 16 := by
  refine Met.ofW (cc := cX1_init) (maxL := 10) (ret := none) (by decide) rfl ?_
  intro p e s m args below meth c s₁ B hml hv
  obtain ⟨hargs, hB⟩ := hv
  have hx := B.exec
  have hb := B.bytes
  have hr := B.returns
  have hts := atoms_spec (ws := wsX1_init) B.pre
  have hown : s.vm.findClass RX1 = some m.cls := findClass_of_methodNamed B.named
  have hlocks := B.notSynchronized
  have hin : meth.name = "<init>" := (name_of_methodNamed B.named B.method).1
  have hK := hB.2
  have hI := hm_start hB
  have w1 := hts (.methodLink RX1 1 objectInit) (by decide +kernel)
  have w2 := hts (.instanceMethod objectInit) (by decide +kernel)
  have w3 := hts (.code objectInit ⟨#[0xb1]⟩ 1 none) (by decide +kernel)
  have w4 := hts (.fieldLink RX1 7 "BlitBoard$Area" "left" "J") (by decide +kernel)
  have w5 := hts (.fieldLink RX1 13 "BlitBoard$Area" "top" "J") (by decide +kernel)
  have w6 := hts (.fieldLink RX1 16 "BlitBoard$Move" "from" "LBlitBoard$Surface;") (by decide +kernel)
  have w7 := hts (.fieldLink RX1 22 "BlitBoard$Move" "to" "LBlitBoard$Surface;") (by decide +kernel)
  have w8 := hts (.fieldLink RX1 25 "BlitBoard$Surface" "whole" "LBlitBoard$Area;") (by decide +kernel)
  have w9 := hts (.fieldLink RX1 39 "BlitBoard$Surface" "clip" "LBlitBoard$Area;") (by decide +kernel)
  have w10 := hts (.fieldLink RX1 42 "BlitBoard$Move" "target" "LBlitBoard$Area;") (by decide +kernel)
  have w11 := hts (.fieldLink RX1 45 "BlitBoard$Move" "source" "LBlitBoard$Area;") (by decide +kernel)
  have hiX0 : ∀ w ∈ wsX00, w ∈ wsX1_init := by decide +kernel
  have hiX1 : ∀ w ∈ wsX10, w ∈ wsX1_init := by decide +kernel
  have hiX3 : ∀ w ∈ wsX30, w ∈ wsX1_init := by decide +kernel
  rw [show entryFrame m args 10 = entryFrame m ([.ref t, va_rf a1, va_rf a2, va_rf a3, .int a4, .int a5] : List Value).toArray 10 from by rw [hargs]]
  have hl := lv_entry ([.ref t, va_rf a1, va_rf a2, va_rf a3, .int a4, .int a5]) (n := 10) (by simp only [hm_sl_q, hm_sl_i, hm_sl_l, hm_sl_r, hm_sl_n, List.length_cons, List.length_nil] <;> decide)
  rw [lg_entry_eq]
  generalize (lg_sl ([.ref t, va_rf a1, va_rf a2, va_rf a3, .int a4, .int a5]) ++ List.replicate (10 - (lg_sl ([.ref t, va_rf a1, va_rf a2, va_rf a3, .int a4, .int a5])).length) Slot.unset).toArray = ls at hl ⊢
  rw [show lv_args 0 [.ref t, va_rf a1, va_rf a2, va_rf a3, .int a4, .int a5] = [(0, va_rf (some t)), (1, va_rf a1), (2, va_rf a2), (3, va_rf a3), (4, .int a4), (5, .int a5)] from by simp only [hm_ar_q, hm_ar_i, hm_ar_l, hm_ar_r, hm_ar_n]] at hl
  have hl : lv_has ls 10 [(0, va_rf (some t)), (1, va_rf a1), (2, va_rf a2), (3, va_rf a3), (4, .int a4), (5, .int a5)] := hl
  unfold fX1_init at hf
  refine hm_aload_n hx hb dX1_init_0 rfl (lv_at hl 0 rfl) ?_
  refine W.objInit hx hb hown w1 w2 w3 rfl (by rw [hml]; exact hl.1) rfl dX1_init_1 (Nat.le_of_ble_eq_true rfl) (Nat.le_of_ble_eq_true rfl) ?_
  refine W.eq (g2 := F0 m 4 ls []) rfl ?_
  refine lv_iload hx hb dX1_init_4 (lv_at hl 4 rfl) ?_
  refine lv_i2l (v := (a4).toInt64) hx hb dX1_init_6 rfl ?_
  refine hm_aload_n hx hb dX1_init_7 rfl (lv_at hl 2 rfl) ?_
  obtain ⟨v1, ev1, hf⟩ := hm_b_s hf
  refine hm_get (ci := 0) (k := 0) (C := RX0) (T := TX0) (N := 4) hx hb hts hiX0 hown hK hI rfl (by decide) w4 (hm_gl_s ev1) dX1_init_8 ?_
  refine lv_lsub hx hb dX1_init_11 ?_
  obtain ⟨v2, ev2, hf⟩ := hm_let_s hf
  refine hm_tj ev2 ?_
  refine lv_lstore (lv' := [(6, .long v2), (0, va_rf (some t)), (1, va_rf a1), (2, va_rf a2), (3, va_rf a3), (4, .int a4), (5, .int a5)]) hx hb dX1_init_12 hl (by decide) rfl (fun ls hl => ?_)
  refine lv_iload hx hb dX1_init_14 (lv_at hl 6 rfl) ?_
  refine lv_i2l (v := (a5).toInt64) hx hb dX1_init_16 rfl ?_
  refine hm_aload_n hx hb dX1_init_17 rfl (lv_at hl 3 rfl) ?_
  obtain ⟨v3, ev3, hf⟩ := hm_b_s hf
  refine hm_get (ci := 0) (k := 1) (C := RX0) (T := TX0) (N := 4) hx hb hts hiX0 hown hK hI rfl (by decide) w5 (hm_gl_s ev3) dX1_init_18 ?_
  refine lv_lsub hx hb dX1_init_21 ?_
  obtain ⟨v4, ev4, hf⟩ := hm_let_s hf
  refine hm_tj ev4 ?_
  refine lv_lstore (lv' := [(8, .long v4), (6, .long v2), (0, va_rf (some t)), (1, va_rf a1), (2, va_rf a2), (3, va_rf a3), (4, .int a4), (5, .int a5)]) hx hb dX1_init_22 hl (by decide) rfl (fun ls hl => ?_)
  refine hm_aload_n hx hb dX1_init_24 rfl (lv_at hl 2 rfl) ?_
  refine hm_aload_n hx hb dX1_init_25 rfl (lv_at hl 3 rfl) ?_
  obtain ⟨h5, eh5, hf⟩ := hm_b_s hf
  refine hm_putF (ci := 1) (k := 0) (C := RX1) (T := TX1) (N := 4) hx hb hts hiX1 tyX1 tyX1_ok nmX1 hown hK hI rfl (by decide) w6 rfl hin rfl eh5 hm_nqo hm_fqo dX1_init_26 (fun H locs hI => ?_)
  refine hm_aload_n hx hb dX1_init_29 rfl (lv_at hl 2 rfl) ?_
  refine hm_aload_n hx hb dX1_init_30 rfl (lv_at hl 5 rfl) ?_
  obtain ⟨h6, eh6, hf⟩ := hm_b_s hf
  refine hm_putF (ci := 1) (k := 1) (C := RX1) (T := TX1) (N := 4) hx hb hts hiX1 tyX1 tyX1_ok nmX1 hown hK hI rfl (by decide) w7 rfl hin rfl eh6 hm_nqo hm_fqo dX1_init_31 (fun H locs hI => ?_)
  refine hm_aload_n hx hb dX1_init_34 rfl (lv_at hl 2 rfl) ?_
  refine hm_aload_n hx hb dX1_init_35 rfl (lv_at hl 3 rfl) ?_
  obtain ⟨v7, ev7, hf⟩ := hm_b_s hf
  refine hm_get (ci := 3) (k := 2) (C := RX3) (T := TX3) (N := 5) hx hb hts hiX3 hown hK hI rfl (by decide) w8 (hm_gq_s ev7) dX1_init_36 ?_
  refine hm_aload_n hx hb dX1_init_39 rfl (lv_at hl 4 rfl) ?_
  obtain ⟨b9, eb9, hf⟩ := hm_b_s hf
  obtain ⟨v10, h8, eh8, hf⟩ := hm_b2_s hf
  refine hm_cV (As := [va_rf a2]) (rest := [va_rf (some t)]) ⟨hx, hb, hml, hown, hts⟩ hK hI eb9 rfl rfl (kX0_shared l D kA b9 a2 h6 h8 v10 eh8) (cwV 1 hts gX1_init_X0_shared rfl rfl rfl (by decide +kernel) ⟨Nat.le_of_ble_eq_true rfl, Nat.le_of_ble_eq_true rfl⟩) rfl hl.1 rfl (by first | exact Nat.le_of_ble_eq_true rfl | (simp only [List.map, hm_rf_cat, hm_ci, hm_cl, List.sum_cons, List.sum_nil] <;> decide)) dX1_init_40 ⟨Nat.le_of_ble_eq_true rfl, Nat.le_of_ble_eq_true rfl⟩ (fun H locs hI => ?_)
  refine W.cs (cells' := 1) (slots' := 4) rfl rfl ?_
  refine lv_lload hx hb dX1_init_43 (lv_at hl 1 rfl) ?_
  refine lv_lload hx hb dX1_init_45 (lv_at hl 0 rfl) ?_
  obtain ⟨b12, eb12, hf⟩ := hm_b_s hf
  obtain ⟨v13, h11, eh11, hf⟩ := hm_b2_s hf
  refine hm_cV (As := [.long v2, .long v4]) (rest := [va_rf (some t)]) ⟨hx, hb, hml, hown, hts⟩ hK hI eb12 rfl rfl (kX0_movedBy l D kA b12 v2 v4 h8 h11 v13 eh11) (cwV 2 hts gX1_init_X0_movedBy rfl rfl rfl (by decide +kernel) ⟨Nat.le_of_ble_eq_true rfl, Nat.le_of_ble_eq_true rfl⟩) rfl hl.1 rfl (by first | exact Nat.le_of_ble_eq_true rfl | (simp only [List.map, hm_rf_cat, hm_ci, hm_cl, List.sum_cons, List.sum_nil] <;> decide)) dX1_init_47 ⟨Nat.le_of_ble_eq_true rfl, Nat.le_of_ble_eq_true rfl⟩ (fun H locs hI => ?_)
  refine W.cs (cells' := 2) (slots' := 8) rfl rfl ?_
  refine hm_aload_n hx hb dX1_init_50 rfl (lv_at hl 5 rfl) ?_
  obtain ⟨v14, ev14, hf⟩ := hm_b_s hf
  refine hm_get (ci := 3) (k := 4) (C := RX3) (T := TX3) (N := 5) hx hb hts hiX3 hown hK hI rfl (by decide) w9 (hm_gq_s ev14) dX1_init_51 ?_
  obtain ⟨b16, eb16, hf⟩ := hm_b_s hf
  obtain ⟨v17, h15, eh15, hf⟩ := hm_b2_s hf
  refine hm_cV (As := [va_rf v14]) (rest := [va_rf (some t)]) ⟨hx, hb, hml, hown, hts⟩ hK hI eb16 rfl rfl (kX0_shared l D kA b16 v14 h11 h15 v17 eh15) (cwV 1 hts gX1_init_X0_shared rfl rfl rfl (by decide +kernel) ⟨Nat.le_of_ble_eq_true rfl, Nat.le_of_ble_eq_true rfl⟩) rfl hl.1 rfl (by first | exact Nat.le_of_ble_eq_true rfl | (simp only [List.map, hm_rf_cat, hm_ci, hm_cl, List.sum_cons, List.sum_nil] <;> decide)) dX1_init_54 ⟨Nat.le_of_ble_eq_true rfl, Nat.le_of_ble_eq_true rfl⟩ (fun H locs hI => ?_)
  refine W.cs (cells' := 3) (slots' := 12) rfl rfl ?_
  obtain ⟨h18, eh18, hf⟩ := hm_b_s hf
  refine hm_putF (ci := 1) (k := 3) (C := RX1) (T := TX1) (N := 4) hx hb hts hiX1 tyX1 tyX1_ok nmX1 hown hK hI rfl (by decide) w10 rfl hin rfl eh18 hm_nqo hm_fqo dX1_init_57 (fun H locs hI => ?_)
  refine hm_aload_n hx hb dX1_init_60 rfl (lv_at hl 2 rfl) ?_
  refine hm_aload_n hx hb dX1_init_61 rfl (lv_at hl 2 rfl) ?_
  obtain ⟨v19, ev19, hf⟩ := hm_b_s hf
  refine hm_get (ci := 1) (k := 3) (C := RX1) (T := TX1) (N := 4) hx hb hts hiX1 hown hK hI rfl (by decide) w10 (hm_gq_s ev19) dX1_init_62 ?_
  refine lv_lload hx hb dX1_init_65 (lv_at hl 1 rfl) ?_
  refine lv_lneg hx hb dX1_init_67 ?_
  refine lv_lload hx hb dX1_init_68 (lv_at hl 0 rfl) ?_
  refine lv_lneg hx hb dX1_init_70 ?_
  obtain ⟨b21, eb21, hf⟩ := hm_b_s hf
  obtain ⟨v22, h20, eh20, hf⟩ := hm_b2_s hf
  refine hm_cV (As := [.long (-v2), .long (-v4)]) (rest := [va_rf (some t)]) ⟨hx, hb, hml, hown, hts⟩ hK hI eb21 rfl rfl (kX0_movedBy l D kA b21 (-v2) (-v4) h18 h20 v22 eh20) (cwV 2 hts gX1_init_X0_movedBy rfl rfl rfl (by decide +kernel) ⟨Nat.le_of_ble_eq_true rfl, Nat.le_of_ble_eq_true rfl⟩) rfl hl.1 rfl (by first | exact Nat.le_of_ble_eq_true rfl | (simp only [List.map, hm_rf_cat, hm_ci, hm_cl, List.sum_cons, List.sum_nil] <;> decide)) dX1_init_71 ⟨Nat.le_of_ble_eq_true rfl, Nat.le_of_ble_eq_true rfl⟩ (fun H locs hI => ?_)
  refine W.cs (cells' := 4) (slots' := 16) rfl rfl ?_
  obtain ⟨h23, eh23, hf⟩ := hm_b_s hf
  refine hm_putF (ci := 1) (k := 2) (C := RX1) (T := TX1) (N := 4) hx hb hts hiX1 tyX1 tyX1_ok nmX1 hown hK hI rfl (by decide) w11 rfl hin rfl eh23 hm_nqo hm_fqo dX1_init_74 (fun H locs hI => ?_)
  exact hm_vret_e hf hx hb hr hlocks hK hI (Nat.le_of_ble_eq_true rfl) (Nat.le_of_ble_eq_true rfl) dX1_init_77
/-! ==== X1_keepsDepth: BlitBoard$Move.keepsDepth()Z ==== -/
def fX1_keepsDepth (t : Nat) (h0 : hm_H) : Option (Int32 × hm_H) :=
  hm_b (hm_gq 1 0 h0 (some t)) fun v1 =>
  hm_b (hm_gi 3 0 h0 v1) fun v2 =>
  hm_b (hm_gq 1 1 h0 (some t)) fun v3 =>
  hm_b (hm_gi 3 0 h0 v3) fun v4 =>
  if v2 = v4 then
    some ((1 : Int32), h0)
  else
    some ((0 : Int32), h0)
set_option maxRecDepth 100000 in
set_option maxHeartbeats 8000000 in
theorem kX1_keepsDepth (l : Launch) (D : va_G) (kA : Nat → ClassId) (t : Nat) (h0 h' : hm_H) (r : Int32) (hf : fX1_keepsDepth t h0 = some (r, h')) : hm_C l yX1_keepsDepth wsX1_keepsDepth { frames := 0, cells := 0, slots := 0, locals := 0 } D vwCl kA (hm_ty kA) [.ref t] h0 (some (.int r)) h' 0 0 := by
  refine Met.ofW (cc := cX1_keepsDepth) (maxL := 1) (ret := (some .boolean)) (by decide) rfl ?_
  intro p e s m args below meth c s₁ B hml hv
  obtain ⟨hargs, hB⟩ := hv
  have hx := B.exec
  have hb := B.bytes
  have hr := B.returns
  have hts := atoms_spec (ws := wsX1_keepsDepth) B.pre
  have hown : s.vm.findClass RX1 = some m.cls := findClass_of_methodNamed B.named
  have hlocks := B.notSynchronized
  have hK := hB.2
  have hI := hm_start hB
  have w1 := hts (.fieldLink RX1 16 "BlitBoard$Move" "from" "LBlitBoard$Surface;") (by decide +kernel)
  have w2 := hts (.fieldLink RX1 48 "BlitBoard$Surface" "depth" "I") (by decide +kernel)
  have w3 := hts (.fieldLink RX1 22 "BlitBoard$Move" "to" "LBlitBoard$Surface;") (by decide +kernel)
  have hiX1 : ∀ w ∈ wsX10, w ∈ wsX1_keepsDepth := by decide +kernel
  have hiX3 : ∀ w ∈ wsX30, w ∈ wsX1_keepsDepth := by decide +kernel
  rw [show entryFrame m args 1 = entryFrame m ([.ref t] : List Value).toArray 1 from by rw [hargs]]
  have hl := lv_entry ([.ref t]) (n := 1) (Nat.le_of_ble_eq_true rfl)
  rw [lg_entry_eq]
  generalize (lg_sl ([.ref t]) ++ List.replicate (1 - (lg_sl ([.ref t])).length) Slot.unset).toArray = ls at hl ⊢
  have hl : lv_has ls 1 [(0, va_rf (some t))] := hl
  unfold fX1_keepsDepth at hf
  refine hm_aload_n hx hb dX1_keepsDepth_0 rfl (lv_at hl 0 rfl) ?_
  obtain ⟨v1, ev1, hf⟩ := hm_b_s hf
  refine hm_get (ci := 1) (k := 0) (C := RX1) (T := TX1) (N := 4) hx hb hts hiX1 hown hK hI rfl (by decide) w1 (hm_gq_s ev1) dX1_keepsDepth_1 ?_
  obtain ⟨v2, ev2, hf⟩ := hm_b_s hf
  refine hm_get (ci := 3) (k := 0) (C := RX3) (T := TX3) (N := 5) hx hb hts hiX3 hown hK hI rfl (by decide) w2 (hm_gi_s ev2) dX1_keepsDepth_4 ?_
  refine hm_aload_n hx hb dX1_keepsDepth_7 rfl (lv_at hl 0 rfl) ?_
  obtain ⟨v3, ev3, hf⟩ := hm_b_s hf
  refine hm_get (ci := 1) (k := 1) (C := RX1) (T := TX1) (N := 4) hx hb hts hiX1 hown hK hI rfl (by decide) w3 (hm_gq_s ev3) dX1_keepsDepth_8 ?_
  obtain ⟨v4, ev4, hf⟩ := hm_b_s hf
  refine hm_get (ci := 3) (k := 0) (C := RX3) (T := TX3) (N := 5) hx hb hts hiX3 hown hK hI rfl (by decide) w2 (hm_gi_s ev4) dX1_keepsDepth_11 ?_
  refine lv_icmp_ne (tgt := 21) hx hb dX1_keepsDepth_14 (by decide) (fun c => ?_) (fun c => ?_)
  · rw [if_neg c] at hf
    refine lv_iconst (v := (0 : Int32)) hx hb dX1_keepsDepth_21 (by decide) ?_
    exact hm_zret_e hf hx hb hr hlocks hK hI (Nat.le_of_ble_eq_true rfl) (Nat.le_of_ble_eq_true rfl) rfl dX1_keepsDepth_22
  · rw [if_pos c] at hf
    refine lv_iconst (v := (1 : Int32)) hx hb dX1_keepsDepth_17 (by decide) ?_
    refine lv_goto (tgt := 22) hx hb dX1_keepsDepth_18 (by decide) ?_
    exact hm_zret_e hf hx hb hr hlocks hK hI (Nat.le_of_ble_eq_true rfl) (Nat.le_of_ble_eq_true rfl) rfl dX1_keepsDepth_22
/-! ==== X2_init: BlitBoard$Sprite.<init>()V ==== -/
def fX2_init (t : Nat) (h0 : hm_H) : Option hm_H :=
  hm_b (hm_ni 0 5000 (5000 : Int32) h0) fun h1 =>
  hm_b (hm_p 2 0 (va_rf (some h0.2)) h1 (some t)) fun h2 =>
  hm_b (hm_p 2 1 (.int (0 : Int32)) h2 (some t)) fun h3 =>
  hm_b (hm_p 2 2 (.int (0 : Int32)) h3 (some t)) fun h4 =>
  some h4
set_option maxRecDepth 100000 in
set_option maxHeartbeats 8000000 in
theorem kX2_init (l : Launch) (D : va_G) (kA : Nat → ClassId) (t : Nat) (h0 h' : hm_H) (hf : fX2_init t h0 = some h') : hm_C l yX2_init wsX2_init { frames := 1, cells := 1, slots := 5000, locals := 20 } D vwCl kA (hm_ty kA) [.ref t] h0 none h' 1 5000 := by
  refine Met.ofW (cc := cX2_init) (maxL := 1) (ret := none) (by decide) rfl ?_
  intro p e s m args below meth c s₁ B hml hv
  obtain ⟨hargs, hB⟩ := hv
  have hx := B.exec
  have hb := B.bytes
  have hr := B.returns
  have hts := atoms_spec (ws := wsX2_init) B.pre
  have hown : s.vm.findClass RX2 = some m.cls := findClass_of_methodNamed B.named
  have hlocks := B.notSynchronized
  have hin : meth.name = "<init>" := (name_of_methodNamed B.named B.method).1
  have hK := hB.2
  have hI := hm_start hB
  have w1 := hts (.methodLink RX2 3 objectInit) (by decide +kernel)
  have w2 := hts (.instanceMethod objectInit) (by decide +kernel)
  have w3 := hts (.code objectInit ⟨#[0xb1]⟩ 1 none) (by decide +kernel)
  have w4 := hts (.arrayClass .int) (by decide +kernel)
  have w5 := hts (.fieldLink RX2 9 "BlitBoard$Sprite" "bytes" "[I") (by decide +kernel)
  have w6 := hts (.fieldLink RX2 15 "BlitBoard$Sprite" "size" "I") (by decide +kernel)
  have w7 := hts (.fieldLink RX2 19 "BlitBoard$Sprite" "spilled" "Z") (by decide +kernel)
  have hiX2 : ∀ w ∈ wsX20, w ∈ wsX2_init := by decide +kernel
  rw [show entryFrame m args 1 = entryFrame m ([.ref t] : List Value).toArray 1 from by rw [hargs]]
  have hl := lv_entry ([.ref t]) (n := 1) (Nat.le_of_ble_eq_true rfl)
  rw [lg_entry_eq]
  generalize (lg_sl ([.ref t]) ++ List.replicate (1 - (lg_sl ([.ref t])).length) Slot.unset).toArray = ls at hl ⊢
  have hl : lv_has ls 1 [(0, va_rf (some t))] := hl
  unfold fX2_init at hf
  refine hm_aload_n hx hb dX2_init_0 rfl (lv_at hl 0 rfl) ?_
  refine W.objInit hx hb hown w1 w2 w3 rfl (by rw [hml]; exact hl.1) rfl dX2_init_1 (Nat.le_of_ble_eq_true rfl) (Nat.le_of_ble_eq_true rfl) ?_
  refine W.eq (g2 := F0 m 4 ls []) rfl ?_
  refine hm_aload_n hx hb dX2_init_4 rfl (lv_at hl 0 rfl) ?_
  refine lv_sipush (v := (5000 : Int32)) hx hb dX2_init_5 (by decide) ?_
  obtain ⟨h1, eh1, hf⟩ := hm_b_s hf
  refine hm_newi (kd := 0) (t0 := 0) (B := 5000) (ty := .int) hx hb w4 rfl rfl (by decide) hK hI rfl (fun z => z) eh1 (Nat.le_of_ble_eq_true rfl) (Nat.le_of_ble_eq_true rfl) dX2_init_8 (fun H hI => ?_)
  refine W.cs (cells' := 1) (slots' := 5000) rfl rfl ?_
  obtain ⟨h2, eh2, hf⟩ := hm_b_s hf
  refine hm_putF (ci := 2) (k := 0) (C := RX2) (T := TX2) (N := 3) hx hb hts hiX2 tyX2 tyX2_ok nmX2 hown hK hI rfl (by decide) w5 rfl hin rfl eh2 hm_nqa hm_fqa dX2_init_10 (fun H locs hI => ?_)
  refine hm_aload_n hx hb dX2_init_13 rfl (lv_at hl 0 rfl) ?_
  refine lv_iconst (v := (0 : Int32)) hx hb dX2_init_14 (by decide) ?_
  obtain ⟨h3, eh3, hf⟩ := hm_b_s hf
  refine hm_put (ci := 2) (k := 1) (C := RX2) (T := TX2) (N := 3) hx hb hts hiX2 tyX2 tyX2_ok nmX2 hown hK hI rfl (by decide) w6 rfl eh3 rfl rfl dX2_init_15 (fun H locs hI => ?_)
  refine hm_aload_n hx hb dX2_init_18 rfl (lv_at hl 0 rfl) ?_
  refine lv_iconst (v := (0 : Int32)) hx hb dX2_init_19 (by decide) ?_
  obtain ⟨h4, eh4, hf⟩ := hm_b_s hf
  refine hm_put (ci := 2) (k := 2) (C := RX2) (T := TX2) (N := 3) hx hb hts hiX2 tyX2 tyX2_ok nmX2 hown hK hI rfl (by decide) w7 rfl eh4 rfl rfl dX2_init_20 (fun H locs hI => ?_)
  exact hm_vret_e hf hx hb hr hlocks hK hI (Nat.le_of_ble_eq_true rfl) (Nat.le_of_ble_eq_true rfl) dX2_init_23
/-! ==== X2_empty: BlitBoard$Sprite.empty()V ==== -/
def fX2_empty (t : Nat) (h0 : hm_H) : Option hm_H :=
  hm_b (hm_p 2 1 (.int (0 : Int32)) h0 (some t)) fun h1 =>
  hm_b (hm_p 2 2 (.int (0 : Int32)) h1 (some t)) fun h2 =>
  some h2
set_option maxRecDepth 100000 in
set_option maxHeartbeats 8000000 in
theorem kX2_empty (l : Launch) (D : va_G) (kA : Nat → ClassId) (t : Nat) (h0 h' : hm_H) (hf : fX2_empty t h0 = some h') : hm_C l yX2_empty wsX2_empty { frames := 0, cells := 0, slots := 0, locals := 0 } D vwCl kA (hm_ty kA) [.ref t] h0 none h' 0 0 := by
  refine Met.ofW (cc := cX2_empty) (maxL := 1) (ret := none) (by decide) rfl ?_
  intro p e s m args below meth c s₁ B hml hv
  obtain ⟨hargs, hB⟩ := hv
  have hx := B.exec
  have hb := B.bytes
  have hr := B.returns
  have hts := atoms_spec (ws := wsX2_empty) B.pre
  have hown : s.vm.findClass RX2 = some m.cls := findClass_of_methodNamed B.named
  have hlocks := B.notSynchronized
  have hK := hB.2
  have hI := hm_start hB
  have w1 := hts (.fieldLink RX2 15 "BlitBoard$Sprite" "size" "I") (by decide +kernel)
  have w2 := hts (.fieldLink RX2 19 "BlitBoard$Sprite" "spilled" "Z") (by decide +kernel)
  have hiX2 : ∀ w ∈ wsX20, w ∈ wsX2_empty := by decide +kernel
  rw [show entryFrame m args 1 = entryFrame m ([.ref t] : List Value).toArray 1 from by rw [hargs]]
  have hl := lv_entry ([.ref t]) (n := 1) (Nat.le_of_ble_eq_true rfl)
  rw [lg_entry_eq]
  generalize (lg_sl ([.ref t]) ++ List.replicate (1 - (lg_sl ([.ref t])).length) Slot.unset).toArray = ls at hl ⊢
  have hl : lv_has ls 1 [(0, va_rf (some t))] := hl
  unfold fX2_empty at hf
  refine hm_aload_n hx hb dX2_empty_0 rfl (lv_at hl 0 rfl) ?_
  refine lv_iconst (v := (0 : Int32)) hx hb dX2_empty_1 (by decide) ?_
  obtain ⟨h1, eh1, hf⟩ := hm_b_s hf
  refine hm_put (ci := 2) (k := 1) (C := RX2) (T := TX2) (N := 3) hx hb hts hiX2 tyX2 tyX2_ok nmX2 hown hK hI rfl (by decide) w1 rfl eh1 rfl rfl dX2_empty_2 (fun H locs hI => ?_)
  refine hm_aload_n hx hb dX2_empty_5 rfl (lv_at hl 0 rfl) ?_
  refine lv_iconst (v := (0 : Int32)) hx hb dX2_empty_6 (by decide) ?_
  obtain ⟨h2, eh2, hf⟩ := hm_b_s hf
  refine hm_put (ci := 2) (k := 2) (C := RX2) (T := TX2) (N := 3) hx hb hts hiX2 tyX2 tyX2_ok nmX2 hown hK hI rfl (by decide) w2 rfl eh2 rfl rfl dX2_empty_7 (fun H locs hI => ?_)
  exact hm_vret_e hf hx hb hr hlocks hK hI (Nat.le_of_ble_eq_true rfl) (Nat.le_of_ble_eq_true rfl) dX2_empty_10
/-! ==== X2_append: BlitBoard$Sprite.append(I)V ==== -/
def fX2_append (t : Nat) (a1 : Int32) (h0 : hm_H) : Option hm_H :=
  hm_b (hm_gi 2 1 h0 (some t)) fun v1 =>
  if v1 < (5000 : Int32) then
    hm_b (hm_gq 2 0 h0 (some t)) fun v2 =>
    hm_b (hm_gi 2 1 h0 (some t)) fun v3 =>
    hm_b (hm_si 0 h0 v2 v3 a1) fun h4 =>
    hm_b (hm_gi 2 1 h4 (some t)) fun v5 =>
    hm_b (hm_p 2 1 (.int (v5 + (1 : Int32))) h4 (some t)) fun h6 =>
    some h6
  else
    hm_b (hm_p 2 2 (.int (1 : Int32)) h0 (some t)) fun h7 =>
    some h7
set_option maxRecDepth 100000 in
set_option maxHeartbeats 8000000 in
theorem kX2_append (l : Launch) (D : va_G) (kA : Nat → ClassId) (t : Nat) (a1 : Int32) (h0 h' : hm_H) (hf : fX2_append t a1 h0 = some h') : hm_C l yX2_append wsX2_append { frames := 0, cells := 0, slots := 0, locals := 0 } D vwCl kA (hm_ty kA) [.ref t, .int a1] h0 none h' 0 0 := by
  refine Met.ofW (cc := cX2_append) (maxL := 2) (ret := none) (by decide) rfl ?_
  intro p e s m args below meth c s₁ B hml hv
  obtain ⟨hargs, hB⟩ := hv
  have hx := B.exec
  have hb := B.bytes
  have hr := B.returns
  have hts := atoms_spec (ws := wsX2_append) B.pre
  have hown : s.vm.findClass RX2 = some m.cls := findClass_of_methodNamed B.named
  have hlocks := B.notSynchronized
  have hK := hB.2
  have hI := hm_start hB
  have w1 := hts (.fieldLink RX2 15 "BlitBoard$Sprite" "size" "I") (by decide +kernel)
  have w2 := hts (.fieldLink RX2 9 "BlitBoard$Sprite" "bytes" "[I") (by decide +kernel)
  have w3 := hts (.fieldLink RX2 19 "BlitBoard$Sprite" "spilled" "Z") (by decide +kernel)
  have hiX2 : ∀ w ∈ wsX20, w ∈ wsX2_append := by decide +kernel
  rw [show entryFrame m args 2 = entryFrame m ([.ref t, .int a1] : List Value).toArray 2 from by rw [hargs]]
  have hl := lv_entry ([.ref t, .int a1]) (n := 2) (Nat.le_of_ble_eq_true rfl)
  rw [lg_entry_eq]
  generalize (lg_sl ([.ref t, .int a1]) ++ List.replicate (2 - (lg_sl ([.ref t, .int a1])).length) Slot.unset).toArray = ls at hl ⊢
  have hl : lv_has ls 2 [(0, va_rf (some t)), (1, .int a1)] := hl
  unfold fX2_append at hf
  refine hm_aload_n hx hb dX2_append_0 rfl (lv_at hl 0 rfl) ?_
  obtain ⟨v1, ev1, hf⟩ := hm_b_s hf
  refine hm_get (ci := 2) (k := 1) (C := RX2) (T := TX2) (N := 3) hx hb hts hiX2 hown hK hI rfl (by decide) w1 (hm_gi_s ev1) dX2_append_1 ?_
  refine lv_sipush (v := (5000 : Int32)) hx hb dX2_append_4 (by decide) ?_
  refine lv_icmp_lt (tgt := 16) hx hb dX2_append_7 (by decide) (fun c => ?_) (fun c => ?_)
  · rw [if_pos c] at hf
    refine hm_aload_n hx hb dX2_append_16 rfl (lv_at hl 0 rfl) ?_
    obtain ⟨v2, ev2, hf⟩ := hm_b_s hf
    refine hm_get (ci := 2) (k := 0) (C := RX2) (T := TX2) (N := 3) hx hb hts hiX2 hown hK hI rfl (by decide) w2 (hm_gq_s ev2) dX2_append_17 ?_
    refine hm_aload_n hx hb dX2_append_20 rfl (lv_at hl 0 rfl) ?_
    obtain ⟨v3, ev3, hf⟩ := hm_b_s hf
    refine hm_get (ci := 2) (k := 1) (C := RX2) (T := TX2) (N := 3) hx hb hts hiX2 hown hK hI rfl (by decide) w1 (hm_gi_s ev3) dX2_append_21 ?_
    refine lv_iload_n hx hb dX2_append_24 rfl (lv_at hl 1 rfl) ?_
    obtain ⟨h4, eh4, hf⟩ := hm_b_s hf
    refine hm_iast (kd := 0) (t0 := 0) hx hb hK hI rfl eh4 dX2_append_25 (fun H locs hI => ?_)
    refine hm_aload_n hx hb dX2_append_26 rfl (lv_at hl 0 rfl) ?_
    refine lv_dup hx hb dX2_append_27 (hm_rf_cat _) ?_
    obtain ⟨v5, ev5, hf⟩ := hm_b_s hf
    refine hm_get (ci := 2) (k := 1) (C := RX2) (T := TX2) (N := 3) hx hb hts hiX2 hown hK hI rfl (by decide) w1 (hm_gi_s ev5) dX2_append_28 ?_
    refine lv_iconst (v := (1 : Int32)) hx hb dX2_append_31 (by decide) ?_
    refine lv_iadd hx hb dX2_append_32 ?_
    obtain ⟨h6, eh6, hf⟩ := hm_b_s hf
    refine hm_put (ci := 2) (k := 1) (C := RX2) (T := TX2) (N := 3) hx hb hts hiX2 tyX2 tyX2_ok nmX2 hown hK hI rfl (by decide) w1 rfl eh6 rfl rfl dX2_append_33 (fun H locs hI => ?_)
    exact hm_vret_e hf hx hb hr hlocks hK hI (Nat.le_of_ble_eq_true rfl) (Nat.le_of_ble_eq_true rfl) dX2_append_36
  · rw [if_neg c] at hf
    refine hm_aload_n hx hb dX2_append_10 rfl (lv_at hl 0 rfl) ?_
    refine lv_iconst (v := (1 : Int32)) hx hb dX2_append_11 (by decide) ?_
    obtain ⟨h7, eh7, hf⟩ := hm_b_s hf
    refine hm_put (ci := 2) (k := 2) (C := RX2) (T := TX2) (N := 3) hx hb hts hiX2 tyX2 tyX2_ok nmX2 hown hK hI rfl (by decide) w3 rfl eh7 rfl rfl dX2_append_12 (fun H locs hI => ?_)
    exact hm_vret_e hf hx hb hr hlocks hK hI (Nat.le_of_ble_eq_true rfl) (Nat.le_of_ble_eq_true rfl) dX2_append_15
/-! ==== X2_stretchLength: BlitBoard$Sprite.stretchLength(I)I ==== -/
def fX2_stretchLength (a1 : Int32) (h0 : hm_H) : Option (Int32 × hm_H) :=
  some (a1 &&& (63 : Int32), h0)
set_option maxRecDepth 100000 in
set_option maxHeartbeats 8000000 in
theorem kX2_stretchLength (l : Launch) (D : va_G) (kA : Nat → ClassId) (a1 : Int32) (h0 h' : hm_H) (r : Int32) (hf : fX2_stretchLength a1 h0 = some (r, h')) : hm_C l yX2_stretchLength wsX2_stretchLength { frames := 0, cells := 0, slots := 0, locals := 0 } D vwCl kA (hm_ty kA) [.int a1] h0 (some (.int r)) h' 0 0 := by
  refine Met.ofW (cc := cX2_stretchLength) (maxL := 1) (ret := (some .int)) (by decide) rfl ?_
  intro p e s m args below meth c s₁ B hml hv
  obtain ⟨hargs, hB⟩ := hv
  have hx := B.exec
  have hb := B.bytes
  have hr := B.returns
  have hts := atoms_spec (ws := wsX2_stretchLength) B.pre
  have hown : s.vm.findClass RX2 = some m.cls := findClass_of_methodNamed B.named
  have hlocks := B.notSynchronized
  have hK := hB.2
  have hI := hm_start hB
  rw [show entryFrame m args 1 = entryFrame m ([.int a1] : List Value).toArray 1 from by rw [hargs]]
  have hl := lv_entry ([.int a1]) (n := 1) (Nat.le_of_ble_eq_true rfl)
  rw [lg_entry_eq]
  generalize (lg_sl ([.int a1]) ++ List.replicate (1 - (lg_sl ([.int a1])).length) Slot.unset).toArray = ls at hl ⊢
  have hl : lv_has ls 1 [(0, .int a1)] := hl
  unfold fX2_stretchLength at hf
  refine lv_iload_n hx hb dX2_stretchLength_0 rfl (lv_at hl 0 rfl) ?_
  refine lv_bipush (v := (63 : Int32)) hx hb dX2_stretchLength_1 (by decide) ?_
  refine lv_iand hx hb dX2_stretchLength_3 ?_
  exact hm_iret_e hf hx hb hr hlocks hK hI (Nat.le_of_ble_eq_true rfl) (Nat.le_of_ble_eq_true rfl) dX2_stretchLength_4
/-! ==== X2_isStretch: BlitBoard$Sprite.isStretch(I)Z ==== -/
def fX2_isStretch (a1 : Int32) (h0 : hm_H) : Option (Int32 × hm_H) :=
  hm_b2 (fX2_stretchLength a1 h0) fun v2 h1 =>
  if v2 ≤ 0 then
    some ((0 : Int32), h1)
  else
    if (191 : Int32) < a1 then
      some ((0 : Int32), h1)
    else
      some ((1 : Int32), h1)
set_option maxRecDepth 100000 in
set_option maxHeartbeats 8000000 in
theorem kX2_isStretch (l : Launch) (D : va_G) (kA : Nat → ClassId) (a1 : Int32) (h0 h' : hm_H) (r : Int32) (hf : fX2_isStretch a1 h0 = some (r, h')) : hm_C l yX2_isStretch wsX2_isStretch { frames := 1, cells := 0, slots := 0, locals := 20 } D vwCl kA (hm_ty kA) [.int a1] h0 (some (.int r)) h' 0 0 := by
  refine Met.ofW (cc := cX2_isStretch) (maxL := 1) (ret := (some .boolean)) (by decide) rfl ?_
  intro p e s m args below meth c s₁ B hml hv
  obtain ⟨hargs, hB⟩ := hv
  have hx := B.exec
  have hb := B.bytes
  have hr := B.returns
  have hts := atoms_spec (ws := wsX2_isStretch) B.pre
  have hown : s.vm.findClass RX2 = some m.cls := findClass_of_methodNamed B.named
  have hlocks := B.notSynchronized
  have hK := hB.2
  have hI := hm_start hB
  rw [show entryFrame m args 1 = entryFrame m ([.int a1] : List Value).toArray 1 from by rw [hargs]]
  have hl := lv_entry ([.int a1]) (n := 1) (Nat.le_of_ble_eq_true rfl)
  rw [lg_entry_eq]
  generalize (lg_sl ([.int a1]) ++ List.replicate (1 - (lg_sl ([.int a1])).length) Slot.unset).toArray = ls at hl ⊢
  have hl : lv_has ls 1 [(0, .int a1)] := hl
  unfold fX2_isStretch at hf
  refine lv_iload_n hx hb dX2_isStretch_0 rfl (lv_at hl 0 rfl) ?_
  obtain ⟨v2, h1, eh1, hf⟩ := hm_b2_s hf
  refine hm_cS (As := [.int a1]) (rest := []) ⟨hx, hb, hml, hown, hts⟩ hK hI (kX2_stretchLength l D kA a1 h0 h1 v2 eh1) (va_cwS 1 hts gX2_isStretch_X2_stretchLength rfl rfl rfl (by decide +kernel) ⟨Nat.le_of_ble_eq_true rfl, Nat.le_of_ble_eq_true rfl⟩) rfl hl.1 rfl (by first | exact Nat.le_of_ble_eq_true rfl | (simp only [List.map, hm_rf_cat, hm_ci, hm_cl, List.sum_cons, List.sum_nil] <;> decide)) dX2_isStretch_1 ⟨Nat.le_of_ble_eq_true rfl, Nat.le_of_ble_eq_true rfl⟩ (fun H locs hI => ?_)
  refine lv_if_le (tgt := 18) hx hb dX2_isStretch_4 (by decide) (fun c => ?_) (fun c => ?_)
  · rw [if_pos c] at hf
    refine lv_iconst (v := (0 : Int32)) hx hb dX2_isStretch_18 (by decide) ?_
    exact hm_zret_e hf hx hb hr hlocks hK hI (Nat.le_of_ble_eq_true rfl) (Nat.le_of_ble_eq_true rfl) rfl dX2_isStretch_19
  · rw [if_neg c] at hf
    refine lv_iload_n hx hb dX2_isStretch_7 rfl (lv_at hl 0 rfl) ?_
    refine lv_sipush (v := (191 : Int32)) hx hb dX2_isStretch_8 (by decide) ?_
    refine lv_icmp_gt (tgt := 18) hx hb dX2_isStretch_11 (by decide) (fun c => ?_) (fun c => ?_)
    · rw [if_pos c] at hf
      refine lv_iconst (v := (0 : Int32)) hx hb dX2_isStretch_18 (by decide) ?_
      exact hm_zret_e hf hx hb hr hlocks hK hI (Nat.le_of_ble_eq_true rfl) (Nat.le_of_ble_eq_true rfl) rfl dX2_isStretch_19
    · rw [if_neg c] at hf
      refine lv_iconst (v := (1 : Int32)) hx hb dX2_isStretch_14 (by decide) ?_
      refine lv_goto (tgt := 19) hx hb dX2_isStretch_15 (by decide) ?_
      exact hm_zret_e hf hx hb hr hlocks hK hI (Nat.le_of_ble_eq_true rfl) (Nat.le_of_ble_eq_true rfl) rfl dX2_isStretch_19
/-! ==== X2_dotBytes: BlitBoard$Sprite.dotBytes(I)I ==== -/
def fX2_dotBytes (a1 : Int32) (h0 : hm_H) : Option (Int32 × hm_H) :=
  if (64 : Int32) ≤ a1 then
    if (128 : Int32) ≤ a1 then
      some ((1 : Int32), h0)
    else
      hm_b2 (fX2_stretchLength a1 h0) fun v2 h1 =>
      some (v2, h1)
  else
    some ((0 : Int32), h0)
set_option maxRecDepth 100000 in
set_option maxHeartbeats 8000000 in
theorem kX2_dotBytes (l : Launch) (D : va_G) (kA : Nat → ClassId) (a1 : Int32) (h0 h' : hm_H) (r : Int32) (hf : fX2_dotBytes a1 h0 = some (r, h')) : hm_C l yX2_dotBytes wsX2_dotBytes { frames := 1, cells := 0, slots := 0, locals := 20 } D vwCl kA (hm_ty kA) [.int a1] h0 (some (.int r)) h' 0 0 := by
  refine Met.ofW (cc := cX2_dotBytes) (maxL := 1) (ret := (some .int)) (by decide) rfl ?_
  intro p e s m args below meth c s₁ B hml hv
  obtain ⟨hargs, hB⟩ := hv
  have hx := B.exec
  have hb := B.bytes
  have hr := B.returns
  have hts := atoms_spec (ws := wsX2_dotBytes) B.pre
  have hown : s.vm.findClass RX2 = some m.cls := findClass_of_methodNamed B.named
  have hlocks := B.notSynchronized
  have hK := hB.2
  have hI := hm_start hB
  rw [show entryFrame m args 1 = entryFrame m ([.int a1] : List Value).toArray 1 from by rw [hargs]]
  have hl := lv_entry ([.int a1]) (n := 1) (Nat.le_of_ble_eq_true rfl)
  rw [lg_entry_eq]
  generalize (lg_sl ([.int a1]) ++ List.replicate (1 - (lg_sl ([.int a1])).length) Slot.unset).toArray = ls at hl ⊢
  have hl : lv_has ls 1 [(0, .int a1)] := hl
  unfold fX2_dotBytes at hf
  refine lv_iload_n hx hb dX2_dotBytes_0 rfl (lv_at hl 0 rfl) ?_
  refine lv_bipush (v := (64 : Int32)) hx hb dX2_dotBytes_1 (by decide) ?_
  refine lv_icmp_ge (tgt := 8) hx hb dX2_dotBytes_3 (by decide) (fun c => ?_) (fun c => ?_)
  · rw [if_pos c] at hf
    refine lv_iload_n hx hb dX2_dotBytes_8 rfl (lv_at hl 0 rfl) ?_
    refine lv_sipush (v := (128 : Int32)) hx hb dX2_dotBytes_9 (by decide) ?_
    refine lv_icmp_ge (tgt := 22) hx hb dX2_dotBytes_12 (by decide) (fun c => ?_) (fun c => ?_)
    · rw [if_pos c] at hf
      refine lv_iconst (v := (1 : Int32)) hx hb dX2_dotBytes_22 (by decide) ?_
      exact hm_iret_e hf hx hb hr hlocks hK hI (Nat.le_of_ble_eq_true rfl) (Nat.le_of_ble_eq_true rfl) dX2_dotBytes_23
    · rw [if_neg c] at hf
      refine lv_iload_n hx hb dX2_dotBytes_15 rfl (lv_at hl 0 rfl) ?_
      obtain ⟨v2, h1, eh1, hf⟩ := hm_b2_s hf
      refine hm_cS (As := [.int a1]) (rest := []) ⟨hx, hb, hml, hown, hts⟩ hK hI (kX2_stretchLength l D kA a1 h0 h1 v2 eh1) (va_cwS 1 hts gX2_dotBytes_X2_stretchLength rfl rfl rfl (by decide +kernel) ⟨Nat.le_of_ble_eq_true rfl, Nat.le_of_ble_eq_true rfl⟩) rfl hl.1 rfl (by first | exact Nat.le_of_ble_eq_true rfl | (simp only [List.map, hm_rf_cat, hm_ci, hm_cl, List.sum_cons, List.sum_nil] <;> decide)) dX2_dotBytes_16 ⟨Nat.le_of_ble_eq_true rfl, Nat.le_of_ble_eq_true rfl⟩ (fun H locs hI => ?_)
      refine lv_goto (tgt := 23) hx hb dX2_dotBytes_19 (by decide) ?_
      exact hm_iret_e hf hx hb hr hlocks hK hI (Nat.le_of_ble_eq_true rfl) (Nat.le_of_ble_eq_true rfl) dX2_dotBytes_23
  · rw [if_neg c] at hf
    refine lv_iconst (v := (0 : Int32)) hx hb dX2_dotBytes_6 (by decide) ?_
    exact hm_iret_e hf hx hb hr hlocks hK hI (Nat.le_of_ble_eq_true rfl) (Nat.le_of_ble_eq_true rfl) dX2_dotBytes_7
/-! ==== X2_firstWrong: BlitBoard$Sprite.firstWrong(I)I ==== -/
def fX2_firstWrong_117 (K13 : Option Nat → Int32 → Int32 → Int32 → Int32 → Int32 → Int32 → hm_H → Option (Int32 × hm_H)) (x0 : Option Nat) (x1 : Int32) (x2 : Int32) (x3 : Int32) (x4 : Int32) (x5 : Int32) (x6 : Int32) (h : hm_H) : Option (Int32 × hm_H) :=
  K13 x0 x1 x2 x3 x4 x5 (x6 + (1 : Int32)) h
def fX2_firstWrong_13 (K13 : Option Nat → Int32 → Int32 → Int32 → Int32 → Int32 → Int32 → hm_H → Option (Int32 × hm_H)) (x0 : Option Nat) (x1 : Int32) (x2 : Int32) (x3 : Int32) (x4 : Int32) (x5 : Int32) (x6 : Int32) (h : hm_H) : Option (Int32 × hm_H) :=
  hm_b (hm_gi 2 1 h x0) fun v1 =>
  if v1 ≤ x6 then
    if x5 = 0 then
      some ((0 : Int32), h)
    else
      hm_b (hm_gi 2 1 h x0) fun v2 =>
      some (v2 + (1 : Int32), h)
  else
    hm_b (hm_gq 2 0 h x0) fun v3 =>
    hm_b (hm_ai 0 h v3 x6) fun v4 =>
    if x4 ≤ 0 then
      if x2 = (64 : Int32) then
        some (x6 + (1 : Int32), h)
      else
        if v4 = 0 then
          fX2_firstWrong_117 K13 x0 x1 (x2 + (1 : Int32)) (0 : Int32) x4 (0 : Int32) x6 h
        else
          hm_b2 (fX2_stretchLength v4 h) fun v6 h5 =>
          hm_let (x3 + v6) fun v7 =>
          hm_b2 (fX2_isStretch v4 h5) fun v9 h8 =>
          if v9 = 0 then
            some (x6 + (1 : Int32), h8)
          else
            if v7 ≤ (64 : Int32) then
              hm_b2 (fX2_dotBytes v4 h8) fun v11 h10 =>
              fX2_firstWrong_117 K13 x0 x1 x2 v7 v11 (1 : Int32) x6 h10
            else
              some (x6 + (1 : Int32), h8)
    else
      if v4 ≤ x1 then
        fX2_firstWrong_117 K13 x0 x1 x2 x3 (x4 + (-1 : Int32)) x5 x6 h
      else
        some (x6 + (1 : Int32), h)
def fX2_firstWrong (t : Nat) (a1 : Int32) (h0 : hm_H) : Option (Int32 × hm_H) :=
  hm_loop (fun _ _ _ _ _ _ _ _ => none) (fX2_firstWrong_13) hm_fu (some t) a1 (0 : Int32) (0 : Int32) (0 : Int32) (0 : Int32) (0 : Int32) h0
set_option maxRecDepth 100000 in
set_option maxHeartbeats 8000000 in
theorem kX2_firstWrong (l : Launch) (D : va_G) (kA : Nat → ClassId) (t : Nat) (a1 : Int32) (h0 h' : hm_H) (r : Int32) (hf : fX2_firstWrong t a1 h0 = some (r, h')) : hm_C l yX2_firstWrong wsX2_firstWrong { frames := 2, cells := 0, slots := 0, locals := 40 } D vwCl kA (hm_ty kA) [.ref t, .int a1] h0 (some (.int r)) h' 0 0 := by
  refine Met.ofW (cc := cX2_firstWrong) (maxL := 8) (ret := (some .int)) (by decide) rfl ?_
  intro p e s m args below meth c s₁ B hml hv
  obtain ⟨hargs, hB⟩ := hv
  have hx := B.exec
  have hb := B.bytes
  have hr := B.returns
  have hts := atoms_spec (ws := wsX2_firstWrong) B.pre
  have hown : s.vm.findClass RX2 = some m.cls := findClass_of_methodNamed B.named
  have hlocks := B.notSynchronized
  have hK := hB.2
  have hI := hm_start hB
  have w1 := hts (.fieldLink RX2 15 "BlitBoard$Sprite" "size" "I") (by decide +kernel)
  have w2 := hts (.fieldLink RX2 9 "BlitBoard$Sprite" "bytes" "[I") (by decide +kernel)
  have hiX2 : ∀ w ∈ wsX20, w ∈ wsX2_firstWrong := by decide +kernel
  have B13 : ∀ (fu : Nat) (x0 : Option Nat) (x1 : Int32) (x2 : Int32) (x3 : Int32) (x4 : Int32) (x5 : Int32) (x6 : Int32) (h : hm_H), hm_loop (fun _ _ _ _ _ _ _ _ => none) (fX2_firstWrong_13) fu x0 x1 x2 x3 x4 x5 x6 h = some (r, h') → ∀ (H : Heap) (locs : List Loc) (ls : Array Slot), hm_I D vwCl kA (hm_A h0) s.heap h H locs → lv_has ls 8 [(0, va_rf x0), (1, .int x1), (2, .int x2), (3, .int x3), (4, .int x4), (5, .int x5), (6, .int x6)] → W p l e (headSpec wsX2_firstWrong { frames := 2, cells := 0, slots := 0, locals := 40 }).room s m args below meth c H locs 0 0 (MQ below (hm_Q D vwCl kA (hm_ty kA) h0 (some (.int r)) h') args s 0 0 (hm_A h0)) (F0 m 13 ls []) := by
    intro fu
    induction fu with
    | zero => intro x0 x1 x2 x3 x4 x5 x6 h hf; cases hf
    | succ fu ih13 =>
      rw [hm_loop_s]
      generalize hm_loop (fun _ _ _ _ _ _ _ _ => none) (fX2_firstWrong_13) fu = K13 at ih13 ⊢
      have B117 : ∀ (x0 : Option Nat) (x1 : Int32) (x2 : Int32) (x3 : Int32) (x4 : Int32) (x5 : Int32) (x6 : Int32) (h : hm_H), fX2_firstWrong_117 K13 x0 x1 x2 x3 x4 x5 x6 h = some (r, h') → ∀ (H : Heap) (locs : List Loc) (ls : Array Slot), hm_I D vwCl kA (hm_A h0) s.heap h H locs → lv_has ls 8 [(0, va_rf x0), (1, .int x1), (2, .int x2), (3, .int x3), (4, .int x4), (5, .int x5), (6, .int x6)] → W p l e (headSpec wsX2_firstWrong { frames := 2, cells := 0, slots := 0, locals := 40 }).room s m args below meth c H locs 0 0 (MQ below (hm_Q D vwCl kA (hm_ty kA) h0 (some (.int r)) h') args s 0 0 (hm_A h0)) (F0 m 117 ls []) := by
        intro x0 x1 x2 x3 x4 x5 x6 h hf H locs ls hI hl
        unfold fX2_firstWrong_117 at hf
        refine lv_iinc (v := x6 + (1 : Int32)) (lv' := [(6, .int (x6 + (1 : Int32))), (0, va_rf x0), (1, .int x1), (2, .int x2), (3, .int x3), (4, .int x4), (5, .int x5)]) hx hb dX2_firstWrong_117 hl (k := 6) rfl rfl (by decide) rfl (fun ls hl => ?_)
        refine lv_goto (tgt := 13) hx hb dX2_firstWrong_120 (by decide) ?_
        exact ih13 x0 x1 x2 x3 x4 x5 (x6 + (1 : Int32)) h hf _ _ _ hI (lv_sub hl [1, 2, 3, 4, 5, 6, 0] rfl)
      intro x0 x1 x2 x3 x4 x5 x6 h hf H locs ls hI hl
      unfold fX2_firstWrong_13 at hf
      refine lv_iload hx hb dX2_firstWrong_13 (lv_at hl 6 rfl) ?_
      refine hm_aload_n hx hb dX2_firstWrong_15 rfl (lv_at hl 0 rfl) ?_
      obtain ⟨v1, ev1, hf⟩ := hm_b_s hf
      refine hm_get (ci := 2) (k := 1) (C := RX2) (T := TX2) (N := 3) hx hb hts hiX2 hown hK hI rfl (by decide) w1 (hm_gi_s ev1) dX2_firstWrong_16 ?_
      refine lv_icmp_ge (tgt := 123) hx hb dX2_firstWrong_19 (by decide) (fun c => ?_) (fun c => ?_)
      · rw [if_pos c] at hf
        refine lv_iload hx hb dX2_firstWrong_123 (lv_at hl 5 rfl) ?_
        refine lv_if_eq (tgt := 137) hx hb dX2_firstWrong_125 (by decide) (fun c => ?_) (fun c => ?_)
        · rw [if_pos c] at hf
          refine lv_iconst (v := (0 : Int32)) hx hb dX2_firstWrong_137 (by decide) ?_
          exact hm_iret_e hf hx hb hr hlocks hK hI (Nat.le_of_ble_eq_true rfl) (Nat.le_of_ble_eq_true rfl) dX2_firstWrong_138
        · rw [if_neg c] at hf
          refine hm_aload_n hx hb dX2_firstWrong_128 rfl (lv_at hl 0 rfl) ?_
          obtain ⟨v2, ev2, hf⟩ := hm_b_s hf
          refine hm_get (ci := 2) (k := 1) (C := RX2) (T := TX2) (N := 3) hx hb hts hiX2 hown hK hI rfl (by decide) w1 (hm_gi_s ev2) dX2_firstWrong_129 ?_
          refine lv_iconst (v := (1 : Int32)) hx hb dX2_firstWrong_132 (by decide) ?_
          refine lv_iadd hx hb dX2_firstWrong_133 ?_
          refine lv_goto (tgt := 138) hx hb dX2_firstWrong_134 (by decide) ?_
          exact hm_iret_e hf hx hb hr hlocks hK hI (Nat.le_of_ble_eq_true rfl) (Nat.le_of_ble_eq_true rfl) dX2_firstWrong_138
      · rw [if_neg c] at hf
        refine hm_aload_n hx hb dX2_firstWrong_22 rfl (lv_at hl 0 rfl) ?_
        obtain ⟨v3, ev3, hf⟩ := hm_b_s hf
        refine hm_get (ci := 2) (k := 0) (C := RX2) (T := TX2) (N := 3) hx hb hts hiX2 hown hK hI rfl (by decide) w2 (hm_gq_s ev3) dX2_firstWrong_23 ?_
        refine lv_iload hx hb dX2_firstWrong_26 (lv_at hl 6 rfl) ?_
        obtain ⟨v4, ev4, hf⟩ := hm_b_s hf
        refine hm_iald (kd := 0) (t0 := 0) hx hb hK hI rfl ev4 dX2_firstWrong_28 ?_
        refine lv_istore (lv' := [(7, .int v4), (0, va_rf x0), (1, .int x1), (2, .int x2), (3, .int x3), (4, .int x4), (5, .int x5), (6, .int x6)]) hx hb dX2_firstWrong_29 hl (by decide) rfl (fun ls hl => ?_)
        refine lv_iload hx hb dX2_firstWrong_31 (lv_at hl 5 rfl) ?_
        refine lv_if_le (tgt := 53) hx hb dX2_firstWrong_33 (by decide) (fun c => ?_) (fun c => ?_)
        · rw [if_pos c] at hf
          refine lv_iload_n hx hb dX2_firstWrong_53 rfl (lv_at hl 3 rfl) ?_
          refine lv_bipush (v := (64 : Int32)) hx hb dX2_firstWrong_54 (by decide) ?_
          refine lv_icmp_ne (tgt := 64) hx hb dX2_firstWrong_56 (by decide) (fun c => ?_) (fun c => ?_)
          · rw [if_neg c] at hf
            refine lv_iload hx hb dX2_firstWrong_64 (lv_at hl 0 rfl) ?_
            refine lv_if_ne (tgt := 80) hx hb dX2_firstWrong_66 (by decide) (fun c => ?_) (fun c => ?_)
            · rw [if_neg c] at hf
              refine lv_iload_n hx hb dX2_firstWrong_80 rfl (lv_at hl 4 rfl) ?_
              refine lv_iload hx hb dX2_firstWrong_81 (lv_at hl 0 rfl) ?_
              obtain ⟨v6, h5, eh5, hf⟩ := hm_b2_s hf
              refine hm_cS (As := [.int v4]) (rest := [.int x3]) ⟨hx, hb, hml, hown, hts⟩ hK hI (kX2_stretchLength l D kA v4 h h5 v6 eh5) (va_cwS 1 hts gX2_firstWrong_X2_stretchLength rfl rfl rfl (by decide +kernel) ⟨Nat.le_of_ble_eq_true rfl, Nat.le_of_ble_eq_true rfl⟩) rfl hl.1 rfl (by first | exact Nat.le_of_ble_eq_true rfl | (simp only [List.map, hm_rf_cat, hm_ci, hm_cl, List.sum_cons, List.sum_nil] <;> decide)) dX2_firstWrong_83 ⟨Nat.le_of_ble_eq_true rfl, Nat.le_of_ble_eq_true rfl⟩ (fun H locs hI => ?_)
              refine lv_iadd hx hb dX2_firstWrong_86 ?_
              obtain ⟨v7, ev7, hf⟩ := hm_let_s hf
              refine hm_ti ev7 ?_
              refine lv_istore_n (lv' := [(3, .int v7), (7, .int v4), (0, va_rf x0), (1, .int x1), (2, .int x2), (4, .int x4), (5, .int x5), (6, .int x6)]) hx hb dX2_firstWrong_87 rfl hl (by decide) rfl (fun ls hl => ?_)
              refine lv_iload hx hb dX2_firstWrong_88 (lv_at hl 1 rfl) ?_
              obtain ⟨v9, h8, eh8, hf⟩ := hm_b2_s hf
              refine hm_cS (As := [.int v4]) (rest := []) ⟨hx, hb, hml, hown, hts⟩ hK hI (kX2_isStretch l D kA v4 h5 h8 v9 eh8) (va_cwS 1 hts gX2_firstWrong_X2_isStretch rfl rfl rfl (by decide +kernel) ⟨Nat.le_of_ble_eq_true rfl, Nat.le_of_ble_eq_true rfl⟩) rfl hl.1 rfl (by first | exact Nat.le_of_ble_eq_true rfl | (simp only [List.map, hm_rf_cat, hm_ci, hm_cl, List.sum_cons, List.sum_nil] <;> decide)) dX2_firstWrong_90 ⟨Nat.le_of_ble_eq_true rfl, Nat.le_of_ble_eq_true rfl⟩ (fun H locs hI => ?_)
              refine lv_if_eq (tgt := 102) hx hb dX2_firstWrong_93 (by decide) (fun c => ?_) (fun c => ?_)
              · rw [if_pos c] at hf
                refine lv_iload hx hb dX2_firstWrong_102 (lv_at hl 7 rfl) ?_
                refine lv_iconst (v := (1 : Int32)) hx hb dX2_firstWrong_104 (by decide) ?_
                refine lv_iadd hx hb dX2_firstWrong_105 ?_
                exact hm_iret_e hf hx hb hr hlocks hK hI (Nat.le_of_ble_eq_true rfl) (Nat.le_of_ble_eq_true rfl) dX2_firstWrong_106
              · rw [if_neg c] at hf
                refine lv_iload_n hx hb dX2_firstWrong_96 rfl (lv_at hl 0 rfl) ?_
                refine lv_bipush (v := (64 : Int32)) hx hb dX2_firstWrong_97 (by decide) ?_
                refine lv_icmp_le (tgt := 107) hx hb dX2_firstWrong_99 (by decide) (fun c => ?_) (fun c => ?_)
                · rw [if_pos c] at hf
                  refine lv_iload hx hb dX2_firstWrong_107 (lv_at hl 1 rfl) ?_
                  obtain ⟨v11, h10, eh10, hf⟩ := hm_b2_s hf
                  refine hm_cS (As := [.int v4]) (rest := []) ⟨hx, hb, hml, hown, hts⟩ hK hI (kX2_dotBytes l D kA v4 h8 h10 v11 eh10) (va_cwS 1 hts gX2_firstWrong_X2_dotBytes rfl rfl rfl (by decide +kernel) ⟨Nat.le_of_ble_eq_true rfl, Nat.le_of_ble_eq_true rfl⟩) rfl hl.1 rfl (by first | exact Nat.le_of_ble_eq_true rfl | (simp only [List.map, hm_rf_cat, hm_ci, hm_cl, List.sum_cons, List.sum_nil] <;> decide)) dX2_firstWrong_109 ⟨Nat.le_of_ble_eq_true rfl, Nat.le_of_ble_eq_true rfl⟩ (fun H locs hI => ?_)
                  refine lv_istore (lv' := [(4, .int v11), (3, .int v7), (7, .int v4), (0, va_rf x0), (1, .int x1), (2, .int x2), (5, .int x5), (6, .int x6)]) hx hb dX2_firstWrong_112 hl (by decide) rfl (fun ls hl => ?_)
                  refine lv_iconst (v := (1 : Int32)) hx hb dX2_firstWrong_114 (by decide) ?_
                  refine lv_istore (lv' := [(5, .int (1 : Int32)), (4, .int v11), (3, .int v7), (7, .int v4), (0, va_rf x0), (1, .int x1), (2, .int x2), (6, .int x6)]) hx hb dX2_firstWrong_115 hl (by decide) rfl (fun ls hl => ?_)
                  exact B117 x0 x1 x2 v7 v11 (1 : Int32) x6 h10 hf _ _ _ hI (lv_sub hl [4, 5, 6, 2, 1, 0, 7] rfl)
                · rw [if_neg c] at hf
                  refine lv_iload hx hb dX2_firstWrong_102 (lv_at hl 7 rfl) ?_
                  refine lv_iconst (v := (1 : Int32)) hx hb dX2_firstWrong_104 (by decide) ?_
                  refine lv_iadd hx hb dX2_firstWrong_105 ?_
                  exact hm_iret_e hf hx hb hr hlocks hK hI (Nat.le_of_ble_eq_true rfl) (Nat.le_of_ble_eq_true rfl) dX2_firstWrong_106
            · rw [if_pos c] at hf
              refine lv_iinc (v := x2 + (1 : Int32)) (lv' := [(2, .int (x2 + (1 : Int32))), (7, .int v4), (0, va_rf x0), (1, .int x1), (3, .int x3), (4, .int x4), (5, .int x5), (6, .int x6)]) hx hb dX2_firstWrong_69 hl (k := 3) rfl rfl (by decide) rfl (fun ls hl => ?_)
              refine lv_iconst (v := (0 : Int32)) hx hb dX2_firstWrong_72 (by decide) ?_
              refine lv_istore_n (lv' := [(3, .int (0 : Int32)), (2, .int (x2 + (1 : Int32))), (7, .int v4), (0, va_rf x0), (1, .int x1), (4, .int x4), (5, .int x5), (6, .int x6)]) hx hb dX2_firstWrong_73 rfl hl (by decide) rfl (fun ls hl => ?_)
              refine lv_iconst (v := (0 : Int32)) hx hb dX2_firstWrong_74 (by decide) ?_
              refine lv_istore (lv' := [(5, .int (0 : Int32)), (3, .int (0 : Int32)), (2, .int (x2 + (1 : Int32))), (7, .int v4), (0, va_rf x0), (1, .int x1), (4, .int x4), (6, .int x6)]) hx hb dX2_firstWrong_75 hl (by decide) rfl (fun ls hl => ?_)
              refine lv_goto (tgt := 117) hx hb dX2_firstWrong_77 (by decide) ?_
              exact B117 x0 x1 (x2 + (1 : Int32)) (0 : Int32) x4 (0 : Int32) x6 h hf _ _ _ hI (lv_sub hl [4, 5, 2, 1, 6, 0, 7] rfl)
          · rw [if_pos c] at hf
            refine lv_iload hx hb dX2_firstWrong_59 (lv_at hl 7 rfl) ?_
            refine lv_iconst (v := (1 : Int32)) hx hb dX2_firstWrong_61 (by decide) ?_
            refine lv_iadd hx hb dX2_firstWrong_62 ?_
            exact hm_iret_e hf hx hb hr hlocks hK hI (Nat.le_of_ble_eq_true rfl) (Nat.le_of_ble_eq_true rfl) dX2_firstWrong_63
        · rw [if_neg c] at hf
          refine lv_iload hx hb dX2_firstWrong_36 (lv_at hl 0 rfl) ?_
          refine lv_iload_n hx hb dX2_firstWrong_38 rfl (lv_at hl 2 rfl) ?_
          refine lv_icmp_le (tgt := 47) hx hb dX2_firstWrong_39 (by decide) (fun c => ?_) (fun c => ?_)
          · rw [if_pos c] at hf
            refine lv_iinc (v := x4 + (-1 : Int32)) (lv' := [(4, .int (x4 + (-1 : Int32))), (7, .int v4), (0, va_rf x0), (1, .int x1), (2, .int x2), (3, .int x3), (5, .int x5), (6, .int x6)]) hx hb dX2_firstWrong_47 hl (k := 5) rfl rfl (by decide) rfl (fun ls hl => ?_)
            refine lv_goto (tgt := 117) hx hb dX2_firstWrong_50 (by decide) ?_
            exact B117 x0 x1 x2 x3 (x4 + (-1 : Int32)) x5 x6 h hf _ _ _ hI (lv_sub hl [2, 3, 4, 5, 0, 6, 7] rfl)
          · rw [if_neg c] at hf
            refine lv_iload hx hb dX2_firstWrong_42 (lv_at hl 7 rfl) ?_
            refine lv_iconst (v := (1 : Int32)) hx hb dX2_firstWrong_44 (by decide) ?_
            refine lv_iadd hx hb dX2_firstWrong_45 ?_
            exact hm_iret_e hf hx hb hr hlocks hK hI (Nat.le_of_ble_eq_true rfl) (Nat.le_of_ble_eq_true rfl) dX2_firstWrong_46
  rw [show entryFrame m args 8 = entryFrame m ([.ref t, .int a1] : List Value).toArray 8 from by rw [hargs]]
  have hl := lv_entry ([.ref t, .int a1]) (n := 8) (Nat.le_of_ble_eq_true rfl)
  rw [lg_entry_eq]
  generalize (lg_sl ([.ref t, .int a1]) ++ List.replicate (8 - (lg_sl ([.ref t, .int a1])).length) Slot.unset).toArray = ls at hl ⊢
  have hl : lv_has ls 8 [(0, va_rf (some t)), (1, .int a1)] := hl
  unfold fX2_firstWrong at hf
  refine lv_iconst (v := (0 : Int32)) hx hb dX2_firstWrong_0 (by decide) ?_
  refine lv_istore_n (lv' := [(2, .int (0 : Int32)), (0, va_rf (some t)), (1, .int a1)]) hx hb dX2_firstWrong_1 rfl hl (by decide) rfl (fun ls hl => ?_)
  refine lv_iconst (v := (0 : Int32)) hx hb dX2_firstWrong_2 (by decide) ?_
  refine lv_istore_n (lv' := [(3, .int (0 : Int32)), (2, .int (0 : Int32)), (0, va_rf (some t)), (1, .int a1)]) hx hb dX2_firstWrong_3 rfl hl (by decide) rfl (fun ls hl => ?_)
  refine lv_iconst (v := (0 : Int32)) hx hb dX2_firstWrong_4 (by decide) ?_
  refine lv_istore (lv' := [(4, .int (0 : Int32)), (3, .int (0 : Int32)), (2, .int (0 : Int32)), (0, va_rf (some t)), (1, .int a1)]) hx hb dX2_firstWrong_5 hl (by decide) rfl (fun ls hl => ?_)
  refine lv_iconst (v := (0 : Int32)) hx hb dX2_firstWrong_7 (by decide) ?_
  refine lv_istore (lv' := [(5, .int (0 : Int32)), (4, .int (0 : Int32)), (3, .int (0 : Int32)), (2, .int (0 : Int32)), (0, va_rf (some t)), (1, .int a1)]) hx hb dX2_firstWrong_8 hl (by decide) rfl (fun ls hl => ?_)
  refine lv_iconst (v := (0 : Int32)) hx hb dX2_firstWrong_10 (by decide) ?_
  refine lv_istore (lv' := [(6, .int (0 : Int32)), (5, .int (0 : Int32)), (4, .int (0 : Int32)), (3, .int (0 : Int32)), (2, .int (0 : Int32)), (0, va_rf (some t)), (1, .int a1)]) hx hb dX2_firstWrong_11 hl (by decide) rfl (fun ls hl => ?_)
  exact B13 hm_fu (some t) a1 (0 : Int32) (0 : Int32) (0 : Int32) (0 : Int32) (0 : Int32) h0 hf _ _ _ hI (lv_sub hl [5, 6, 4, 3, 2, 1, 0] rfl)
/-! ==== X3_indexOf: BlitBoard$Surface.indexOf(JJ)I ==== -/
def fX3_indexOf (t : Nat) (a1 : Int64) (a2 : Int64) (h0 : hm_H) : Option (Int32 × hm_H) :=
  hm_b (hm_gq 3 2 h0 (some t)) fun v1 =>
  hm_b (hm_gi 0 2 h0 v1) fun v2 =>
  some (((a2 * ((v2).toInt64)) + a1).toInt32, h0)
set_option maxRecDepth 100000 in
set_option maxHeartbeats 8000000 in
theorem kX3_indexOf (l : Launch) (D : va_G) (kA : Nat → ClassId) (t : Nat) (a1 : Int64) (a2 : Int64) (h0 h' : hm_H) (r : Int32) (hf : fX3_indexOf t a1 a2 h0 = some (r, h')) : hm_C l yX3_indexOf wsX3_indexOf { frames := 0, cells := 0, slots := 0, locals := 0 } D vwCl kA (hm_ty kA) [.ref t, .long a1, .long a2] h0 (some (.int r)) h' 0 0 := by
  refine Met.ofW (cc := cX3_indexOf) (maxL := 5) (ret := (some .int)) (by decide) rfl ?_
  intro p e s m args below meth c s₁ B hml hv
  obtain ⟨hargs, hB⟩ := hv
  have hx := B.exec
  have hb := B.bytes
  have hr := B.returns
  have hts := atoms_spec (ws := wsX3_indexOf) B.pre
  have hown : s.vm.findClass RX3 = some m.cls := findClass_of_methodNamed B.named
  have hlocks := B.notSynchronized
  have hK := hB.2
  have hI := hm_start hB
  have w1 := hts (.fieldLink RX3 21 "BlitBoard$Surface" "whole" "LBlitBoard$Area;") (by decide +kernel)
  have w2 := hts (.fieldLink RX3 32 "BlitBoard$Area" "wide" "I") (by decide +kernel)
  have hiX3 : ∀ w ∈ wsX30, w ∈ wsX3_indexOf := by decide +kernel
  have hiX0 : ∀ w ∈ wsX00, w ∈ wsX3_indexOf := by decide +kernel
  rw [show entryFrame m args 5 = entryFrame m ([.ref t, .long a1, .long a2] : List Value).toArray 5 from by rw [hargs]]
  have hl := lv_entry ([.ref t, .long a1, .long a2]) (n := 5) (Nat.le_of_ble_eq_true rfl)
  rw [lg_entry_eq]
  generalize (lg_sl ([.ref t, .long a1, .long a2]) ++ List.replicate (5 - (lg_sl ([.ref t, .long a1, .long a2])).length) Slot.unset).toArray = ls at hl ⊢
  have hl : lv_has ls 5 [(0, va_rf (some t)), (1, .long a1), (3, .long a2)] := hl
  unfold fX3_indexOf at hf
  refine lv_lload_n hx hb dX3_indexOf_0 rfl (lv_at hl 2 rfl) ?_
  refine hm_aload_n hx hb dX3_indexOf_1 rfl (lv_at hl 0 rfl) ?_
  obtain ⟨v1, ev1, hf⟩ := hm_b_s hf
  refine hm_get (ci := 3) (k := 2) (C := RX3) (T := TX3) (N := 5) hx hb hts hiX3 hown hK hI rfl (by decide) w1 (hm_gq_s ev1) dX3_indexOf_2 ?_
  obtain ⟨v2, ev2, hf⟩ := hm_b_s hf
  refine hm_get (ci := 0) (k := 2) (C := RX0) (T := TX0) (N := 4) hx hb hts hiX0 hown hK hI rfl (by decide) w2 (hm_gi_s ev2) dX3_indexOf_5 ?_
  refine lv_i2l (v := (v2).toInt64) hx hb dX3_indexOf_8 rfl ?_
  refine lv_lmul hx hb dX3_indexOf_9 ?_
  refine lv_lload_n hx hb dX3_indexOf_10 rfl (lv_at hl 1 rfl) ?_
  refine lv_ladd hx hb dX3_indexOf_11 ?_
  refine lv_l2i (v := ((a2 * ((v2).toInt64)) + a1).toInt32) hx hb dX3_indexOf_12 rfl ?_
  exact hm_iret_e hf hx hb hr hlocks hK hI (Nat.le_of_ble_eq_true rfl) (Nat.le_of_ble_eq_true rfl) dX3_indexOf_13
/-! ==== X3_putClipped: BlitBoard$Surface.putClipped(JJI)V ==== -/
def fX3_putClipped (t : Nat) (a1 : Int64) (a2 : Int64) (a3 : Int32) (h0 : hm_H) : Option hm_H :=
  hm_b (hm_gq 3 4 h0 (some t)) fun v1 =>
  hm_b (hm_rc 0 h0 v1) fun b3 =>
  hm_b2 (fX0_holds b3 a1 a2 h0) fun v4 h2 =>
  if v4 = 0 then
    some h2
  else
    hm_b (hm_gq 3 3 h2 (some t)) fun v5 =>
    hm_b (hm_rc 3 h2 (some t)) fun b7 =>
    hm_b2 (fX3_indexOf b7 a1 a2 h2) fun v8 h6 =>
    hm_b (hm_si 0 h6 v5 v8 a3) fun h9 =>
    some h9
set_option maxRecDepth 100000 in
set_option maxHeartbeats 8000000 in
theorem kX3_putClipped (l : Launch) (D : va_G) (kA : Nat → ClassId) (t : Nat) (a1 : Int64) (a2 : Int64) (a3 : Int32) (h0 h' : hm_H) (hf : fX3_putClipped t a1 a2 a3 h0 = some h') : hm_C l yX3_putClipped wsX3_putClipped { frames := 1, cells := 0, slots := 0, locals := 24 } D vwCl kA (hm_ty kA) [.ref t, .long a1, .long a2, .int a3] h0 none h' 0 0 := by
  refine Met.ofW (cc := cX3_putClipped) (maxL := 6) (ret := none) (by decide) rfl ?_
  intro p e s m args below meth c s₁ B hml hv
  obtain ⟨hargs, hB⟩ := hv
  have hx := B.exec
  have hb := B.bytes
  have hr := B.returns
  have hts := atoms_spec (ws := wsX3_putClipped) B.pre
  have hown : s.vm.findClass RX3 = some m.cls := findClass_of_methodNamed B.named
  have hlocks := B.notSynchronized
  have hK := hB.2
  have hI := hm_start hB
  have w1 := hts (.fieldLink RX3 29 "BlitBoard$Surface" "clip" "LBlitBoard$Area;") (by decide +kernel)
  have w2 := hts (.fieldLink RX3 25 "BlitBoard$Surface" "dots" "[I") (by decide +kernel)
  have hiX3 : ∀ w ∈ wsX30, w ∈ wsX3_putClipped := by decide +kernel
  rw [show entryFrame m args 6 = entryFrame m ([.ref t, .long a1, .long a2, .int a3] : List Value).toArray 6 from by rw [hargs]]
  have hl := lv_entry ([.ref t, .long a1, .long a2, .int a3]) (n := 6) (Nat.le_of_ble_eq_true rfl)
  rw [lg_entry_eq]
  generalize (lg_sl ([.ref t, .long a1, .long a2, .int a3]) ++ List.replicate (6 - (lg_sl ([.ref t, .long a1, .long a2, .int a3])).length) Slot.unset).toArray = ls at hl ⊢
  have hl : lv_has ls 6 [(0, va_rf (some t)), (1, .long a1), (3, .long a2), (5, .int a3)] := hl
  unfold fX3_putClipped at hf
  refine hm_aload_n hx hb dX3_putClipped_0 rfl (lv_at hl 0 rfl) ?_
  obtain ⟨v1, ev1, hf⟩ := hm_b_s hf
  refine hm_get (ci := 3) (k := 4) (C := RX3) (T := TX3) (N := 5) hx hb hts hiX3 hown hK hI rfl (by decide) w1 (hm_gq_s ev1) dX3_putClipped_1 ?_
  refine lv_lload_n hx hb dX3_putClipped_4 rfl (lv_at hl 1 rfl) ?_
  refine lv_lload_n hx hb dX3_putClipped_5 rfl (lv_at hl 2 rfl) ?_
  obtain ⟨b3, eb3, hf⟩ := hm_b_s hf
  obtain ⟨v4, h2, eh2, hf⟩ := hm_b2_s hf
  refine hm_cV (As := [.long a1, .long a2]) (rest := []) ⟨hx, hb, hml, hown, hts⟩ hK hI eb3 rfl rfl (kX0_holds l D kA b3 a1 a2 h0 h2 v4 eh2) (cwV 2 hts gX3_putClipped_X0_holds rfl rfl rfl (by decide +kernel) ⟨Nat.le_of_ble_eq_true rfl, Nat.le_of_ble_eq_true rfl⟩) rfl hl.1 rfl (by first | exact Nat.le_of_ble_eq_true rfl | (simp only [List.map, hm_rf_cat, hm_ci, hm_cl, List.sum_cons, List.sum_nil] <;> decide)) dX3_putClipped_6 ⟨Nat.le_of_ble_eq_true rfl, Nat.le_of_ble_eq_true rfl⟩ (fun H locs hI => ?_)
  refine lv_if_eq (tgt := 25) hx hb dX3_putClipped_9 (by decide) (fun c => ?_) (fun c => ?_)
  · rw [if_pos c] at hf
    exact hm_vret_e hf hx hb hr hlocks hK hI (Nat.le_of_ble_eq_true rfl) (Nat.le_of_ble_eq_true rfl) dX3_putClipped_25
  · rw [if_neg c] at hf
    refine hm_aload_n hx hb dX3_putClipped_12 rfl (lv_at hl 0 rfl) ?_
    obtain ⟨v5, ev5, hf⟩ := hm_b_s hf
    refine hm_get (ci := 3) (k := 3) (C := RX3) (T := TX3) (N := 5) hx hb hts hiX3 hown hK hI rfl (by decide) w2 (hm_gq_s ev5) dX3_putClipped_13 ?_
    refine hm_aload_n hx hb dX3_putClipped_16 rfl (lv_at hl 0 rfl) ?_
    refine lv_lload_n hx hb dX3_putClipped_17 rfl (lv_at hl 1 rfl) ?_
    refine lv_lload_n hx hb dX3_putClipped_18 rfl (lv_at hl 2 rfl) ?_
    obtain ⟨b7, eb7, hf⟩ := hm_b_s hf
    obtain ⟨v8, h6, eh6, hf⟩ := hm_b2_s hf
    refine hm_cV (As := [.long a1, .long a2]) (rest := [va_rf v5]) ⟨hx, hb, hml, hown, hts⟩ hK hI eb7 rfl rfl (kX3_indexOf l D kA b7 a1 a2 h2 h6 v8 eh6) (cwV 2 hts gX3_putClipped_X3_indexOf rfl rfl rfl (by decide +kernel) ⟨Nat.le_of_ble_eq_true rfl, Nat.le_of_ble_eq_true rfl⟩) rfl hl.1 rfl (by first | exact Nat.le_of_ble_eq_true rfl | (simp only [List.map, hm_rf_cat, hm_ci, hm_cl, List.sum_cons, List.sum_nil] <;> decide)) dX3_putClipped_19 ⟨Nat.le_of_ble_eq_true rfl, Nat.le_of_ble_eq_true rfl⟩ (fun H locs hI => ?_)
    refine lv_iload hx hb dX3_putClipped_22 (lv_at hl 3 rfl) ?_
    obtain ⟨h9, eh9, hf⟩ := hm_b_s hf
    refine hm_iast (kd := 0) (t0 := 0) hx hb hK hI rfl eh9 dX3_putClipped_24 (fun H locs hI => ?_)
    exact hm_vret_e hf hx hb hr hlocks hK hI (Nat.le_of_ble_eq_true rfl) (Nat.le_of_ble_eq_true rfl) dX3_putClipped_25
/-! ==== X2_paintDots: BlitBoard$Sprite.paintDots(LBlitBoard$Surface;JJII)V ==== -/
def fX2_paintDots_3 (K3 : Option Nat → Int64 → Int64 → Int32 → Int32 → Int32 → hm_H → Option hm_H) (x0 : Option Nat) (x1 : Int64) (x3 : Int64) (x5 : Int32) (x6 : Int32) (x7 : Int32) (h : hm_H) : Option hm_H :=
  if x5 ≤ x7 then
    some h
  else
    hm_b (hm_rc 3 h x0) fun b2 =>
    hm_b (fX3_putClipped b2 (x1 + ((x7).toInt64)) x3 x6 h) fun h1 =>
    K3 x0 x1 x3 x5 x6 (x7 + (1 : Int32)) h1
def fX2_paintDots (a1 : Option Nat) (a2 : Int64) (a3 : Int64) (a4 : Int32) (a5 : Int32) (h0 : hm_H) : Option hm_H :=
  hm_loop (fun _ _ _ _ _ _ _ => none) (fX2_paintDots_3) hm_fu a1 a2 a3 a4 a5 (0 : Int32) h0
set_option maxRecDepth 100000 in
set_option maxHeartbeats 8000000 in
theorem kX2_paintDots (l : Launch) (D : va_G) (kA : Nat → ClassId) (a1 : Option Nat) (a2 : Int64) (a3 : Int64) (a4 : Int32) (a5 : Int32) (h0 h' : hm_H) (hf : fX2_paintDots a1 a2 a3 a4 a5 h0 = some h') : hm_C l yX2_paintDots wsX2_paintDots { frames := 2, cells := 0, slots := 0, locals := 49 } D vwCl kA (hm_ty kA) [va_rf a1, .long a2, .long a3, .int a4, .int a5] h0 none h' 0 0 := by
  refine Met.ofW (cc := cX2_paintDots) (maxL := 8) (ret := none) (by decide) rfl ?_
  intro p e s m args below meth c s₁ B hml hv
  obtain ⟨hargs, hB⟩ := hv
  have hx := B.exec
  have hb := B.bytes
  have hr := B.returns
  have hts := atoms_spec (ws := wsX2_paintDots) B.pre
  have hown : s.vm.findClass RX2 = some m.cls := findClass_of_methodNamed B.named
  have hlocks := B.notSynchronized
  have hK := hB.2
  have hI := hm_start hB
  have B3 : ∀ (fu : Nat) (x0 : Option Nat) (x1 : Int64) (x3 : Int64) (x5 : Int32) (x6 : Int32) (x7 : Int32) (h : hm_H), hm_loop (fun _ _ _ _ _ _ _ => none) (fX2_paintDots_3) fu x0 x1 x3 x5 x6 x7 h = some h' → ∀ (H : Heap) (locs : List Loc) (ls : Array Slot), hm_I D vwCl kA (hm_A h0) s.heap h H locs → lv_has ls 8 [(0, va_rf x0), (1, .long x1), (3, .long x3), (5, .int x5), (6, .int x6), (7, .int x7)] → W p l e (headSpec wsX2_paintDots { frames := 2, cells := 0, slots := 0, locals := 49 }).room s m args below meth c H locs 0 0 (MQ below (hm_Q D vwCl kA (hm_ty kA) h0 none h') args s 0 0 (hm_A h0)) (F0 m 3 ls []) := by
    intro fu
    induction fu with
    | zero => intro x0 x1 x3 x5 x6 x7 h hf; cases hf
    | succ fu ih3 =>
      rw [hm_loop_s]
      generalize hm_loop (fun _ _ _ _ _ _ _ => none) (fX2_paintDots_3) fu = K3 at ih3 ⊢
      intro x0 x1 x3 x5 x6 x7 h hf H locs ls hI hl
      unfold fX2_paintDots_3 at hf
      refine lv_iload hx hb dX2_paintDots_3 (lv_at hl 5 rfl) ?_
      refine lv_iload hx hb dX2_paintDots_5 (lv_at hl 3 rfl) ?_
      refine lv_icmp_ge (tgt := 28) hx hb dX2_paintDots_7 (by decide) (fun c => ?_) (fun c => ?_)
      · rw [if_pos c] at hf
        exact hm_vret_e hf hx hb hr hlocks hK hI (Nat.le_of_ble_eq_true rfl) (Nat.le_of_ble_eq_true rfl) dX2_paintDots_28
      · rw [if_neg c] at hf
        refine hm_aload_n hx hb dX2_paintDots_10 rfl (lv_at hl 0 rfl) ?_
        refine lv_lload_n hx hb dX2_paintDots_11 rfl (lv_at hl 1 rfl) ?_
        refine lv_iload hx hb dX2_paintDots_12 (lv_at hl 5 rfl) ?_
        refine lv_i2l (v := (x7).toInt64) hx hb dX2_paintDots_14 rfl ?_
        refine lv_ladd hx hb dX2_paintDots_15 ?_
        refine lv_lload_n hx hb dX2_paintDots_16 rfl (lv_at hl 2 rfl) ?_
        refine lv_iload hx hb dX2_paintDots_17 (lv_at hl 4 rfl) ?_
        obtain ⟨b2, eb2, hf⟩ := hm_b_s hf
        obtain ⟨h1, eh1, hf⟩ := hm_b_s hf
        refine hm_cV (As := [.long (x1 + ((x7).toInt64)), .long x3, .int x6]) (rest := []) ⟨hx, hb, hml, hown, hts⟩ hK hI eb2 rfl rfl (kX3_putClipped l D kA b2 (x1 + ((x7).toInt64)) x3 x6 h h1 eh1) (cwV 3 hts gX2_paintDots_X3_putClipped rfl rfl rfl (by decide +kernel) ⟨Nat.le_of_ble_eq_true rfl, Nat.le_of_ble_eq_true rfl⟩) rfl hl.1 rfl (by first | exact Nat.le_of_ble_eq_true rfl | (simp only [List.map, hm_rf_cat, hm_ci, hm_cl, List.sum_cons, List.sum_nil] <;> decide)) dX2_paintDots_19 ⟨Nat.le_of_ble_eq_true rfl, Nat.le_of_ble_eq_true rfl⟩ (fun H locs hI => ?_)
        refine W.eq (g2 := F0 m 22 ls []) rfl ?_
        refine lv_iinc (v := x7 + (1 : Int32)) (lv' := [(7, .int (x7 + (1 : Int32))), (0, va_rf x0), (1, .long x1), (3, .long x3), (5, .int x5), (6, .int x6)]) hx hb dX2_paintDots_22 hl (k := 5) rfl rfl (by decide) rfl (fun ls hl => ?_)
        refine lv_goto (tgt := 3) hx hb dX2_paintDots_25 (by decide) ?_
        exact ih3 x0 x1 x3 x5 x6 (x7 + (1 : Int32)) h1 hf _ _ _ hI (lv_sub hl [1, 2, 3, 4, 5, 0] rfl)
  rw [show entryFrame m args 8 = entryFrame m ([va_rf a1, .long a2, .long a3, .int a4, .int a5] : List Value).toArray 8 from by rw [hargs]]
  have hl := lv_entry ([va_rf a1, .long a2, .long a3, .int a4, .int a5]) (n := 8) (by simp only [hm_sl_q, hm_sl_i, hm_sl_l, hm_sl_r, hm_sl_n, List.length_cons, List.length_nil] <;> decide)
  rw [lg_entry_eq]
  generalize (lg_sl ([va_rf a1, .long a2, .long a3, .int a4, .int a5]) ++ List.replicate (8 - (lg_sl ([va_rf a1, .long a2, .long a3, .int a4, .int a5])).length) Slot.unset).toArray = ls at hl ⊢
  rw [show lv_args 0 [va_rf a1, .long a2, .long a3, .int a4, .int a5] = [(0, va_rf a1), (1, .long a2), (3, .long a3), (5, .int a4), (6, .int a5)] from by simp only [hm_ar_q, hm_ar_i, hm_ar_l, hm_ar_r, hm_ar_n]] at hl
  have hl : lv_has ls 8 [(0, va_rf a1), (1, .long a2), (3, .long a3), (5, .int a4), (6, .int a5)] := hl
  unfold fX2_paintDots at hf
  refine lv_iconst (v := (0 : Int32)) hx hb dX2_paintDots_0 (by decide) ?_
  refine lv_istore (lv' := [(7, .int (0 : Int32)), (0, va_rf a1), (1, .long a2), (3, .long a3), (5, .int a4), (6, .int a5)]) hx hb dX2_paintDots_1 hl (by decide) rfl (fun ls hl => ?_)
  exact B3 hm_fu a1 a2 a3 a4 a5 (0 : Int32) h0 hf _ _ _ hI (lv_sub hl [1, 2, 3, 4, 5, 0] rfl)
/-! ==== X2_paint: BlitBoard$Sprite.paint(LBlitBoard$Surface;II)V ==== -/
def fX2_paint_128 (K15 : Option Nat → Option Nat → Int32 → Int32 → Int32 → Int32 → Int32 → Int32 → Int32 → hm_H → Option hm_H) (x0 : Option Nat) (x1 : Option Nat) (x2 : Int32) (x3 : Int32) (x4 : Int32) (x5 : Int32) (x6 : Int32) (x7 : Int32) (x8 : Int32) (h : hm_H) : Option hm_H :=
  K15 x0 x1 x2 x3 x4 x5 x6 x7 (x8 + (1 : Int32)) h
def fX2_paint_126 (K15 : Option Nat → Option Nat → Int32 → Int32 → Int32 → Int32 → Int32 → Int32 → Int32 → hm_H → Option hm_H) (x0 : Option Nat) (x1 : Option Nat) (x2 : Int32) (x3 : Int32) (x4 : Int32) (x5 : Int32) (x6 : Int32) (x8 : Int32) (s0 : Int32) (h : hm_H) : Option hm_H :=
  fX2_paint_128 K15 x0 x1 x2 x3 x4 x5 x6 s0 x8 h
def fX2_paint_15 (K15 : Option Nat → Option Nat → Int32 → Int32 → Int32 → Int32 → Int32 → Int32 → Int32 → hm_H → Option hm_H) (x0 : Option Nat) (x1 : Option Nat) (x2 : Int32) (x3 : Int32) (x4 : Int32) (x5 : Int32) (x6 : Int32) (x7 : Int32) (x8 : Int32) (h : hm_H) : Option hm_H :=
  hm_b (hm_gi 2 1 h x0) fun v1 =>
  if v1 ≤ x8 then
    some h
  else
    hm_b (hm_gq 2 0 h x0) fun v2 =>
    hm_b (hm_ai 0 h v2 x8) fun v3 =>
    if x6 ≤ 0 then
      if v3 = 0 then
        fX2_paint_128 K15 x0 x1 x2 x3 (x4 + (1 : Int32)) (0 : Int32) x6 x7 x8 h
      else
        if (64 : Int32) ≤ v3 then
          hm_b2 (fX2_dotBytes v3 h) fun v5 h4 =>
          if (128 : Int32) ≤ v3 then
            hm_b2 (fX2_stretchLength v3 h4) fun v7 h6 =>
            fX2_paint_126 K15 x0 x1 x2 x3 x4 x5 v5 x8 v7 h6
          else
            fX2_paint_126 K15 x0 x1 x2 x3 x4 x5 v5 x8 (1 : Int32) h4
        else
          hm_let (x5 + v3) fun v8 =>
          fX2_paint_128 K15 x0 x1 x2 x3 x4 v8 x6 x7 x8 h
    else
      hm_b (fX2_paintDots x1 (((x2).toInt64) + ((x5).toInt64)) (((x3).toInt64) + ((x4).toInt64)) x7 v3 h) fun h9 =>
      hm_let (x5 + x7) fun v10 =>
      fX2_paint_128 K15 x0 x1 x2 x3 x4 v10 (x6 + (-1 : Int32)) x7 x8 h9
def fX2_paint (t : Nat) (a1 : Option Nat) (a2 : Int32) (a3 : Int32) (h0 : hm_H) : Option hm_H :=
  hm_loop (fun _ _ _ _ _ _ _ _ _ _ => none) (fX2_paint_15) hm_fu (some t) a1 a2 a3 (0 : Int32) (0 : Int32) (0 : Int32) (0 : Int32) (0 : Int32) h0
set_option maxRecDepth 100000 in
set_option maxHeartbeats 8000000 in
theorem kX2_paint (l : Launch) (D : va_G) (kA : Nat → ClassId) (t : Nat) (a1 : Option Nat) (a2 : Int32) (a3 : Int32) (h0 h' : hm_H) (hf : fX2_paint t a1 a2 a3 h0 = some h') : hm_C l yX2_paint wsX2_paint { frames := 3, cells := 0, slots := 0, locals := 76 } D vwCl kA (hm_ty kA) [.ref t, va_rf a1, .int a2, .int a3] h0 none h' 0 0 := by
  refine Met.ofW (cc := cX2_paint) (maxL := 10) (ret := none) (by decide) rfl ?_
  intro p e s m args below meth c s₁ B hml hv
  obtain ⟨hargs, hB⟩ := hv
  have hx := B.exec
  have hb := B.bytes
  have hr := B.returns
  have hts := atoms_spec (ws := wsX2_paint) B.pre
  have hown : s.vm.findClass RX2 = some m.cls := findClass_of_methodNamed B.named
  have hlocks := B.notSynchronized
  have hK := hB.2
  have hI := hm_start hB
  have w1 := hts (.fieldLink RX2 15 "BlitBoard$Sprite" "size" "I") (by decide +kernel)
  have w2 := hts (.fieldLink RX2 9 "BlitBoard$Sprite" "bytes" "[I") (by decide +kernel)
  have hiX2 : ∀ w ∈ wsX20, w ∈ wsX2_paint := by decide +kernel
  have B15 : ∀ (fu : Nat) (x0 : Option Nat) (x1 : Option Nat) (x2 : Int32) (x3 : Int32) (x4 : Int32) (x5 : Int32) (x6 : Int32) (x7 : Int32) (x8 : Int32) (h : hm_H), hm_loop (fun _ _ _ _ _ _ _ _ _ _ => none) (fX2_paint_15) fu x0 x1 x2 x3 x4 x5 x6 x7 x8 h = some h' → ∀ (H : Heap) (locs : List Loc) (ls : Array Slot), hm_I D vwCl kA (hm_A h0) s.heap h H locs → lv_has ls 10 [(0, va_rf x0), (1, va_rf x1), (2, .int x2), (3, .int x3), (4, .int x4), (5, .int x5), (6, .int x6), (7, .int x7), (8, .int x8)] → W p l e (headSpec wsX2_paint { frames := 3, cells := 0, slots := 0, locals := 76 }).room s m args below meth c H locs 0 0 (MQ below (hm_Q D vwCl kA (hm_ty kA) h0 none h') args s 0 0 (hm_A h0)) (F0 m 15 ls []) := by
    intro fu
    induction fu with
    | zero => intro x0 x1 x2 x3 x4 x5 x6 x7 x8 h hf; cases hf
    | succ fu ih15 =>
      rw [hm_loop_s]
      generalize hm_loop (fun _ _ _ _ _ _ _ _ _ _ => none) (fX2_paint_15) fu = K15 at ih15 ⊢
      have B128 : ∀ (x0 : Option Nat) (x1 : Option Nat) (x2 : Int32) (x3 : Int32) (x4 : Int32) (x5 : Int32) (x6 : Int32) (x7 : Int32) (x8 : Int32) (h : hm_H), fX2_paint_128 K15 x0 x1 x2 x3 x4 x5 x6 x7 x8 h = some h' → ∀ (H : Heap) (locs : List Loc) (ls : Array Slot), hm_I D vwCl kA (hm_A h0) s.heap h H locs → lv_has ls 10 [(0, va_rf x0), (1, va_rf x1), (2, .int x2), (3, .int x3), (4, .int x4), (5, .int x5), (6, .int x6), (7, .int x7), (8, .int x8)] → W p l e (headSpec wsX2_paint { frames := 3, cells := 0, slots := 0, locals := 76 }).room s m args below meth c H locs 0 0 (MQ below (hm_Q D vwCl kA (hm_ty kA) h0 none h') args s 0 0 (hm_A h0)) (F0 m 128 ls []) := by
        intro x0 x1 x2 x3 x4 x5 x6 x7 x8 h hf H locs ls hI hl
        unfold fX2_paint_128 at hf
        refine lv_iinc (v := x8 + (1 : Int32)) (lv' := [(8, .int (x8 + (1 : Int32))), (0, va_rf x0), (1, va_rf x1), (2, .int x2), (3, .int x3), (4, .int x4), (5, .int x5), (6, .int x6), (7, .int x7)]) hx hb dX2_paint_128 hl (k := 8) rfl rfl (by decide) rfl (fun ls hl => ?_)
        refine lv_goto (tgt := 15) hx hb dX2_paint_131 (by decide) ?_
        exact ih15 x0 x1 x2 x3 x4 x5 x6 x7 (x8 + (1 : Int32)) h hf _ _ _ hI (lv_sub hl [1, 2, 3, 4, 5, 6, 7, 8, 0] rfl)
      have B126 : ∀ (x0 : Option Nat) (x1 : Option Nat) (x2 : Int32) (x3 : Int32) (x4 : Int32) (x5 : Int32) (x6 : Int32) (x8 : Int32) (s0 : Int32) (h : hm_H), fX2_paint_126 K15 x0 x1 x2 x3 x4 x5 x6 x8 s0 h = some h' → ∀ (H : Heap) (locs : List Loc) (ls : Array Slot), hm_I D vwCl kA (hm_A h0) s.heap h H locs → lv_has ls 10 [(0, va_rf x0), (1, va_rf x1), (2, .int x2), (3, .int x3), (4, .int x4), (5, .int x5), (6, .int x6), (8, .int x8)] → W p l e (headSpec wsX2_paint { frames := 3, cells := 0, slots := 0, locals := 76 }).room s m args below meth c H locs 0 0 (MQ below (hm_Q D vwCl kA (hm_ty kA) h0 none h') args s 0 0 (hm_A h0)) (F0 m 126 ls [.int s0]) := by
        intro x0 x1 x2 x3 x4 x5 x6 x8 s0 h hf H locs ls hI hl
        unfold fX2_paint_126 at hf
        refine lv_istore (lv' := [(7, .int s0), (0, va_rf x0), (1, va_rf x1), (2, .int x2), (3, .int x3), (4, .int x4), (5, .int x5), (6, .int x6), (8, .int x8)]) hx hb dX2_paint_126 hl (by decide) rfl (fun ls hl => ?_)
        exact B128 x0 x1 x2 x3 x4 x5 x6 s0 x8 h hf _ _ _ hI (lv_sub hl [1, 2, 3, 4, 5, 6, 7, 0, 8] rfl)
      intro x0 x1 x2 x3 x4 x5 x6 x7 x8 h hf H locs ls hI hl
      unfold fX2_paint_15 at hf
      refine lv_iload hx hb dX2_paint_15 (lv_at hl 8 rfl) ?_
      refine hm_aload_n hx hb dX2_paint_17 rfl (lv_at hl 0 rfl) ?_
      obtain ⟨v1, ev1, hf⟩ := hm_b_s hf
      refine hm_get (ci := 2) (k := 1) (C := RX2) (T := TX2) (N := 3) hx hb hts hiX2 hown hK hI rfl (by decide) w1 (hm_gi_s ev1) dX2_paint_18 ?_
      refine lv_icmp_ge (tgt := 134) hx hb dX2_paint_21 (by decide) (fun c => ?_) (fun c => ?_)
      · rw [if_pos c] at hf
        exact hm_vret_e hf hx hb hr hlocks hK hI (Nat.le_of_ble_eq_true rfl) (Nat.le_of_ble_eq_true rfl) dX2_paint_134
      · rw [if_neg c] at hf
        refine hm_aload_n hx hb dX2_paint_24 rfl (lv_at hl 0 rfl) ?_
        obtain ⟨v2, ev2, hf⟩ := hm_b_s hf
        refine hm_get (ci := 2) (k := 0) (C := RX2) (T := TX2) (N := 3) hx hb hts hiX2 hown hK hI rfl (by decide) w2 (hm_gq_s ev2) dX2_paint_25 ?_
        refine lv_iload hx hb dX2_paint_28 (lv_at hl 8 rfl) ?_
        obtain ⟨v3, ev3, hf⟩ := hm_b_s hf
        refine hm_iald (kd := 0) (t0 := 0) hx hb hK hI rfl ev3 dX2_paint_30 ?_
        refine lv_istore (lv' := [(9, .int v3), (0, va_rf x0), (1, va_rf x1), (2, .int x2), (3, .int x3), (4, .int x4), (5, .int x5), (6, .int x6), (7, .int x7), (8, .int x8)]) hx hb dX2_paint_31 hl (by decide) rfl (fun ls hl => ?_)
        refine lv_iload hx hb dX2_paint_33 (lv_at hl 7 rfl) ?_
        refine lv_if_le (tgt := 71) hx hb dX2_paint_35 (by decide) (fun c => ?_) (fun c => ?_)
        · rw [if_pos c] at hf
          refine lv_iload hx hb dX2_paint_71 (lv_at hl 0 rfl) ?_
          refine lv_if_ne (tgt := 85) hx hb dX2_paint_73 (by decide) (fun c => ?_) (fun c => ?_)
          · rw [if_neg c] at hf
            refine lv_iload hx hb dX2_paint_85 (lv_at hl 0 rfl) ?_
            refine lv_bipush (v := (64 : Int32)) hx hb dX2_paint_87 (by decide) ?_
            refine lv_icmp_ge (tgt := 102) hx hb dX2_paint_89 (by decide) (fun c => ?_) (fun c => ?_)
            · rw [if_pos c] at hf
              refine lv_iload hx hb dX2_paint_102 (lv_at hl 0 rfl) ?_
              obtain ⟨v5, h4, eh4, hf⟩ := hm_b2_s hf
              refine hm_cS (As := [.int v3]) (rest := []) ⟨hx, hb, hml, hown, hts⟩ hK hI (kX2_dotBytes l D kA v3 h h4 v5 eh4) (va_cwS 1 hts gX2_paint_X2_dotBytes rfl rfl rfl (by decide +kernel) ⟨Nat.le_of_ble_eq_true rfl, Nat.le_of_ble_eq_true rfl⟩) rfl hl.1 rfl (by first | exact Nat.le_of_ble_eq_true rfl | (simp only [List.map, hm_rf_cat, hm_ci, hm_cl, List.sum_cons, List.sum_nil] <;> decide)) dX2_paint_104 ⟨Nat.le_of_ble_eq_true rfl, Nat.le_of_ble_eq_true rfl⟩ (fun H locs hI => ?_)
              refine lv_istore (lv' := [(6, .int v5), (9, .int v3), (0, va_rf x0), (1, va_rf x1), (2, .int x2), (3, .int x3), (4, .int x4), (5, .int x5), (7, .int x7), (8, .int x8)]) hx hb dX2_paint_107 hl (by decide) rfl (fun ls hl => ?_)
              refine lv_iload hx hb dX2_paint_109 (lv_at hl 1 rfl) ?_
              refine lv_sipush (v := (128 : Int32)) hx hb dX2_paint_111 (by decide) ?_
              refine lv_icmp_ge (tgt := 121) hx hb dX2_paint_114 (by decide) (fun c => ?_) (fun c => ?_)
              · rw [if_pos c] at hf
                refine lv_iload hx hb dX2_paint_121 (lv_at hl 1 rfl) ?_
                obtain ⟨v7, h6, eh6, hf⟩ := hm_b2_s hf
                refine hm_cS (As := [.int v3]) (rest := []) ⟨hx, hb, hml, hown, hts⟩ hK hI (kX2_stretchLength l D kA v3 h4 h6 v7 eh6) (va_cwS 1 hts gX2_paint_X2_stretchLength rfl rfl rfl (by decide +kernel) ⟨Nat.le_of_ble_eq_true rfl, Nat.le_of_ble_eq_true rfl⟩) rfl hl.1 rfl (by first | exact Nat.le_of_ble_eq_true rfl | (simp only [List.map, hm_rf_cat, hm_ci, hm_cl, List.sum_cons, List.sum_nil] <;> decide)) dX2_paint_123 ⟨Nat.le_of_ble_eq_true rfl, Nat.le_of_ble_eq_true rfl⟩ (fun H locs hI => ?_)
                exact B126 x0 x1 x2 x3 x4 x5 v5 x8 v7 h6 hf _ _ _ hI (lv_sub hl [2, 3, 4, 5, 6, 7, 0, 9] rfl)
              · rw [if_neg c] at hf
                refine lv_iconst (v := (1 : Int32)) hx hb dX2_paint_117 (by decide) ?_
                refine lv_goto (tgt := 126) hx hb dX2_paint_118 (by decide) ?_
                exact B126 x0 x1 x2 x3 x4 x5 v5 x8 (1 : Int32) h4 hf _ _ _ hI (lv_sub hl [2, 3, 4, 5, 6, 7, 0, 9] rfl)
            · rw [if_neg c] at hf
              refine lv_iload hx hb dX2_paint_92 (lv_at hl 6 rfl) ?_
              refine lv_iload hx hb dX2_paint_94 (lv_at hl 0 rfl) ?_
              refine lv_iadd hx hb dX2_paint_96 ?_
              obtain ⟨v8, ev8, hf⟩ := hm_let_s hf
              refine hm_ti ev8 ?_
              refine lv_istore (lv' := [(5, .int v8), (9, .int v3), (0, va_rf x0), (1, va_rf x1), (2, .int x2), (3, .int x3), (4, .int x4), (6, .int x6), (7, .int x7), (8, .int x8)]) hx hb dX2_paint_97 hl (by decide) rfl (fun ls hl => ?_)
              refine lv_goto (tgt := 128) hx hb dX2_paint_99 (by decide) ?_
              exact B128 x0 x1 x2 x3 x4 v8 x6 x7 x8 h hf _ _ _ hI (lv_sub hl [2, 3, 4, 5, 6, 0, 7, 8, 9] rfl)
          · rw [if_pos c] at hf
            refine lv_iinc (v := x4 + (1 : Int32)) (lv' := [(4, .int (x4 + (1 : Int32))), (9, .int v3), (0, va_rf x0), (1, va_rf x1), (2, .int x2), (3, .int x3), (5, .int x5), (6, .int x6), (7, .int x7), (8, .int x8)]) hx hb dX2_paint_76 hl (k := 5) rfl rfl (by decide) rfl (fun ls hl => ?_)
            refine lv_iconst (v := (0 : Int32)) hx hb dX2_paint_79 (by decide) ?_
            refine lv_istore (lv' := [(5, .int (0 : Int32)), (4, .int (x4 + (1 : Int32))), (9, .int v3), (0, va_rf x0), (1, va_rf x1), (2, .int x2), (3, .int x3), (6, .int x6), (7, .int x7), (8, .int x8)]) hx hb dX2_paint_80 hl (by decide) rfl (fun ls hl => ?_)
            refine lv_goto (tgt := 128) hx hb dX2_paint_82 (by decide) ?_
            exact B128 x0 x1 x2 x3 (x4 + (1 : Int32)) (0 : Int32) x6 x7 x8 h hf _ _ _ hI (lv_sub hl [3, 4, 5, 6, 1, 0, 7, 8, 9] rfl)
        · rw [if_neg c] at hf
          refine hm_aload_n hx hb dX2_paint_38 rfl (lv_at hl 2 rfl) ?_
          refine lv_iload_n hx hb dX2_paint_39 rfl (lv_at hl 3 rfl) ?_
          refine lv_i2l (v := (x2).toInt64) hx hb dX2_paint_40 rfl ?_
          refine lv_iload hx hb dX2_paint_41 (lv_at hl 6 rfl) ?_
          refine lv_i2l (v := (x5).toInt64) hx hb dX2_paint_43 rfl ?_
          refine lv_ladd hx hb dX2_paint_44 ?_
          refine lv_iload_n hx hb dX2_paint_45 rfl (lv_at hl 4 rfl) ?_
          refine lv_i2l (v := (x3).toInt64) hx hb dX2_paint_46 rfl ?_
          refine lv_iload hx hb dX2_paint_47 (lv_at hl 5 rfl) ?_
          refine lv_i2l (v := (x4).toInt64) hx hb dX2_paint_49 rfl ?_
          refine lv_ladd hx hb dX2_paint_50 ?_
          refine lv_iload hx hb dX2_paint_51 (lv_at hl 8 rfl) ?_
          refine lv_iload hx hb dX2_paint_53 (lv_at hl 0 rfl) ?_
          obtain ⟨h9, eh9, hf⟩ := hm_b_s hf
          refine hm_cS (As := [va_rf x1, .long (((x2).toInt64) + ((x5).toInt64)), .long (((x3).toInt64) + ((x4).toInt64)), .int x7, .int v3]) (rest := []) ⟨hx, hb, hml, hown, hts⟩ hK hI (kX2_paintDots l D kA x1 (((x2).toInt64) + ((x5).toInt64)) (((x3).toInt64) + ((x4).toInt64)) x7 v3 h h9 eh9) (va_cwS 5 hts gX2_paint_X2_paintDots rfl rfl rfl (by decide +kernel) ⟨Nat.le_of_ble_eq_true rfl, Nat.le_of_ble_eq_true rfl⟩) rfl hl.1 rfl (by first | exact Nat.le_of_ble_eq_true rfl | (simp only [List.map, hm_rf_cat, hm_ci, hm_cl, List.sum_cons, List.sum_nil] <;> decide)) dX2_paint_55 ⟨Nat.le_of_ble_eq_true rfl, Nat.le_of_ble_eq_true rfl⟩ (fun H locs hI => ?_)
          refine W.eq (g2 := F0 m 58 ls []) rfl ?_
          refine lv_iload hx hb dX2_paint_58 (lv_at hl 6 rfl) ?_
          refine lv_iload hx hb dX2_paint_60 (lv_at hl 8 rfl) ?_
          refine lv_iadd hx hb dX2_paint_62 ?_
          obtain ⟨v10, ev10, hf⟩ := hm_let_s hf
          refine hm_ti ev10 ?_
          refine lv_istore (lv' := [(5, .int v10), (9, .int v3), (0, va_rf x0), (1, va_rf x1), (2, .int x2), (3, .int x3), (4, .int x4), (6, .int x6), (7, .int x7), (8, .int x8)]) hx hb dX2_paint_63 hl (by decide) rfl (fun ls hl => ?_)
          refine lv_iinc (v := x6 + (-1 : Int32)) (lv' := [(6, .int (x6 + (-1 : Int32))), (5, .int v10), (9, .int v3), (0, va_rf x0), (1, va_rf x1), (2, .int x2), (3, .int x3), (4, .int x4), (7, .int x7), (8, .int x8)]) hx hb dX2_paint_65 hl (k := 7) rfl rfl (by decide) rfl (fun ls hl => ?_)
          refine lv_goto (tgt := 128) hx hb dX2_paint_68 (by decide) ?_
          exact B128 x0 x1 x2 x3 x4 v10 (x6 + (-1 : Int32)) x7 x8 h9 hf _ _ _ hI (lv_sub hl [3, 4, 5, 6, 7, 1, 0, 8, 9] rfl)
  rw [show entryFrame m args 10 = entryFrame m ([.ref t, va_rf a1, .int a2, .int a3] : List Value).toArray 10 from by rw [hargs]]
  have hl := lv_entry ([.ref t, va_rf a1, .int a2, .int a3]) (n := 10) (by simp only [hm_sl_q, hm_sl_i, hm_sl_l, hm_sl_r, hm_sl_n, List.length_cons, List.length_nil] <;> decide)
  rw [lg_entry_eq]
  generalize (lg_sl ([.ref t, va_rf a1, .int a2, .int a3]) ++ List.replicate (10 - (lg_sl ([.ref t, va_rf a1, .int a2, .int a3])).length) Slot.unset).toArray = ls at hl ⊢
  rw [show lv_args 0 [.ref t, va_rf a1, .int a2, .int a3] = [(0, va_rf (some t)), (1, va_rf a1), (2, .int a2), (3, .int a3)] from by simp only [hm_ar_q, hm_ar_i, hm_ar_l, hm_ar_r, hm_ar_n]] at hl
  have hl : lv_has ls 10 [(0, va_rf (some t)), (1, va_rf a1), (2, .int a2), (3, .int a3)] := hl
  unfold fX2_paint at hf
  refine lv_iconst (v := (0 : Int32)) hx hb dX2_paint_0 (by decide) ?_
  refine lv_istore (lv' := [(4, .int (0 : Int32)), (0, va_rf (some t)), (1, va_rf a1), (2, .int a2), (3, .int a3)]) hx hb dX2_paint_1 hl (by decide) rfl (fun ls hl => ?_)
  refine lv_iconst (v := (0 : Int32)) hx hb dX2_paint_3 (by decide) ?_
  refine lv_istore (lv' := [(5, .int (0 : Int32)), (4, .int (0 : Int32)), (0, va_rf (some t)), (1, va_rf a1), (2, .int a2), (3, .int a3)]) hx hb dX2_paint_4 hl (by decide) rfl (fun ls hl => ?_)
  refine lv_iconst (v := (0 : Int32)) hx hb dX2_paint_6 (by decide) ?_
  refine lv_istore (lv' := [(6, .int (0 : Int32)), (5, .int (0 : Int32)), (4, .int (0 : Int32)), (0, va_rf (some t)), (1, va_rf a1), (2, .int a2), (3, .int a3)]) hx hb dX2_paint_7 hl (by decide) rfl (fun ls hl => ?_)
  refine lv_iconst (v := (0 : Int32)) hx hb dX2_paint_9 (by decide) ?_
  refine lv_istore (lv' := [(7, .int (0 : Int32)), (6, .int (0 : Int32)), (5, .int (0 : Int32)), (4, .int (0 : Int32)), (0, va_rf (some t)), (1, va_rf a1), (2, .int a2), (3, .int a3)]) hx hb dX2_paint_10 hl (by decide) rfl (fun ls hl => ?_)
  refine lv_iconst (v := (0 : Int32)) hx hb dX2_paint_12 (by decide) ?_
  refine lv_istore (lv' := [(8, .int (0 : Int32)), (7, .int (0 : Int32)), (6, .int (0 : Int32)), (5, .int (0 : Int32)), (4, .int (0 : Int32)), (0, va_rf (some t)), (1, va_rf a1), (2, .int a2), (3, .int a3)]) hx hb dX2_paint_13 hl (by decide) rfl (fun ls hl => ?_)
  exact B15 hm_fu (some t) a1 a2 a3 (0 : Int32) (0 : Int32) (0 : Int32) (0 : Int32) (0 : Int32) h0 hf _ _ _ hI (lv_sub hl [5, 6, 7, 8, 4, 3, 2, 1, 0] rfl)
/-! ==== X3_init: BlitBoard$Surface.<init>(III)V ==== -/
def fX3_init (t : Nat) (a1 : Int32) (a2 : Int32) (a3 : Int32) (h0 : hm_H) : Option hm_H :=
  hm_b (hm_p 3 0 (.int a1) h0 (some t)) fun h1 =>
  hm_b (hm_p 3 1 (.int (((1 : Int32) <<< (a1 &&& 31)) - (1 : Int32))) h1 (some t)) fun h2 =>
  hm_let (hm_n h2 (.inr (0, [.long 0, .long 0, .int 0, .int 0]))) fun h3 =>
  hm_b (fX0_init h2.2 (0 : Int64) (0 : Int64) a2 a3 h3) fun h4 =>
  hm_b (hm_p 3 2 (va_rf (some h2.2)) h4 (some t)) fun h5 =>
  hm_b (hm_ni 0 4096 (a2 * a3) h5) fun h6 =>
  hm_b (hm_p 3 3 (va_rf (some h5.2)) h6 (some t)) fun h7 =>
  hm_b (hm_gq 3 2 h7 (some t)) fun v8 =>
  hm_b (hm_p 3 4 (va_rf v8) h7 (some t)) fun h9 =>
  some h9
set_option maxRecDepth 100000 in
set_option maxHeartbeats 8000000 in
theorem kX3_init (l : Launch) (D : va_G) (kA : Nat → ClassId) (t : Nat) (a1 : Int32) (a2 : Int32) (a3 : Int32) (h0 h' : hm_H) (hf : fX3_init t a1 a2 a3 h0 = some h') : hm_C l yX3_init wsX3_init { frames := 2, cells := 2, slots := 4100, locals := 46 } D vwCl kA (hm_ty kA) [.ref t, .int a1, .int a2, .int a3] h0 none h' 2 4100 := by
  refine Met.ofW (cc := cX3_init) (maxL := 4) (ret := none) (by decide) rfl ?_
  intro p e s m args below meth c s₁ B hml hv
  obtain ⟨hargs, hB⟩ := hv
  have hx := B.exec
  have hb := B.bytes
  have hr := B.returns
  have hts := atoms_spec (ws := wsX3_init) B.pre
  have hown : s.vm.findClass RX3 = some m.cls := findClass_of_methodNamed B.named
  have hlocks := B.notSynchronized
  have hin : meth.name = "<init>" := (name_of_methodNamed B.named B.method).1
  have hK := hB.2
  have hI := hm_start hB
  have w1 := hts (.methodLink RX3 1 objectInit) (by decide +kernel)
  have w2 := hts (.instanceMethod objectInit) (by decide +kernel)
  have w3 := hts (.code objectInit ⟨#[0xb1]⟩ 1 none) (by decide +kernel)
  have w4 := hts (.fieldLink RX3 7 "BlitBoard$Surface" "depth" "I") (by decide +kernel)
  have w5 := hts (.fieldLink RX3 13 "BlitBoard$Surface" "largest" "I") (by decide +kernel)
  have w6 := hts (.classLink RX3 16 RX0) (by decide +kernel)
  have w7 := hts (.instantiable RX0 4) (by decide +kernel)
  have w8 := hts (.initialized RX0) (by decide +kernel)
  have w9 := hts (.methodLink RX3 18 yX0_init) (by decide +kernel)
  have w10 := hts (.instanceMethod yX0_init) (by decide +kernel)
  have w11 := hts (.fieldLink RX3 21 "BlitBoard$Surface" "whole" "LBlitBoard$Area;") (by decide +kernel)
  have w12 := hts (.arrayClass .int) (by decide +kernel)
  have w13 := hts (.fieldLink RX3 25 "BlitBoard$Surface" "dots" "[I") (by decide +kernel)
  have w14 := hts (.fieldLink RX3 29 "BlitBoard$Surface" "clip" "LBlitBoard$Area;") (by decide +kernel)
  have hiX3 : ∀ w ∈ wsX30, w ∈ wsX3_init := by decide +kernel
  have hiX0 : ∀ w ∈ wsX00, w ∈ wsX3_init := by decide +kernel
  rw [show entryFrame m args 4 = entryFrame m ([.ref t, .int a1, .int a2, .int a3] : List Value).toArray 4 from by rw [hargs]]
  have hl := lv_entry ([.ref t, .int a1, .int a2, .int a3]) (n := 4) (Nat.le_of_ble_eq_true rfl)
  rw [lg_entry_eq]
  generalize (lg_sl ([.ref t, .int a1, .int a2, .int a3]) ++ List.replicate (4 - (lg_sl ([.ref t, .int a1, .int a2, .int a3])).length) Slot.unset).toArray = ls at hl ⊢
  have hl : lv_has ls 4 [(0, va_rf (some t)), (1, .int a1), (2, .int a2), (3, .int a3)] := hl
  unfold fX3_init at hf
  refine hm_aload_n hx hb dX3_init_0 rfl (lv_at hl 0 rfl) ?_
  refine W.objInit hx hb hown w1 w2 w3 rfl (by rw [hml]; exact hl.1) rfl dX3_init_1 (Nat.le_of_ble_eq_true rfl) (Nat.le_of_ble_eq_true rfl) ?_
  refine W.eq (g2 := F0 m 4 ls []) rfl ?_
  refine hm_aload_n hx hb dX3_init_4 rfl (lv_at hl 0 rfl) ?_
  refine lv_iload_n hx hb dX3_init_5 rfl (lv_at hl 1 rfl) ?_
  obtain ⟨h1, eh1, hf⟩ := hm_b_s hf
  refine hm_putF (ci := 3) (k := 0) (C := RX3) (T := TX3) (N := 5) hx hb hts hiX3 tyX3 tyX3_ok nmX3 hown hK hI rfl (by decide) w4 rfl hin rfl eh1 rfl rfl dX3_init_6 (fun H locs hI => ?_)
  refine hm_aload_n hx hb dX3_init_9 rfl (lv_at hl 0 rfl) ?_
  refine lv_iconst (v := (1 : Int32)) hx hb dX3_init_10 (by decide) ?_
  refine lv_iload_n hx hb dX3_init_11 rfl (lv_at hl 1 rfl) ?_
  refine lv_ishl hx hb dX3_init_12 ?_
  refine lv_iconst (v := (1 : Int32)) hx hb dX3_init_13 (by decide) ?_
  refine lv_isub hx hb dX3_init_14 ?_
  obtain ⟨h2, eh2, hf⟩ := hm_b_s hf
  refine hm_putF (ci := 3) (k := 1) (C := RX3) (T := TX3) (N := 5) hx hb hts hiX3 tyX3 tyX3_ok nmX3 hown hK hI rfl (by decide) w5 rfl hin rfl eh2 rfl rfl dX3_init_15 (fun H locs hI => ?_)
  refine hm_aload_n hx hb dX3_init_18 rfl (lv_at hl 0 rfl) ?_
  obtain ⟨h3, eh3, hf⟩ := hm_let_s hf
  refine hm_new (ci := 0) (fs := [.long 0, .long 0, .int 0, .int 0]) (C := RX0) (T := TX0) (N := 4) hx hb hts hiX0 tyX0 tyX0_ok hown w6 w7 w8 hK hI rfl (fun j hj => by rcases (show j = 0 ∨ j = 1 ∨ j = 2 ∨ j = 3 by omega) with rfl | rfl | rfl | rfl <;> rfl) (Nat.le_of_ble_eq_true rfl) (Nat.le_of_ble_eq_true rfl) dX3_init_19 (fun H hI => ?_)
  rw [← eh3] at hI
  refine W.cs (cells' := 1) (slots' := 4) rfl rfl ?_
  refine lv_dup hx hb dX3_init_22 (hm_rf_cat _) ?_
  refine lv_lconst (v := (0 : Int64)) hx hb dX3_init_23 (by decide) ?_
  refine lv_lconst (v := (0 : Int64)) hx hb dX3_init_24 (by decide) ?_
  refine lv_iload_n hx hb dX3_init_25 rfl (lv_at hl 2 rfl) ?_
  refine lv_iload_n hx hb dX3_init_26 rfl (lv_at hl 3 rfl) ?_
  obtain ⟨h4, eh4, hf⟩ := hm_b_s hf
  refine hm_cI (As := [.long (0 : Int64), .long (0 : Int64), .int a2, .int a3]) (rest := [va_rf (some h2.2), va_rf (some t)]) ⟨hx, hb, hml, hown, hts⟩ hK hI (kX0_init l D kA h2.2 (0 : Int64) (0 : Int64) a2 a3 h3 h4 eh4) (cwI 4 hts gX3_init_X0_init rfl rfl rfl w8 w9 w10 rfl (by decide +kernel) ⟨Nat.le_of_ble_eq_true rfl, Nat.le_of_ble_eq_true rfl⟩) rfl hl.1 rfl (by first | exact Nat.le_of_ble_eq_true rfl | (simp only [List.map, hm_rf_cat, hm_ci, hm_cl, List.sum_cons, List.sum_nil] <;> decide)) dX3_init_27 ⟨Nat.le_of_ble_eq_true rfl, Nat.le_of_ble_eq_true rfl⟩ (fun H locs hI => ?_)
  refine W.eq (g2 := F0 m 30 ls [va_rf (some h2.2), va_rf (some t)]) rfl ?_
  obtain ⟨h5, eh5, hf⟩ := hm_b_s hf
  refine hm_putF (ci := 3) (k := 2) (C := RX3) (T := TX3) (N := 5) hx hb hts hiX3 tyX3 tyX3_ok nmX3 hown hK hI rfl (by decide) w11 rfl hin rfl eh5 hm_nqo hm_fqo dX3_init_30 (fun H locs hI => ?_)
  refine hm_aload_n hx hb dX3_init_33 rfl (lv_at hl 0 rfl) ?_
  refine lv_iload_n hx hb dX3_init_34 rfl (lv_at hl 2 rfl) ?_
  refine lv_iload_n hx hb dX3_init_35 rfl (lv_at hl 3 rfl) ?_
  refine lv_imul hx hb dX3_init_36 ?_
  obtain ⟨h6, eh6, hf⟩ := hm_b_s hf
  refine hm_newi (kd := 0) (t0 := 0) (B := 4096) (ty := .int) hx hb w12 rfl rfl (by decide) hK hI rfl (fun z => z) eh6 (Nat.le_of_ble_eq_true rfl) (Nat.le_of_ble_eq_true rfl) dX3_init_37 (fun H hI => ?_)
  refine W.cs (cells' := 2) (slots' := 4100) rfl rfl ?_
  obtain ⟨h7, eh7, hf⟩ := hm_b_s hf
  refine hm_putF (ci := 3) (k := 3) (C := RX3) (T := TX3) (N := 5) hx hb hts hiX3 tyX3 tyX3_ok nmX3 hown hK hI rfl (by decide) w13 rfl hin rfl eh7 hm_nqa hm_fqa dX3_init_39 (fun H locs hI => ?_)
  refine hm_aload_n hx hb dX3_init_42 rfl (lv_at hl 0 rfl) ?_
  refine hm_aload_n hx hb dX3_init_43 rfl (lv_at hl 0 rfl) ?_
  obtain ⟨v8, ev8, hf⟩ := hm_b_s hf
  refine hm_get (ci := 3) (k := 2) (C := RX3) (T := TX3) (N := 5) hx hb hts hiX3 hown hK hI rfl (by decide) w11 (hm_gq_s ev8) dX3_init_44 ?_
  obtain ⟨h9, eh9, hf⟩ := hm_b_s hf
  refine hm_put (ci := 3) (k := 4) (C := RX3) (T := TX3) (N := 5) hx hb hts hiX3 tyX3 tyX3_ok nmX3 hown hK hI rfl (by decide) w14 rfl eh9 hm_nqo hm_fqo dX3_init_47 (fun H locs hI => ?_)
  exact hm_vret_e hf hx hb hr hlocks hK hI (Nat.le_of_ble_eq_true rfl) (Nat.le_of_ble_eq_true rfl) dX3_init_50
