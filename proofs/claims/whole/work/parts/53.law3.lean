/-! THE LAW'S LOOP AND ITS START -/
theorem and31 (x : Int32) : ∃ k, k < 32 ∧ x &&& 31 = nI k := pk_andE x (m := 31) 5 rfl
theorem room_left {i L : Nat} (hL : L ≤ 5632) (c : ¬ Int32.ofNat L - 11 < nI i) (hi : i ≤ L) : i + 11 ≤ L := by
  rcases Nat.lt_or_ge L (i + 11) with q | q
  · refine absurd ?_ c
    have e : Int32.ofNat L - 11 = iI ((L : Int) - 11) := by
      show nI L - iI 11 = _
      rw [← iI_nat L, iI_sub]
    rw [e, Int32.lt_iff_toInt_lt, iI_toInt (by omega) (by omega), nI_toInt (by omega)]
    omega
  · exact q
section LAW3
variable {p : Program} {l : Launch} {e : Env} {R : Room} {s : State} {m : MethodId} {args : Array Value} {below : List Frame} {meth : Method} {c : Code} {H : Heap} {locs : List Loc} {cells slots : Nat} {Q : State → Prop}
variable {cc : ByteArray} {pc : Nat} {ls : Array Slot} {rest : List Value} {D : va_G} {cl : List vw_C} {A : Nat → Prop} {tys : List (ClassId × FieldType)} {H0 : Heap} {kA : Nat → ClassId} {h h' g : hm_H}
variable {y : MethodName} {bytes : ByteArray} {maxL nL mc ms n index : Nat} {ret : Option FieldType} {ws : List Cond} {rm : Room} {Ts : List Cond} {own C : String} {b : Nat} {As : List Value} {rv : Option Value} {st0 : List Value}
/-- a new object, beside another map -/
theorem hm_new2 {c0 : Code} (hexec : p.tables.exec = Jvm.exec) (hb : c0.code = cc) {own C : String} {T : u_T} {N ci index : Nat} {Ts : List Cond} (hts : ∀ w ∈ Ts, w.before args s = true) (hin : ∀ w ∈ u_ws C T N, w ∈ Ts) (ty : Nat → FieldType) (hty : ∀ k, k < N → parseFieldDescriptor (T k).2.2.1 = some (ty k)) (hown : s.vm.findClass own = some m.cls) (hcl : (Cond.classLink own index C).before args s = true) (hinst : (Cond.instantiable C N).before args s = true) (hini : (Cond.initialized C).before args s = true)
    (hK : va_K D cl tys s) (hI : hm_I D cl kA A H0 h H locs) (hG : hm_P D cl kA A g H) (hc : cl[ci]? = some (C, T, N)) {fs : List Value} (hfs : ∀ j, j < N → defaultValue (ty j) = vp_V fs j) (hcells : cells + 1 ≤ R.cells) (hslots : slots + N ≤ R.slots) (hdg : decode cc pc = .ok (.new index, 3))
    (kk : ∀ H1 : Heap, hm_I D cl kA A H0 (hm_n h (.inr (ci, fs))) H1 locs → hm_P D cl kA A (g.1, h.2 + 1) H1 → W p l e R s m args below meth c0 H1 locs (cells + 1) (slots + N) Q (F0 m (pc + 3) ls (va_rf (some h.2) :: rest))) : W p l e R s m args below meth c0 H locs cells slots Q (F0 m pc ls rest) := by
  have hKn := hK.1 ci _ hc
  refine W.newcK hexec hb hown hcl hinst hini rfl hdg hcells hslots hKn.2.1 rfl fun H1 kC hkC e1 z1 o1 => ?_
  have h9 := kk H1 (hI.new (x := .inr (ci, fs)) ⟨_, hc, (u_born ty hts hin hKn hkC e1 hty).to hfs⟩ z1 o1) ⟨fun q x hq => ⟨(hG.1 q x hq).1.kept (o1 q (hG.1 q x hq).1.lt), (hG.1 q x hq).2⟩, by rw [z1, hI.1.2]⟩
  rw [← hI.1.2] at h9
  exact h9
theorem hm_cI2 (S : CallFix p m c cc nL s args Ts own) (hK : va_K D cl tys s) (hI : hm_I D cl kA A H0 h H locs) (hG : hm_P D cl kA A g H) (ha : apart h g) (hM : hm_C l y ws rm D cl kA tys (.ref b :: As) h rv h' mc ms) (cw : CallB R s args own index y bytes maxL none ws rm mc ms n ∧ y.name = "<init>" ∧ (Cond.instanceMethod y).before args s = true)
    (hn : As.length = n) (hsize : ls.size = nL) (hstack : st0 = As.reverse ++ .ref b :: rest) (hW : (rest.map fun v => v.category).sum ≤ 8) (hdg : decode cc pc = .ok (.invokespecial index, 3)) (hf : cells + mc ≤ R.cells ∧ slots + ms ≤ R.slots)
    (kk : ∀ (H1 : Heap) (locs1 : List Loc), h.2 ≤ h'.2 → hm_I D cl kA A H0 h' H1 locs1 → hm_P D cl kA A (g.1, h'.2) H1 → apart h' g → W p l e R s m args below meth c H1 locs1 (cells + mc) (slots + ms) Q (F0 m (pc + 3) ls (rv.toList ++ rest))) : W p l e R s m args below meth c H locs cells slots Q (F0 m pc ls st0) :=
  hm_call2 (va_runI S hM cw ⟨hm_blind, hm_pre hK hI⟩ rfl hn hsize hstack (lv_room hW) hdg hf) hI hG ha kk
/-- a constructor that makes arrays of references -/
theorem hm_cIa {C1 C2 : String} (S : CallFix p m c cc nL s args Ts own) (hK : va_K D cl tys s) (ao1 : va_AO C1 s) (ao2 : va_AO C2 s) (hI : hm_I D cl kA A H0 h H locs)
    (hM : Met l y ws rm (va_Pc (.ref b :: As) (fun U => hm_B D cl kA (hm_A h) tys h U ∧ va_AO C1 U ∧ va_AO C2 U)) (hm_Q D cl kA tys h rv h') mc ms (hm_A h)) (cw : CallB R s args own index y bytes maxL none ws rm mc ms n ∧ y.name = "<init>" ∧ (Cond.instanceMethod y).before args s = true)
    (hn : As.length = n) (hsize : ls.size = nL) (hstack : st0 = As.reverse ++ .ref b :: rest) (hW : (rest.map fun v => v.category).sum ≤ 8) (hdg : decode cc pc = .ok (.invokespecial index, 3)) (hf : cells + mc ≤ R.cells ∧ slots + ms ≤ R.slots)
    (kk : ∀ (H1 : Heap) (locs1 : List Loc), hm_I D cl kA A H0 h' H1 locs1 → W p l e R s m args below meth c H1 locs1 (cells + mc) (slots + ms) Q (F0 m (pc + 3) ls (rv.toList ++ rest))) : W p l e R s m args below meth c H locs cells slots Q (F0 m pc ls st0) :=
  hm_call (va_runI S hM cw ⟨fun a U g mk q => ⟨q.1, ⟨q.2.1.1, va_K.moved (u := U) (U := U.calling g mk a) (Vm.Alike.refl U.vm) q.2.1.2⟩, va_AO.moved (u := U) (U := U.calling g mk a) (Vm.Alike.refl U.vm) q.2.2.1, va_AO.moved (u := U) (U := U.calling g mk a) (Vm.Alike.refl U.vm) q.2.2.2⟩,
    fun U hU hW => ⟨rfl, ((hm_pre (as := .ref b :: As) hK hI) U hU hW).2, va_AO.moved hW.alike ao1, va_AO.moved hW.alike ao2⟩⟩ rfl hn hsize hstack (lv_room hW) hdg hf) hI kk
end LAW3
set_option maxHeartbeats 4000000 in
set_option maxRecDepth 100000 in
/-- the law's loop: before its j-th call the two objects agree -/
theorem law_loop {p : Program} {l : Launch} {e : Env} {s : State} {m : MethodId} {below : List Frame} {meth : Method} {c : Code} {D : va_G} {kA : Nat → ClassId} {b L bd md : Nat} {xs : Nat → Int32} (hL : L ≤ 5632) (C0 : lw_At p s m meth c b L xs) (hK : va_K D vwCl (hm_ty kA) s) :
    ∀ (n j : Nat), 11 * j ≤ L → L < 11 * j + 11 * n → ∀ (hc hm : hm_H) (H : Heap) (locs : List Loc), LWS D kA s bd md hc hm H locs → ∀ (ls : Array Slot), lv_has ls 4 [(3, .int (nI (11 * j))), (2, va_rf (some md)), (1, va_rf (some bd)), (0, .ref b)] → W p l e room_1 s m #[Value.ref b] below meth c H locs (28 + 6 * j) (109452 + 4105 * j) (lw_Z below #[Value.ref b] s) (F0 m 18 ls []) := by
  obtain ⟨hx, hb, hr, hml, hown, hts, hX, hbl, hlocks, hgv⟩ := id C0
  have hbA : ¬ (fun q : Nat => s.heap.size ≤ q) b := Nat.not_le.mpr hbl
  intro n
  induction n with
  | zero =>
    intro j h1 h2
    exact absurd h2 (by omega)
  | succ n ih =>
    intro j hj hn hc hm H locs S ls hl
    have hS := S.1.2.1
    have hend : ∀ (hc hm : hm_H) (H : Heap) (locs : List Loc), 11 * j + 11 ≤ L → LWS D kA s bd md hc hm H locs → W p l e room_1 s m #[Value.ref b] below meth c H locs (28 + 6 * j + 6) (109452 + 4105 * j + 4105) (lw_Z below #[Value.ref b] s) (F0 m 1202 ls []) := by
      intro hc hm H locs hj1 S
      refine lv_iinc (v := nI (11 * (j + 1))) (lv' := [(3, .int (nI (11 * (j + 1)))), (2, va_rf (some md)), (1, va_rf (some bd)), (0, .ref b)]) hx hb dL_law_1202 hl (k := 0) rfl (nI_add (11 * j) 11) (by decide) rfl (fun ls hl => ?_)
      refine lv_goto (tgt := 18) hx hb dL_law_1205 (by decide) ?_
      exact W.widen (by omega) (by omega) (ih (j + 1) (by omega) (by omega) hc hm H locs S ls hl)
    refine lv_iload_n hx hb dL_law_18 rfl (lv_at hl 0 rfl) ?_
    refine lv_aload_n hx hb dL_law_19 rfl (lv_at hl 3 rfl) ?_
    refine va_slen hx hb hX hbl hbA hS dL_law_20 ?_
    refine lv_bipush (v := (11 : Int32)) hx hb dL_law_21 rfl ?_
    refine lv_isub hx hb dL_law_23 ?_
    refine lv_icmp_gt (tgt := 1208) hx hb dL_law_24 (by decide) (fun c1 => ?_) (fun c1 => ?_)
    · refine lv_iconst (v := 1) hx hb dL_law_1208 (by decide) ?_
      refine va_forget (fun q hq => hS.2.2 q hq) ?_
      refine W.widen (k := 600000) (n := 7302250) (by omega) (by omega) ?_
      exact lw_ret hx hb hr hlocks dL_law_1209
    · have hj1 : 11 * j + 11 ≤ L := room_left hL c1 hj
      refine lv_aload_n hx hb dL_law_27 rfl (lv_at hl 3 rfl) ?_
      refine lv_iload_n hx hb dL_law_28 rfl (lv_at hl 0 rfl) ?_
      refine va_sld hx hb hX hbl hbA hS (vp_in_nI (show 11 * j < L by omega) (by omega)) dL_law_29 ?_
      refine lv_bipush (v := (31 : Int32)) hx hb dL_law_30 rfl ?_
      refine lv_iand hx hb dL_law_32 ?_
      obtain ⟨k, hk, ek⟩ := and31 (xs (nI (11 * j)).toNatClampNeg)
      rw [ek]
      have l0 := lv_at hl 3 rfl
      have l1 := lv_at hl 2 rfl
      have l2 := lv_at hl 1 rfl
      have l3 := lv_at hl 0 rfl
      have g1 : 28 + 6 * j + 6 ≤ 600000 := by omega
      have g2 : 109452 + 4105 * j + 4105 ≤ 7302250 := by omega
      have hend := fun hc hm H locs S => hend hc hm H locs hj1 S
      clear ek ih c1 hgv
      rcases (show k = 0 ∨ k = 1 ∨ k = 2 ∨ k = 3 ∨ k = 4 ∨ k = 5 ∨ k = 6 ∨ k = 7 ∨ k = 8 ∨ k = 9 ∨ k = 10 ∨ k = 11 ∨ k = 12 ∨ k = 13 ∨ k = 14 ∨ k = 15 ∨ k = 16 ∨ k = 17 ∨ 18 ≤ k by omega) with rfl | rfl | rfl | rfl | rfl | rfl | rfl | rfl | rfl | rfl | rfl | rfl | rfl | rfl | rfl | rfl | rfl | rfl | hk18
      · refine lv_tableIn (off := 87) (tgt := 120) hx hb dL_law_33 (by decide) (by decide) rfl (by decide) ?_
        exact law_make C0 hK hj1 hL hl l0 l1 l2 l3 S g1 g2 hend
      · refine lv_tableIn (off := 130) (tgt := 163) hx hb dL_law_33 (by decide) (by decide) rfl (by decide) ?_
        exact law_clip C0 hK hj1 hL hl l0 l1 l2 l3 S g1 g2 hend
      · refine lv_tableIn (off := 193) (tgt := 226) hx hb dL_law_33 (by decide) (by decide) rfl (by decide) ?_
        exact law_set C0 hK hj1 hL hl l0 l1 l2 l3 S g1 g2 hend
      · refine lv_tableIn (off := 246) (tgt := 279) hx hb dL_law_33 (by decide) (by decide) rfl (by decide) ?_
        exact law_get C0 hK hj1 hL hl l0 l1 l2 l3 S g1 g2 hend
      · refine lv_tableIn (off := 289) (tgt := 322) hx hb dL_law_33 (by decide) (by decide) rfl (by decide) ?_
        exact law_told C0 hK hj1 hL hl l0 l1 l2 l3 S g1 g2 hend
      · refine lv_tableIn (off := 322) (tgt := 355) hx hb dL_law_33 (by decide) (by decide) rfl (by decide) ?_
        exact law_fill C0 hK hj1 hL hl l0 l1 l2 l3 S g1 g2 hend
      · refine lv_tableIn (off := 409) (tgt := 442) hx hb dL_law_33 (by decide) (by decide) rfl (by decide) ?_
        exact law_copy C0 hK hj1 hL hl l0 l1 l2 l3 S g1 g2 hend
      · refine lv_tableIn (off := 520) (tgt := 553) hx hb dL_law_33 (by decide) (by decide) rfl (by decide) ?_
        exact law_keyed C0 hK hj1 hL hl l0 l1 l2 l3 S g1 g2 hend
      · refine lv_tableIn (off := 631) (tgt := 664) hx hb dL_law_33 (by decide) (by decide) rfl (by decide) ?_
        exact law_masked C0 hK hj1 hL hl l0 l1 l2 l3 S g1 g2 hend
      · refine lv_tableIn (off := 742) (tgt := 775) hx hb dL_law_33 (by decide) (by decide) rfl (by decide) ?_
        exact law_spread C0 hK hj1 hL hl l0 l1 l2 l3 S g1 g2 hend
      · refine lv_tableIn (off := 865) (tgt := 898) hx hb dL_law_33 (by decide) (by decide) rfl (by decide) ?_
        exact law_turn C0 hK hj1 hL hl l0 l1 l2 l3 S g1 g2 hend
      · refine lv_tableIn (off := 898) (tgt := 931) hx hb dL_law_33 (by decide) (by decide) rfl (by decide) ?_
        exact law_count C0 hK hj1 hL hl l0 l1 l2 l3 S g1 g2 hend
      · refine lv_tableIn (off := 931) (tgt := 964) hx hb dL_law_33 (by decide) (by decide) rfl (by decide) ?_
        exact law_tell C0 hK hj1 hL hl l0 l1 l2 l3 S g1 g2 hend
      · refine lv_tableIn (off := 974) (tgt := 1007) hx hb dL_law_33 (by decide) (by decide) rfl (by decide) ?_
        exact law_load C0 hK hj1 hL hl l0 l1 l2 l3 S g1 g2 hend
      · refine lv_tableIn (off := 1047) (tgt := 1080) hx hb dL_law_33 (by decide) (by decide) rfl (by decide) ?_
        exact law_forget C0 hK hj1 hL hl l0 l1 l2 l3 S g1 g2 hend
      · refine lv_tableIn (off := 1070) (tgt := 1103) hx hb dL_law_33 (by decide) (by decide) rfl (by decide) ?_
        exact law_part C0 hK hj1 hL hl l0 l1 l2 l3 S g1 g2 hend
      · refine lv_tableIn (off := 1103) (tgt := 1136) hx hb dL_law_33 (by decide) (by decide) rfl (by decide) ?_
        exact law_draw C0 hK hj1 hL hl l0 l1 l2 l3 S g1 g2 hend
      · refine lv_tableIn (off := 1156) (tgt := 1189) hx hb dL_law_33 (by decide) (by decide) rfl (by decide) ?_
        exact law_check C0 hK hj1 hL hl l0 l1 l2 l3 S g1 g2 hend
      · refine lv_tableOut (tgt := 1202) hx hb dL_law_33 (Or.inr (by rw [nI_toInt (by omega)]; omega)) (by decide) ?_
        exact W.widen (by omega) (by omega) (hend hc hm H locs S)
/-- what the tables say of an array class of numbers, and of one of references -/
theorem arr_n {s : State} {args : Array Value} {ty : FieldType} (h : (Cond.arrayClass ty).before args s = true) (ht : ∀ C, ty ≠ .object C) : ∃ cA : ClassId, ArrOfT s cA ty ∧ va_RA s cA ty := by
  obtain ⟨cA, kA, comp, f1, f2, f3⟩ := Cond.arrayClass_spec h
  refine ⟨cA, fun N z => ⟨(fun k h => by cases h), kA, f2, comp, f3⟩, ?_⟩
  cases ty with
  | object C => exact absurd rfl (ht C)
  | _ => exact f1
theorem arr_q {s : State} {C : String} (h : va_AO C s) : ∃ cA : ClassId, ArrOfT s cA (.object C) ∧ va_RA s cA (.object C) := by
  obtain ⟨comp, cA, kA, f1, f2, f3, f4, f5⟩ := Cond.arrayOver_spec h
  exact ⟨cA, fun N z => ⟨(fun k h => by cases h), kA, f3, comp, f4⟩, kA, comp, f3, f4, f1, f5⟩
set_option maxHeartbeats 4000000 in
set_option maxRecDepth 100000 in
/-- what the tables say of the seven classes and the four kinds of arrays -/
theorem law_K {s : State} {args : Array Value} (hts : ∀ w ∈ lw_tbl, w.before args s = true) : ∃ (D : va_G) (kA : Nat → ClassId), va_K D vwCl (hm_ty kA) s ∧ va_AO RX2 s ∧ va_AO RX3 s := by
  obtain ⟨c0, iS0, hKn0⟩ := u_known (C := RX0) (T := TX0) (N := 4) (n := 4) hts inX0 (hts (.instantiable RX0 4) (by decide +kernel))
  obtain ⟨c1, iS1, hKn1⟩ := u_known (C := RX1) (T := TX1) (N := 4) (n := 4) hts inX1 (hts (.instantiable RX1 4) (by decide +kernel))
  obtain ⟨c2, iS2, hKn2⟩ := u_known (C := RX2) (T := TX2) (N := 3) (n := 3) hts inX2 (hts (.instantiable RX2 3) (by decide +kernel))
  obtain ⟨c3, iS3, hKn3⟩ := u_known (C := RX3) (T := TX3) (N := 5) (n := 5) hts inX3 (hts (.instantiable RX3 5) (by decide +kernel))
  obtain ⟨c4, iS4, hKn4⟩ := u_known (C := RX4) (T := TX4) (N := 3) (n := 3) hts inX4 (hts (.instantiable RX4 3) (by decide +kernel))
  obtain ⟨c5, iS5, hKn5⟩ := u_known (C := RX5) (T := TX5) (N := 5) (n := 5) hts inX5 (hts (.instantiable RX5 5) (by decide +kernel))
  obtain ⟨c6, iS6, hKn6⟩ := u_known (C := RX6) (T := TX6) (N := 16) (n := 16) hts inX6 (hts (.instantiable RX6 16) (by decide +kernel))
  have a2 : va_AO RX2 s := va_AO.of (hts (.arrayOver (.object "BlitBoard$Sprite")) (by decide +kernel))
  have a3 : va_AO RX3 s := va_AO.of (hts (.arrayOver (.object "BlitBoard$Surface")) (by decide +kernel))
  obtain ⟨k0, p0, q0⟩ := arr_n (hts (.arrayClass .int) (by decide +kernel)) (fun C h => by cases h)
  obtain ⟨k1, p1, q1⟩ := arr_n (hts (.arrayClass .boolean) (by decide +kernel)) (fun C h => by cases h)
  obtain ⟨k2, p2, q2⟩ := arr_q a2
  obtain ⟨k3, p3, q3⟩ := arr_q a3
  refine ⟨(fun k => match k with | 0 => c0 | 1 => c1 | 2 => c2 | 3 => c3 | 4 => c4 | 5 => c5 | _ => c6, fun k => match k with | 0 => iS0 | 1 => iS1 | 2 => iS2 | 3 => iS3 | 4 => iS4 | 5 => iS5 | _ => iS6), fun k => match k with | 0 => k0 | 1 => k1 | 2 => k2 | _ => k3, ⟨?_, ?_⟩, a2, a3⟩
  · intro k q hq
    match k, hq with
    | 0, hq => cases hq; exact hKn0
    | 1, hq => cases hq; exact hKn1
    | 2, hq => cases hq; exact hKn2
    | 3, hq => cases hq; exact hKn3
    | 4, hq => cases hq; exact hKn4
    | 5, hq => cases hq; exact hKn5
    | 6, hq => cases hq; exact hKn6
    | k + 7, hq => cases hq
  · intro k q hq
    match k, hq with
    | 0, hq => cases hq; exact ⟨p0, q0⟩
    | 1, hq => cases hq; exact ⟨p1, q1⟩
    | 2, hq => cases hq; exact ⟨p2, q2⟩
    | 3, hq => cases hq; exact ⟨p3, q3⟩
    | k + 4, hq => cases hq
set_option maxHeartbeats 4000000 in
set_option maxRecDepth 100000 in
/-- THE LAW, from its entry -/
theorem whole_start {p : Program} {e : Env} {s : State} {m : MethodId} {below : List Frame} {meth : Method} {c : Code} (l : Launch) {b L : Nat} {xs : Nat → Int32} (hL : L ≤ 5632) (C0 : lw_At p s m meth c b L xs) : W p l e room_1 s m #[Value.ref b] below meth c s.heap [] 0 0 (lw_Z below #[Value.ref b] s) (entryFrame m ([Value.ref b] : List Value).toArray 4) := by
  obtain ⟨hx, hb, hr, hml, hown, hts, hX, hbl, hlocks, hgv⟩ := id C0
  obtain ⟨D, kA, hK, ao2, ao3⟩ := law_K hts
  have hts1 : ∀ w ∈ wsL_law, w.before #[Value.ref b] s = true := fun w h => hts w (wsL_law_in w h)
  have hl := lv_entry ([.ref b]) (n := 4) (Nat.le_of_ble_eq_true rfl)
  rw [lg_entry_eq]
  generalize (lg_sl ([.ref b]) ++ List.replicate (4 - (lg_sl ([.ref b])).length) Slot.unset).toArray = ls at hl ⊢
  have hl : lv_has ls 4 [(0, .ref b)] := hl
  obtain ⟨hc, hm, ec, em, zc, zm, hAG⟩ := ag_init s.heap.size (s.heap.size + 14)
  have hI : hm_I D vwCl kA (fun q : Nat => s.heap.size ≤ q) s.heap (fun _ => none, s.heap.size) s.heap [] := ⟨⟨fun a x h => (by cases h), rfl⟩, va_S.rf, fun _ h => h⟩
  refine hm_new (ci := 5) (fs := [.null, .int 0, .null, .null, .null]) (C := RX5) (T := TX5) (N := 5) hx hb hts inX5 tyX5 tyX5_ok hown (hts1 (.classLink RL 7 RX5) (by decide +kernel)) (hts1 (.instantiable RX5 5) (by decide +kernel)) (hts1 (.initialized RX5) (by decide +kernel)) hK hI rfl (fun j hj => by rcases (show j = 0 ∨ j = 1 ∨ j = 2 ∨ j = 3 ∨ j = 4 by omega) with rfl | rfl | rfl | rfl | rfl <;> rfl) (Nat.le_of_ble_eq_true rfl) (Nat.le_of_ble_eq_true rfl) dL_law_0 (fun H hI => ?_)
  refine lv_dup hx hb dL_law_3 rfl ?_
  refine hm_cIa (As := []) (rest := [va_rf (some s.heap.size)]) ⟨hx, hb, hml, hown, hts1⟩ hK ao2 ao3 hI (kX5_init l D kA s.heap.size _ hc ec) (cwI 0 hts1 gL_law_X5_init rfl rfl rfl (hts1 (.initialized RX5) (by decide +kernel)) (hts1 (.methodLink RL 9 yX5_init) (by decide +kernel)) (hts1 (.instanceMethod yX5_init) (by decide +kernel)) rfl (by decide +kernel) ⟨Nat.le_of_ble_eq_true rfl, Nat.le_of_ble_eq_true rfl⟩) rfl hl.1 rfl (Nat.le_of_ble_eq_true rfl) dL_law_4 ⟨Nat.le_of_ble_eq_true rfl, Nat.le_of_ble_eq_true rfl⟩ (fun H locs hI => ?_)
  refine hm_astore_n (lv' := [(1, va_rf (some s.heap.size)), (0, .ref b)]) hx hb dL_law_7 rfl hl (by decide) rfl (fun ls hl => ?_)
  have hJ : hm_I D vwCl kA (fun q : Nat => s.heap.size ≤ q) s.heap (fun _ => none, s.heap.size + 14) H locs := ⟨⟨fun a x h => (by cases h), by rw [hI.1.2, zc]⟩, hI.2⟩
  refine hm_new2 (ci := 6) (fs := [.int 0, .null, .null, .null, .null, .null, .null, .null, .null, .null, .null, .int 0, .int 0, .null, .null, .null]) (C := RX6) (T := TX6) (N := 16) hx hb hts inX6 tyX6 tyX6_ok hown (hts1 (.classLink RL 10 RX6) (by decide +kernel)) (hts1 (.instantiable RX6 16) (by decide +kernel)) (hts1 (.initialized RX6) (by decide +kernel)) hK hJ hI.1 rfl (fun j hj => by rcases (show j = 0 ∨ j = 1 ∨ j = 2 ∨ j = 3 ∨ j = 4 ∨ j = 5 ∨ j = 6 ∨ j = 7 ∨ j = 8 ∨ j = 9 ∨ j = 10 ∨ j = 11 ∨ j = 12 ∨ j = 13 ∨ j = 14 ∨ j = 15 by omega) with rfl | rfl | rfl | rfl | rfl | rfl | rfl | rfl | rfl | rfl | rfl | rfl | rfl | rfl | rfl | rfl <;> rfl) (Nat.le_of_ble_eq_true rfl) (Nat.le_of_ble_eq_true rfl) dL_law_8 (fun H1 hJ1 hG1 => ?_)
  have hap : apart (hm_n (fun _ => none, s.heap.size + 14) (.inr (6, [.int 0, .null, .null, .null, .null, .null, .null, .null, .null, .null, .null, .int 0, .int 0, .null, .null, .null]))) (hc.1, s.heap.size + 14 + 1) := fun a x y h1 h2 => by
    have h3 : a < H.size := (hI.1.1 a y h2).1.lt
    have h4 : a ≠ s.heap.size + 14 := by rw [hI.1.2, zc] at h3; omega
    rw [hn_ne h4] at h1
    cases h1
  refine lv_dup hx hb dL_law_11 rfl ?_
  refine hm_cI2 (As := []) (rest := [va_rf (some (s.heap.size + 14))]) ⟨hx, hb, hml, hown, hts1⟩ hK hJ1 hG1 hap (kX6_init l D kA (s.heap.size + 14) _ hm em) (cwI 0 hts1 gL_law_X6_init rfl rfl rfl (hts1 (.initialized RX6) (by decide +kernel)) (hts1 (.methodLink RL 12 yX6_init) (by decide +kernel)) (hts1 (.instanceMethod yX6_init) (by decide +kernel)) rfl (by decide +kernel) ⟨Nat.le_of_ble_eq_true rfl, Nat.le_of_ble_eq_true rfl⟩) rfl hl.1 rfl (Nat.le_of_ble_eq_true rfl) dL_law_12 ⟨Nat.le_of_ble_eq_true rfl, Nat.le_of_ble_eq_true rfl⟩ (fun H2 locs2 z2 hJ2 hG2 ap2 => ?_)
  refine hm_astore_n (lv' := [(2, va_rf (some (s.heap.size + 14))), (1, va_rf (some s.heap.size)), (0, .ref b)]) hx hb dL_law_15 rfl hl (by decide) rfl (fun ls hl => ?_)
  refine lv_iconst (v := 0) hx hb dL_law_16 (by decide) ?_
  refine lv_istore_n (lv' := [(3, .int 0), (2, va_rf (some (s.heap.size + 14))), (1, va_rf (some s.heap.size)), (0, .ref b)]) hx hb dL_law_17 rfl hl (by decide) rfl (fun ls hl => ?_)
  refine W.widen (k := 28 + 6 * 0) (n := 109452 + 4105 * 0) (Nat.le_of_ble_eq_true rfl) (Nat.le_of_ble_eq_true rfl) ?_
  exact law_loop hL C0 hK (L + 1) 0 (Nat.zero_le L) (by omega) (hc.1, hm.2) hm H2 locs2 ⟨hJ2.other hG2, hJ2.1, fun a x y h1 h2 => ap2 a y x h2 h1, hAG.grow (by omega) hm.2⟩ ls hl
