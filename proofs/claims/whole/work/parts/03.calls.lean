/-! CALLS OVER MAPS -/
theorem hm_blind {D : va_G} {cl : List vw_C} {kA : Nat → ClassId} {A : Nat → Prop} {tys : List (ClassId × FieldType)} {h : hm_H} {as : List Value} : FrameBlind (va_Pc as (hm_B D cl kA A tys h)) :=
  fun a U g mk q => ⟨q.1, q.2.1, va_K.moved (u := U) (U := U.calling g mk a) (Vm.Alike.refl U.vm) q.2.2⟩
theorem hm_pre {D : va_G} {cl : List vw_C} {kA : Nat → ClassId} {A : Nat → Prop} {tys : List (ClassId × FieldType)} {h : hm_H} {as : List Value} {s : State} {H0 H : Heap} {locs : List Loc} (hK : va_K D cl tys s) (hI : hm_I D cl kA A H0 h H locs) : ∀ U : State, U.heap = H → s.WarmedH U.vm → va_Pc as (hm_B D cl kA (hm_A h) tys h) as.toArray U :=
  fun U hU hW => ⟨rfl, ⟨fun a x ha => by rw [hU]; exact ⟨(hI.1.1 a x ha).1, Or.inl ⟨x, ha⟩⟩, by rw [hU]; exact hI.1.2⟩, va_K.moved hW.alike hK⟩
section HMC
variable {p : Program} {l : Launch} {e : Env} {R : Room} {s : State} {m : MethodId} {args : Array Value} {below : List Frame} {meth : Method} {c : Code} {H : Heap} {locs : List Loc} {cells slots : Nat} {Q : State → Prop}
variable {cc : ByteArray} {pc : Nat} {ls : Array Slot} {rest : List Value} {D : va_G} {cl : List vw_C} {A : Nat → Prop} {tys : List (ClassId × FieldType)} {H0 : Heap} {kA : Nat → ClassId} {h h' : hm_H}
variable {y : MethodName} {bytes : ByteArray} {maxL nL mc ms n index : Nat} {ret : Option FieldType} {ws : List Cond} {rm : Room} {Ts : List Cond} {own C : String} {b : Nat} {As : List Value} {rv : Option Value} {st0 : List Value}
/-- behind a call -/
theorem hm_call {a : Array Value} (hr : va_Run p l e R s m args below meth c H locs cells slots mc ms (F0 m pc ls st0) rest (hm_Q D cl kA tys h rv h' a) (hm_A h)) (hI : hm_I D cl kA A H0 h H locs)
    (kk : ∀ (H1 : Heap) (locs1 : List Loc), hm_I D cl kA A H0 h' H1 locs1 → W p l e R s m args below meth c H1 locs1 (cells + mc) (slots + ms) Q (F0 m (pc + 3) ls (rv.toList ++ rest))) : W p l e R s m args below meth c H locs cells slots Q (F0 m pc ls st0) := by
  intro T hT X
  obtain ⟨v, st₀, t, T', L, h0, X', hL, e1, e2, ⟨hv, hB, hz, hk⟩, st⟩ := hr T hT X
  cases hv
  rw [h0] at hz hk
  have hAA : ∀ q, hm_A h q → A q := fun q hq => by
    rcases hq with ⟨x, hx⟩ | hq
    · exact (hI.1.1 q x hx).2
    · exact hI.2.2 q (Nat.le_trans hI.2.1.1 (by rw [hI.1.2]; exact hq))
  obtain ⟨t2, a1, b1⟩ := kk T'.heap (locs ++ L) ⟨⟨fun q x hq => by rw [e1]; exact ⟨(hB.1.1 q x hq).1, hAA q (hB.1.1 q x hq).2⟩, by rw [e1]; exact hB.1.2⟩,
    ⟨Nat.le_trans hI.2.1.1 (by rw [e1]; exact hz), fun q h1 h2 => by rw [e1, hk q (Nat.lt_of_lt_of_le h1 hI.2.1.1) (fun z => h2 (hAA q z))]; exact hI.2.1.2.1 q h1 h2, fun q hq => by
      rcases List.mem_append.mp hq with h9 | h9
      · exact hI.2.1.2.2 q h9
      · exact hAA _ (hL q h9)⟩, hI.2.2⟩ T' rfl X'
  exact ⟨t2, st t2 a1, b1⟩
theorem hm_cV (S : CallFix p m c cc nL s args Ts own) (hK : va_K D cl tys s) (hI : hm_I D cl kA A H0 h H locs) {r : Option Nat} {ci : Nat} {w : vw_C} (hb : hm_rc ci h r = some b) (hc : cl[ci]? = some w) (hw : w.1 = C) (hM : hm_C l y ws rm D cl kA tys (.ref b :: As) h rv h' mc ms) (cw : CallW R s args own C index y bytes maxL ret ws rm mc ms n)
    (hn : As.length = n) (hsize : ls.size = nL) (hstack : st0 = As.reverse ++ va_rf r :: rest) (hW : (rest.map fun v => v.category).sum ≤ 8) (hdg : decode cc pc = .ok (.invokevirtual index, 3)) (hf : cells + mc ≤ R.cells ∧ slots + ms ≤ R.slots)
    (kk : ∀ (H1 : Heap) (locs1 : List Loc), hm_I D cl kA A H0 h' H1 locs1 → W p l e R s m args below meth c H1 locs1 (cells + mc) (slots + ms) Q (F0 m (pc + 3) ls (rv.toList ++ rest))) : W p l e R s m args below meth c H locs cells slots Q (F0 m pc ls st0) := by
  obtain ⟨rfl, fs, hx⟩ := hm_rc_s hb
  subst hw
  obtain ⟨w', hw', cell, g1, g2, g3, -⟩ := (hI.1.1 _ _ hx).1
  refine hm_call (va_runV S hM cw ⟨hm_blind, ⟨cell, g1, by rw [g3]; rfl, by rw [g2]; exact (hK.1 ci _ hc).2.1⟩, hm_pre hK hI⟩ rfl hn hsize hstack (lv_room hW) hdg hf) hI kk
theorem hm_cS (S : CallFix p m c cc nL s args Ts own) (hK : va_K D cl tys s) (hI : hm_I D cl kA A H0 h H locs) (hM : hm_C l y ws rm D cl kA tys As h rv h' mc ms) (cw : CallB R s args own index y bytes maxL ret ws rm mc ms n ∧ (Cond.static y).before args s = true)
    (hn : As.length = n) (hsize : ls.size = nL) (hstack : st0 = As.reverse ++ rest) (hW : (rest.map fun v => v.category).sum ≤ 8) (hdg : decode cc pc = .ok (.invokestatic index, 3)) (hf : cells + mc ≤ R.cells ∧ slots + ms ≤ R.slots)
    (kk : ∀ (H1 : Heap) (locs1 : List Loc), hm_I D cl kA A H0 h' H1 locs1 → W p l e R s m args below meth c H1 locs1 (cells + mc) (slots + ms) Q (F0 m (pc + 3) ls (rv.toList ++ rest))) : W p l e R s m args below meth c H locs cells slots Q (F0 m pc ls st0) :=
  hm_call (va_runS S hM cw ⟨hm_blind, hm_pre hK hI⟩ rfl hn hsize hstack (lv_room hW) hdg hf) hI kk
theorem hm_cI (S : CallFix p m c cc nL s args Ts own) (hK : va_K D cl tys s) (hI : hm_I D cl kA A H0 h H locs) (hM : hm_C l y ws rm D cl kA tys (.ref b :: As) h rv h' mc ms) (cw : CallB R s args own index y bytes maxL none ws rm mc ms n ∧ y.name = "<init>" ∧ (Cond.instanceMethod y).before args s = true)
    (hn : As.length = n) (hsize : ls.size = nL) (hstack : st0 = As.reverse ++ .ref b :: rest) (hW : (rest.map fun v => v.category).sum ≤ 8) (hdg : decode cc pc = .ok (.invokespecial index, 3)) (hf : cells + mc ≤ R.cells ∧ slots + ms ≤ R.slots)
    (kk : ∀ (H1 : Heap) (locs1 : List Loc), hm_I D cl kA A H0 h' H1 locs1 → W p l e R s m args below meth c H1 locs1 (cells + mc) (slots + ms) Q (F0 m (pc + 3) ls (rv.toList ++ rest))) : W p l e R s m args below meth c H locs cells slots Q (F0 m pc ls st0) :=
  hm_call (va_runI S hM cw ⟨hm_blind, hm_pre hK hI⟩ rfl hn hsize hstack (lv_room hW) hdg hf) hI kk
/-- ends -/
theorem hm_vret {f0 : hm_H} (hexec : p.tables.exec = Jvm.exec) (hb : c.code = cc) (hr : meth.sig.returnType = none) (hlocks : meth.locks = false) (hK : va_K D cl tys s) (hI : hm_I D cl kA (hm_A f0) s.heap h' H locs) (hc : cells ≤ mc) (hs : slots ≤ ms) (hdg : decode cc pc = .ok (.return_, 1)) :
    W p l e R s m args below meth c H locs cells slots (MQ below (hm_Q D cl kA tys f0 none h') args s mc ms (hm_A f0)) (F0 m pc ls []) :=
  W.widen hc hs (W.vret hexec hb hr (fun t ht hW => ⟨rfl, hm_end hK hI ht hW⟩) hI.2.1.2.2 hdg hlocks)
theorem hm_iret {f0 : hm_H} {v : Int32} (hexec : p.tables.exec = Jvm.exec) (hb : c.code = cc) (hr : meth.sig.returnType = some .int) (hlocks : meth.locks = false) (hK : va_K D cl tys s) (hI : hm_I D cl kA (hm_A f0) s.heap h' H locs) (hc : cells ≤ mc) (hs : slots ≤ ms) (hdg : decode cc pc = .ok (.ireturn, 1)) :
    W p l e R s m args below meth c H locs cells slots (MQ below (hm_Q D cl kA tys f0 (some (.int v)) h') args s mc ms (hm_A f0)) (F0 m pc ls [.int v]) :=
  W.widen hc hs (W.iret hexec hb hr (fun t ht hW => ⟨rfl, hm_end hK hI ht hW⟩) hI.2.1.2.2 hdg hlocks)
/-- a boolean's return: the answer is 0 or 1 -/
theorem hm_zret {f0 : hm_H} {v : Int32} (hexec : p.tables.exec = Jvm.exec) (hb : c.code = cc) (hr : meth.sig.returnType = some .boolean) (hlocks : meth.locks = false) (hK : va_K D cl tys s) (hI : hm_I D cl kA (hm_A f0) s.heap h' H locs) (hc : cells ≤ mc) (hs : slots ≤ ms) (hn : narrow .boolean (.int v) = .int v) (hdg : decode cc pc = .ok (.ireturn, 1)) :
    W p l e R s m args below meth c H locs cells slots (MQ below (hm_Q D cl kA tys f0 (some (.int v)) h') args s mc ms (hm_A f0)) (F0 m pc ls [.int v]) :=
  W.widen hc hs (W.zret hexec hb hr hn (fun t ht hW => ⟨rfl, hm_end hK hI ht hW⟩) hI.2.1.2.2 hdg hlocks)
theorem hm_lret {f0 : hm_H} {v : Int64} (hexec : p.tables.exec = Jvm.exec) (hb : c.code = cc) (hr : meth.sig.returnType = some .long) (hlocks : meth.locks = false) (hK : va_K D cl tys s) (hI : hm_I D cl kA (hm_A f0) s.heap h' H locs) (hc : cells ≤ mc) (hs : slots ≤ ms) (hdg : decode cc pc = .ok (.lreturn, 1)) :
    W p l e R s m args below meth c H locs cells slots (MQ below (hm_Q D cl kA tys f0 (some (.long v)) h') args s mc ms (hm_A f0)) (F0 m pc ls [.long v]) :=
  W.widen hc hs (W.lret hexec hb hr (fun t ht hW => ⟨rfl, hm_end hK hI ht hW⟩) hI.2.1.2.2 hdg hlocks)
theorem hm_aret {f0 : hm_H} {v : Option Nat} {C : String} (hexec : p.tables.exec = Jvm.exec) (hb : c.code = cc) (hr : meth.sig.returnType = some (.object C)) (hlocks : meth.locks = false) (hK : va_K D cl tys s) (hI : hm_I D cl kA (hm_A f0) s.heap h' H locs) (hc : cells ≤ mc) (hs : slots ≤ ms) (hdg : decode cc pc = .ok (.areturn, 1)) :
    W p l e R s m args below meth c H locs cells slots (MQ below (hm_Q D cl kA tys f0 (some (va_rf v)) h') args s mc ms (hm_A f0)) (F0 m pc ls [va_rf v]) :=
  W.widen hc hs (W.aret hexec hb hr (Or.inl ⟨C, rfl⟩) (by cases v with | none => exact Or.inl rfl | some a => exact Or.inr ⟨a, rfl⟩) (fun t ht hW => ⟨rfl, hm_end hK hI ht hW⟩) hI.2.1.2.2 hdg hlocks)
theorem hm_copy (hexec : p.tables.exec = Jvm.exec) (hb : c.code = cc) (hml : c.maxLocals = ls.size) (hown : s.vm.findClass own = some m.cls) (hlink : (Cond.methodLink own index arraycopyName).before args s = true) (hnat : (Cond.native arraycopyName).before args s = true) (hstat : (Cond.static arraycopyName).before args s = true) (hini : (Cond.initialized "java/lang/System").before args s = true)
    (hK : va_K D cl tys s) (hI : hm_I D cl kA A H0 h H locs) {t0 : Nat} (ht : tys[t0]? = some (kA 0, .int)) {r r2 : Option Nat} {sp dp n : Int32} (hg : hm_cp h r sp r2 dp n = some h')
    (hframes : 1 ≤ R.frames) (hlocals : (rest.map fun v => v.category).sum + (nativeFrameWords "java/lang/System" "arraycopy" 5 + 11) ≤ R.locals) (hdg : decode cc pc = .ok (.invokestatic index, 3))
    (kk : ∀ (H1 : Heap) (locs1 : List Loc), hm_I D cl kA A H0 h' H1 locs1 → W p l e R s m args below meth c H1 locs1 cells slots Q (F0 m (pc + 3) ls rest)) : W p l e R s m args below meth c H locs cells slots Q (F0 m pc ls (.int n :: .int dp :: va_rf r2 :: .int sp :: va_rf r :: rest)) := by
  obtain ⟨a0, a, n0, n1, f, g, rfl, rfl, ha0, ha1, ⟨h1, h2, h3⟩, h4, h5, rfl⟩ := hm_cp_s hg
  have nn : ∀ z : Int32, ¬ z < 0 → z.toInt = (z.toNatClampNeg : Int) := by
    intro z hz
    have hz0 : (0 : Int) ≤ z.toInt := by
      have := Int32.not_lt.mp hz
      simpa using Int32.le_iff_toInt_le.mp this
    show z.toInt = ((z.toInt.toNat : Nat) : Int)
    omega
  intro T hT X
  have hc0 : H[a0]? = some (vp_cell (kA 0) (n0, .inl f)) := (hI.1.1 _ _ ha0).1
  have hc1 : H[a]? = some (vp_cell (kA 0) (n1, .inl g)) := (hI.1.1 _ _ ha1).1
  obtain ⟨-, k0, hk0, cm0, hkk0⟩ := (hK.2 t0 _ ht).1 n0 (fun j => .int (f j))
  obtain ⟨-, k1, hk1, cm1, hkk1⟩ := (hK.2 t0 _ ht).1 n1 (fun j => .int (g j))
  obtain ⟨vm', X', step⟩ := X.arraycopy hexec hown hlink hnat hstat hini (src := a0) (dst := a) (cs := vp_cell (kA 0) (n0, .inl f)) (cd := vp_cell (kA 0) (n1, .inl g)) (srcPos := sp) (destPos := dp) (n := n) (by rw [hT]; exact hc0) (by rw [hT]; exact hc1)
    (fun _ h => by cases h) (fun _ h => by cases h) (fun h => by cases h) (fun h => by cases h) hk0 hk1 hkk0 hkk1 (by simp [refKind]) h1 h2 h3
    (by rw [nn sp h1, nn n h3]; show ¬ _ > ((arrV (kA 0) n0 (fun j => .int (f j))).slots.size : Int); rw [arrV_size]; omega)
    (by rw [nn dp h2, nn n h3]; show ¬ _ > ((arrV (kA 0) n1 (fun j => .int (g j))).slots.size : Int); rw [arrV_size]; omega)
    (fun vm₁ _ i hi => by
      have e : (vp_cell (kA 0) (n0, .inl f)).slots.getD (sp.toNatClampNeg + i) .null = .int (f (sp.toNatClampNeg + i)) := by
        show (arrV (kA 0) n0 (fun j => .int (f j))).slots.getD _ _ = _
        rw [Array.getD_eq_getD_getElem?, arrV_read _ _ (by omega)]
        rfl
      refine ⟨?_, ?_⟩
      · rw [e]
        rfl
      · rw [e]
        exact trivial)
    (g := F0 m pc ls (.int n :: .int dp :: .ref a :: .int sp :: .ref a0 :: rest)) rfl (by rw [hml]) (rest := rest) rfl (by rw [hb]; exact hdg) hframes (by show 2 * 0 + _ + _ ≤ _; omega)
  have e1 : copied (vp_cell (kA 0) (n0, .inl f)) (vp_cell (kA 0) (n1, .inl g)) sp dp n = vp_cell (kA 0) (n1, .inl (va_cpy f g sp.toNatClampNeg dp.toNatClampNeg n.toNatClampNeg)) := va_copied (fun z => .int z) (kA 0) (kA 0) f g h4
  rw [e1] at X' step
  generalize hfc : va_cpy f g sp.toNatClampNeg dp.toNatClampNeg n.toNatClampNeg = fc at *
  have hl : a < H.size := (Array.getElem?_eq_some_iff.mp hc1).1
  have hheap : ((T.setVm vm').setCell a (vp_cell (kA 0) (n1, .inl fc))).heap = H.setIfInBounds a (vp_cell (kA 0) (n1, .inl fc)) := by rw [← hT]; rfl
  have oq : ∀ q : Nat, q ≠ a → (H.setIfInBounds a (vp_cell (kA 0) (n1, .inl fc)))[q]? = H[q]? := fun q hq => by simp [Array.getElem?_setIfInBounds, Ne.symm hq]
  have hI1 := hI.up (k := 0) (x := .inl (0, n1, .inl fc)) (H1 := H.setIfInBounds a (vp_cell (kA 0) (n1, .inl fc))) ha1 (show (H.setIfInBounds a _)[a]? = some _ by simp [Array.getElem?_setIfInBounds, hl]) (by simp) oq
  obtain ⟨t, a1, b1⟩ := kk _ _ ⟨hI1.1, ⟨hI1.2.1.1, hI1.2.1.2.1, fun q hq => by
      rcases List.mem_append.mp hq with h9 | h9
      · exact hI.2.1.2.2 q h9
      · obtain ⟨z, -, hz⟩ := List.mem_map.mp h9
        rw [← hz]
        exact (hI.1.1 _ _ ha1).2⟩, hI.2.2⟩ _ hheap X'
  exact ⟨t, step t a1, b1⟩
theorem hm_vret_e {f0 h1 : hm_H} (he : some h1 = some h') (hexec : p.tables.exec = Jvm.exec) (hb : c.code = cc) (hr : meth.sig.returnType = none) (hlocks : meth.locks = false) (hK : va_K D cl tys s) (hI : hm_I D cl kA (hm_A f0) s.heap h1 H locs) (hc : cells ≤ mc) (hs : slots ≤ ms) (hdg : decode cc pc = .ok (.return_, 1)) :
    W p l e R s m args below meth c H locs cells slots (MQ below (hm_Q D cl kA tys f0 none h') args s mc ms (hm_A f0)) (F0 m pc ls []) := by
  cases he
  exact hm_vret hexec hb hr hlocks hK hI hc hs hdg
theorem hm_iret_e {f0 h1 : hm_H} {v w : Int32} (he : some (v, h1) = some (w, h')) (hexec : p.tables.exec = Jvm.exec) (hb : c.code = cc) (hr : meth.sig.returnType = some .int) (hlocks : meth.locks = false) (hK : va_K D cl tys s) (hI : hm_I D cl kA (hm_A f0) s.heap h1 H locs) (hc : cells ≤ mc) (hs : slots ≤ ms) (hdg : decode cc pc = .ok (.ireturn, 1)) :
    W p l e R s m args below meth c H locs cells slots (MQ below (hm_Q D cl kA tys f0 (some (.int w)) h') args s mc ms (hm_A f0)) (F0 m pc ls [.int v]) := by
  cases he
  exact hm_iret hexec hb hr hlocks hK hI hc hs hdg
theorem hm_zret_e {f0 h1 : hm_H} {v w : Int32} (he : some (v, h1) = some (w, h')) (hexec : p.tables.exec = Jvm.exec) (hb : c.code = cc) (hr : meth.sig.returnType = some .boolean) (hlocks : meth.locks = false) (hK : va_K D cl tys s) (hI : hm_I D cl kA (hm_A f0) s.heap h1 H locs) (hc : cells ≤ mc) (hs : slots ≤ ms) (hn : narrow .boolean (.int v) = .int v) (hdg : decode cc pc = .ok (.ireturn, 1)) :
    W p l e R s m args below meth c H locs cells slots (MQ below (hm_Q D cl kA tys f0 (some (.int w)) h') args s mc ms (hm_A f0)) (F0 m pc ls [.int v]) := by
  cases he
  exact hm_zret hexec hb hr hlocks hK hI hc hs hn hdg
theorem hm_lret_e {f0 h1 : hm_H} {v w : Int64} (he : some (v, h1) = some (w, h')) (hexec : p.tables.exec = Jvm.exec) (hb : c.code = cc) (hr : meth.sig.returnType = some .long) (hlocks : meth.locks = false) (hK : va_K D cl tys s) (hI : hm_I D cl kA (hm_A f0) s.heap h1 H locs) (hc : cells ≤ mc) (hs : slots ≤ ms) (hdg : decode cc pc = .ok (.lreturn, 1)) :
    W p l e R s m args below meth c H locs cells slots (MQ below (hm_Q D cl kA tys f0 (some (.long w)) h') args s mc ms (hm_A f0)) (F0 m pc ls [.long v]) := by
  cases he
  exact hm_lret hexec hb hr hlocks hK hI hc hs hdg
theorem hm_aret_e {f0 h1 : hm_H} {v w : Option Nat} {C : String} (he : some (v, h1) = some (w, h')) (hexec : p.tables.exec = Jvm.exec) (hb : c.code = cc) (hr : meth.sig.returnType = some (.object C)) (hlocks : meth.locks = false) (hK : va_K D cl tys s) (hI : hm_I D cl kA (hm_A f0) s.heap h1 H locs) (hc : cells ≤ mc) (hs : slots ≤ ms) (hdg : decode cc pc = .ok (.areturn, 1)) :
    W p l e R s m args below meth c H locs cells slots (MQ below (hm_Q D cl kA tys f0 (some (va_rf w)) h') args s mc ms (hm_A f0)) (F0 m pc ls [va_rf v]) := by
  cases he
  exact hm_aret hexec hb hr hlocks hK hI hc hs hdg
theorem hm_ti {x y : Int32} (he : y = x) (kk : W p l e R s m args below meth c H locs cells slots Q (F0 m pc ls (.int y :: rest))) : W p l e R s m args below meth c H locs cells slots Q (F0 m pc ls (.int x :: rest)) := by
  subst he
  exact kk
theorem hm_tj {x y : Int64} (he : y = x) (kk : W p l e R s m args below meth c H locs cells slots Q (F0 m pc ls (.long y :: rest))) : W p l e R s m args below meth c H locs cells slots Q (F0 m pc ls (.long x :: rest)) := by
  subst he
  exact kk
end HMC
theorem hm_nqo {C : String} {r : Option Nat} : narrow (.object C) (va_rf r) = va_rf r := by cases r <;> rfl
theorem hm_fqo {C : String} {r : Option Nat} : fits (.object C) (va_rf r) = true := by cases r <;> rfl
theorem hm_nqa {t : FieldType} {r : Option Nat} : narrow (.array t) (va_rf r) = va_rf r := by cases r <;> rfl
theorem hm_fqa {t : FieldType} {r : Option Nat} : fits (.array t) (va_rf r) = true := by cases r <;> rfl
theorem hm_neI {x y : Int32} (h : ¬ x = y) : x.toInt ≠ y.toInt := fun q => h (Int32.toInt_inj.mp q)
/-- a loop, by its fuel -/
def hm_loop {T : Type} (dead : T) (F : T → T) : Nat → T
  | 0 => dead
  | n + 1 => F (hm_loop dead F n)
theorem hm_loop_s {T : Type} (dead : T) (F : T → T) (n : Nat) : hm_loop dead F (n + 1) = F (hm_loop dead F n) := rfl
def hm_fu : Nat := 20000
