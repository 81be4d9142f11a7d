/-! THE CLAIM OUT OF ONE WALK OF THE LAW'S BODY. Your part is whole_start (and what it stands on); all else here is the same for every law, but numbers. -/
def R_law : String := "BlitBoardLaw"
def lw_P (b : Addr) (xs : List Int32) (args : Array Value) (s : State) : Prop := args = #[.ref b] ∧ s.IntsAt b xs ∧ xs.length ≤ 5632 ∧ (Jvm.Cond.and given_1 narrow_1).before args s = true
def lw_Q (_ : Array Value) (s : State) (o : Outcome) (t : State) : Prop := o = .returned (some (.int 1)) ∧ Framed s o t [] 600000 7302250
def lw_Z (below : List Frame) (a : Array Value) (s : State) : State → Prop := fun t => ∃ o, t.status = .running ∧ Ended t below o ∧ lw_Q a s o t
/-- the law's own end, with 1 on the stack, nothing written that was there before, its room as the claim has it -/
theorem lw_ret {p : Program} {l : Launch} {e : Env} {s : State} {m : MethodId} {below : List Frame} {meth : Method} {c : Code} {b : Nat} (hx : p.tables.exec = Jvm.exec) (hb : c.code = code) (hr : meth.sig.returnType = ret) (hlocks : meth.locks = false) {pc : Nat} {H : Heap} {ls : Array Slot} (hdg : decode code pc = .ok (.ireturn, 1)) : W p l e room_1 s m #[Value.ref b] below meth c H [] 600000 7302250 (lw_Z below #[Value.ref b] s) (F0 m pc ls [.int 1]) := by
  intro T hT X
  obtain ⟨fs, hret, hrun, hended, hW, hframe⟩ := X.leave (v := some (.int 1)) (hlocks := hlocks) (fun h => by rw [hr] at h; cases h)
  have hmeth' : T.vm.method? m = some meth := X.method'
  refine ⟨T.setFrames fs, ?_, .returned (some (.int 1)), hrun, hended, rfl, ⟨_, rfl⟩, hW, hframe⟩
  jvm_step X.here [X.here.top, hx, hb, hdg, hmeth', hr, ret, narrow_b1]
  (try refine ⟨rfl, ?_⟩); (try refine ⟨rfl, ?_⟩)
  first | (intro acts; rw [hret _ acts rfl rfl rfl]) | rw [hret _ _ rfl rfl rfl]
  exact Steps.refl _
/-- what holds at the law's entry: the machine, the code, the tables' words (any of lw_tbl by 'hts w (by decide +kernel)'), the script of L ints xs at the cell b, what the Statement gives of the start (any of its parts by flat_of_before) -/
def lw_At (p : Program) (s : State) (m : MethodId) (meth : Method) (c : Code) (b L : Nat) (xs : Nat → Int32) : Prop :=
  p.tables.exec = Jvm.exec ∧ c.code = code ∧ meth.sig.returnType = ret ∧ c.maxLocals = 4 ∧ s.vm.findClass R_law = some m.cls ∧ (∀ w ∈ lw_tbl, w.before #[Value.ref b] s = true) ∧ va_X b L xs s s.heap ∧ b < s.heap.size ∧ meth.locks = false ∧ (Jvm.Cond.and given_1 narrow_1).before #[Value.ref b] s = true
/-! calls over two maps side by side -/
theorem AG.grow {b m : Nat} {hc hm : hm_H} (h : AG b m hc hm) {x : Nat} (hx : hc.2 ≤ x) (y : Nat) : AG b m (hc.1, x) (hm.1, y) := by
  obtain ⟨n, S, C, P, D, K, Z, tk, G, Y, ms, dr, F, ⟨H1, H2, ⟨d1, d2, d3, d4, d5, d6⟩, H4⟩, M, R, hDR, hSR⟩ := h
  exact ⟨n, S, C, P, D, K, Z, tk, G, Y, ms, dr, F, ⟨H1, H2, ⟨fun i hi => ⟨(d1 i hi).1, Nat.le_trans (d1 i hi).2 hx⟩, d2, d3, d4, Nat.le_trans d5 hx, fun a ha => d6 a (Nat.le_trans hx ha)⟩, H4⟩, M, R, hDR, hSR⟩
theorem AO.two {b m : Nat} {fc fm : hm_H → Option (Int32 × hm_H)} (h : AO b m fc fm) {hc hm : hm_H} (g : AG b m hc hm) : ∃ r hc' hm', fc hc = some (r, hc') ∧ fm (hm.1, hc'.2) = some (r, hm') ∧ AG b m hc' hm' := by
  obtain ⟨r, hc', hm', e1, -, -⟩ := h hc hm g
  obtain ⟨r2, hc2, hm2, f1, f2, f3⟩ := h hc (hm.1, hc'.2) (g.grow (Nat.le_refl _) _)
  rw [e1] at f1
  cases f1
  exact ⟨r, hc', hm2, e1, f2, f3⟩
theorem AG.rc5 {b m : Nat} {hc hm : hm_H} (h : AG b m hc hm) : hm_rc 5 hc (some b) = some b := by
  obtain ⟨n, S, C, P, D, K, Z, tk, G, Y, ms, dr, F, H, M, R, hDR, hSR⟩ := h
  exact H.brc
theorem AG.rc6 {b m : Nat} {hc hm : hm_H} (h : AG b m hc hm) (y : Nat) : hm_rc 6 (hm.1, y) (some m) = some m := by
  obtain ⟨n, S, C, P, D, K, Z, tk, G, Y, ms, dr, F, H, M, R, hDR, hSR⟩ := h.grow (Nat.le_refl _) y
  exact M.rc
section LAW2
variable {p : Program} {l : Launch} {e : Env} {R : Room} {s : State} {m : MethodId} {args : Array Value} {below : List Frame} {meth : Method} {c : Code} {H : Heap} {locs : List Loc} {cells slots : Nat} {Q : State → Prop}
variable {cc : ByteArray} {pc : Nat} {ls : Array Slot} {rest : List Value} {D : va_G} {cl : List vw_C} {A : Nat → Prop} {tys : List (ClassId × FieldType)} {H0 : Heap} {kA : Nat → ClassId} {h h' g : hm_H}
variable {y : MethodName} {bytes : ByteArray} {maxL nL mc ms n index : Nat} {ret : Option FieldType} {ws : List Cond} {rm : Room} {Ts : List Cond} {own C : String} {b : Nat} {As : List Value} {rv : Option Value} {st0 : List Value}
/-- two maps that share no cell -/
def apart (h g : hm_H) : Prop := ∀ (a : Nat) (x y : hm_E), h.1 a = some x → g.1 a = some y → False
theorem hm_call2 {a : Array Value} (hr : va_Run p l e R s m args below meth c H locs cells slots mc ms (F0 m pc ls st0) rest (hm_Q D cl kA tys h rv h' a) (hm_A h)) (hI : hm_I D cl kA A H0 h H locs) (hG : hm_P D cl kA A g H) (ha : apart h g)
    (kk : ∀ (H1 : Heap) (locs1 : List Loc), h.2 ≤ h'.2 → hm_I D cl kA A H0 h' H1 locs1 → hm_P D cl kA A (g.1, h'.2) H1 → apart h' g → W p l e R s m args below meth c H1 locs1 (cells + mc) (slots + ms) Q (F0 m (pc + 3) ls (rv.toList ++ rest))) : W p l e R s m args below meth c H locs cells slots Q (F0 m pc ls st0) := by
  intro T hT X
  obtain ⟨v, st₀, t, T', L, h0, X', hL, e1, e2, ⟨hv, hB, hz, hk⟩, st⟩ := hr T hT X
  cases hv
  rw [h0] at hz hk
  have hAA : ∀ q, hm_A h q → A q := fun q hq => by
    rcases hq with ⟨x, hx⟩ | hq
    · exact (hI.1.1 q x hx).2
    · exact hI.2.2 q (Nat.le_trans hI.2.1.1 (by rw [hI.1.2]; exact hq))
  have gl : ∀ (q : Nat) (x : hm_E), g.1 q = some x → q < H.size ∧ ¬ hm_A h q := fun q x hq => by
    have h1 := (hG.1 q x hq).1.lt
    have h1 : q < H.size := h1
    refine ⟨h1, fun z => ?_⟩
    rcases z with ⟨x2, h2⟩ | z
    · exact ha q x2 x h2 hq
    · have := hI.1.2
      omega
  obtain ⟨t2, a1, b1⟩ := kk T'.heap (locs ++ L) (by rw [← hI.1.2, ← hB.1.2]; exact hz) ⟨⟨fun q x hq => by rw [e1]; exact ⟨(hB.1.1 q x hq).1, hAA q (hB.1.1 q x hq).2⟩, by rw [e1]; exact hB.1.2⟩,
    ⟨Nat.le_trans hI.2.1.1 (by rw [e1]; exact hz), fun q h1 h2 => by rw [e1, hk q (Nat.lt_of_lt_of_le h1 hI.2.1.1) (fun z => h2 (hAA q z))]; exact hI.2.1.2.1 q h1 h2, fun q hq => by
      rcases List.mem_append.mp hq with h9 | h9
      · exact hI.2.1.2.2 q h9
      · exact hAA _ (hL q h9)⟩, hI.2.2⟩
    ⟨fun q x hq => ⟨(hG.1 q x hq).1.kept (by rw [e1]; exact hk q (gl q x hq).1 (gl q x hq).2), (hG.1 q x hq).2⟩, by rw [e1]; exact hB.1.2⟩
    (fun q x z h1 h2 => (gl q z h2).2 (hB.1.1 q x h1).2) T' rfl X'
  exact ⟨t2, st t2 a1, b1⟩
theorem hm_cV2 (S : CallFix p m c cc nL s args Ts own) (hK : va_K D cl tys s) (hI : hm_I D cl kA A H0 h H locs) (hG : hm_P D cl kA A g H) (ha : apart h g) {r : Option Nat} {ci : Nat} {w : vw_C} (hb : hm_rc ci h r = some b) (hc : cl[ci]? = some w) (hw : w.1 = C) (hM : hm_C l y ws rm D cl kA tys (.ref b :: As) h rv h' mc ms) (cw : CallW R s args own C index y bytes maxL ret ws rm mc ms n)
    (hn : As.length = n) (hsize : ls.size = nL) (hstack : st0 = As.reverse ++ va_rf r :: rest) (hW : (rest.map fun v => v.category).sum ≤ 8) (hdg : decode cc pc = .ok (.invokevirtual index, 3)) (hf : cells + mc ≤ R.cells ∧ slots + ms ≤ R.slots)
    (kk : ∀ (H1 : Heap) (locs1 : List Loc), h.2 ≤ h'.2 → hm_I D cl kA A H0 h' H1 locs1 → hm_P D cl kA A (g.1, h'.2) H1 → apart h' g → W p l e R s m args below meth c H1 locs1 (cells + mc) (slots + ms) Q (F0 m (pc + 3) ls (rv.toList ++ rest))) : W p l e R s m args below meth c H locs cells slots Q (F0 m pc ls st0) := by
  obtain ⟨rfl, fs, hx⟩ := hm_rc_s hb
  subst hw
  obtain ⟨w', hw', cell, g1, g2, g3, -⟩ := (hI.1.1 _ _ hx).1
  refine hm_call2 (va_runV S hM cw ⟨hm_blind, ⟨cell, g1, by rw [g3]; rfl, by rw [g2]; exact (hK.1 ci _ hc).2.1⟩, hm_pre hK hI⟩ rfl hn hsize hstack (lv_room hW) hdg hf) hI hG ha kk
/-- the second map is the one that is called: the two change places -/
theorem hm_I.other {h g : hm_H} (hI : hm_I D cl kA A H0 h H locs) (hG : hm_P D cl kA A g H) : hm_I D cl kA A H0 g H locs := ⟨hG, hI.2⟩
theorem apart.sym {h g : hm_H} (ha : apart h g) : apart g h := fun a x y h1 h2 => ha a y x h2 h1
/-- an int of the script -/
theorem sc_c {i j b L : Nat} {xs : Nat → Int32} {n0 : Int} (hx : p.tables.exec = Jvm.exec) (hb : c.code = cc) (hX : va_X b L xs s H0) (hbl : b < H0.size) (hbA : ¬ A b) (hS : va_S A H0 H locs) (l0 : ls[0]? = some (.val (.ref b))) (l3 : ls[3]? = some (.val (.int (nI i)))) (hj : i + j < L) (hL : L ≤ 5632)
    (d1 : decode cc pc = .ok (.aload_n 0, 1)) (d2 : decode cc (pc + 1) = .ok (.iload_n 3, 1)) (d3 : decode cc (pc + 1 + 1) = .ok (.iconst n0, 1)) (hv : Int32.ofInt n0 = nI j) (d4 : decode cc (pc + 1 + 1 + 1) = .ok (.iadd, 1)) (d5 : decode cc (pc + 1 + 1 + 1 + 1) = .ok (.iaload, 1))
    (kk : W p l e R s m args below meth c H locs cells slots Q (F0 m (pc + 1 + 1 + 1 + 1 + 1) ls (.int (xs (i + j)) :: rest))) : W p l e R s m args below meth c H locs cells slots Q (F0 m pc ls rest) := by
  refine lv_aload_n hx hb d1 rfl l0 ?_
  refine lv_iload_n hx hb d2 rfl l3 ?_
  refine lv_iconst hx hb d3 hv ?_
  refine lv_iadd hx hb d4 ?_
  rw [nI_add]
  refine va_sld hx hb hX hbl hbA hS (vp_in_nI hj (by omega)) d5 ?_
  rw [nI_clamp (show i + j < 2 ^ 31 by omega)]
  exact kk
theorem sc_b {i j b L : Nat} {xs : Nat → Int32} {n0 : Int} (hx : p.tables.exec = Jvm.exec) (hb : c.code = cc) (hX : va_X b L xs s H0) (hbl : b < H0.size) (hbA : ¬ A b) (hS : va_S A H0 H locs) (l0 : ls[0]? = some (.val (.ref b))) (l3 : ls[3]? = some (.val (.int (nI i)))) (hj : i + j < L) (hL : L ≤ 5632)
    (d1 : decode cc pc = .ok (.aload_n 0, 1)) (d2 : decode cc (pc + 1) = .ok (.iload_n 3, 1)) (d3 : decode cc (pc + 1 + 1) = .ok (.bipush n0, 2)) (hv : (Int8.ofInt n0).toInt32 = nI j) (d4 : decode cc (pc + 1 + 1 + 2) = .ok (.iadd, 1)) (d5 : decode cc (pc + 1 + 1 + 2 + 1) = .ok (.iaload, 1))
    (kk : W p l e R s m args below meth c H locs cells slots Q (F0 m (pc + 1 + 1 + 2 + 1 + 1) ls (.int (xs (i + j)) :: rest))) : W p l e R s m args below meth c H locs cells slots Q (F0 m pc ls rest) := by
  refine lv_aload_n hx hb d1 rfl l0 ?_
  refine lv_iload_n hx hb d2 rfl l3 ?_
  refine lv_bipush hx hb d3 hv ?_
  refine lv_iadd hx hb d4 ?_
  rw [nI_add]
  refine va_sld hx hb hX hbl hbA hS (vp_in_nI hj (by omega)) d5 ?_
  rw [nI_clamp (show i + j < 2 ^ 31 by omega)]
  exact kk
end LAW2
/-- the law's two maps, at its loop's head -/
def LWS (D : va_G) (kA : Nat → ClassId) (s : State) (bd md : Nat) (hc hm : hm_H) (H : Heap) (locs : List Loc) : Prop :=
  hm_I D vwCl kA (fun q : Nat => s.heap.size ≤ q) s.heap hc H locs ∧ hm_P D vwCl kA (fun q : Nat => s.heap.size ≤ q) hm H ∧ apart hc hm ∧ AG bd md hc hm
