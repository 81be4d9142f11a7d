/-! THE MACHINE'S ROWS OVER MAPS -/
theorem hm_g_s {ci k : Nat} {h : hm_H} {r : Option Nat} {v : Value} (hg : hm_g ci k h r = some v) : ∃ (a : Nat) (fs : List Value), r = some a ∧ h.1 a = some (.inr (ci, fs)) ∧ fs[k]? = some v := by
  cases r with
  | none => cases hg
  | some a =>
    simp only [hm_g] at hg
    split at hg
    · rename_i o ho
      split at hg
      · rename_i hc
        obtain ⟨c1, fs⟩ := o
        dsimp only at hc hg
        subst hc
        exact ⟨a, fs, rfl, ho, hg⟩
      · cases hg
    · cases hg
theorem hm_gi_s {ci k : Nat} {h : hm_H} {r : Option Nat} {x : Int32} (hg : hm_gi ci k h r = some x) : hm_g ci k h r = some (.int x) := by
  unfold hm_gi at hg
  split at hg
  · rename_i y hy
    cases hg
    exact hy
  · cases hg
theorem hm_gl_s {ci k : Nat} {h : hm_H} {r : Option Nat} {x : Int64} (hg : hm_gl ci k h r = some x) : hm_g ci k h r = some (.long x) := by
  unfold hm_gl at hg
  split at hg
  · rename_i y hy
    cases hg
    exact hy
  · cases hg
theorem hm_gq_s {ci k : Nat} {h : hm_H} {r : Option Nat} {x : Option Nat} (hg : hm_gq ci k h r = some x) : hm_g ci k h r = some (va_rf x) := by
  unfold hm_gq at hg
  split at hg
  · rename_i y hy
    cases hg
    exact hy
  · rename_i hy
    cases hg
    exact hy
  · cases hg
theorem hm_p_s {ci k : Nat} {v : Value} {h h' : hm_H} {r : Option Nat} (hg : hm_p ci k v h r = some h') : ∃ (a : Nat) (fs : List Value), r = some a ∧ h.1 a = some (.inr (ci, fs)) ∧ k < fs.length ∧ h' = (va_up h.1 a (some (.inr (ci, fs.set k v))), h.2) := by
  cases r with
  | none => cases hg
  | some a =>
    simp only [hm_p] at hg
    split at hg
    · rename_i o ho
      split at hg
      · rename_i hc
        obtain ⟨c1, fs⟩ := o
        dsimp only at hc hg
        obtain ⟨hc, hl⟩ := hc
        subst hc
        cases hg
        exact ⟨a, fs, rfl, ho, hl, rfl⟩
      · cases hg
    · cases hg
theorem hm_rc_s {ci : Nat} {h : hm_H} {r : Option Nat} {a : Nat} (hg : hm_rc ci h r = some a) : r = some a ∧ ∃ fs : List Value, h.1 a = some (.inr (ci, fs)) := by
  cases r with
  | none => cases hg
  | some b =>
    simp only [hm_rc] at hg
    split at hg
    · rename_i o ho
      split at hg
      · rename_i hc
        obtain ⟨c1, fs⟩ := o
        dsimp only at hc hg
        subst hc
        cases hg
        exact ⟨rfl, fs, ho⟩
      · cases hg
    · cases hg
theorem hm_ai_s {kd : Nat} {h : hm_H} {r : Option Nat} {i x : Int32} (hg : hm_ai kd h r i = some x) : ∃ (a n : Nat) (f : Nat → Int32), r = some a ∧ h.1 a = some (.inl (kd, n, .inl f)) ∧ vp_in i n ∧ f i.toNatClampNeg = x := by
  cases r with
  | none => cases hg
  | some b =>
    simp only [hm_ai] at hg
    split at hg
    · rename_i kd' n f ho
      split at hg
      · rename_i hc
        obtain ⟨hc, hi⟩ := hc
        subst hc
        cases hg
        exact ⟨b, n, f, rfl, ho, hi, rfl⟩
      · cases hg
    · cases hg
theorem hm_si_s {kd : Nat} {h h' : hm_H} {r : Option Nat} {i x : Int32} (hg : hm_si kd h r i x = some h') : ∃ (a n : Nat) (f : Nat → Int32), r = some a ∧ h.1 a = some (.inl (kd, n, .inl f)) ∧ vp_in i n ∧ h' = (va_up h.1 a (some (.inl (kd, n, .inl (upd f i.toNatClampNeg x)))), h.2) := by
  cases r with
  | none => cases hg
  | some b =>
    simp only [hm_si] at hg
    split at hg
    · rename_i kd' n f ho
      split at hg
      · rename_i hc
        obtain ⟨hc, hi⟩ := hc
        subst hc
        cases hg
        exact ⟨b, n, f, rfl, ho, hi, rfl⟩
      · cases hg
    · cases hg
theorem hm_aq_s {kd : Nat} {h : hm_H} {r x : Option Nat} {i : Int32} (hg : hm_aq kd h r i = some x) : ∃ (a n : Nat) (f : Nat → Option Nat), r = some a ∧ h.1 a = some (.inl (kd, n, .inr (.inr (.inr (.inr f))))) ∧ vp_in i n ∧ f i.toNatClampNeg = x := by
  cases r with
  | none => cases hg
  | some b =>
    simp only [hm_aq] at hg
    split at hg
    · rename_i kd' n f ho
      split at hg
      · rename_i hc
        obtain ⟨hc, hi⟩ := hc
        subst hc
        cases hg
        exact ⟨b, n, f, rfl, ho, hi, rfl⟩
      · cases hg
    · cases hg
theorem hm_sq_s {kd ci : Nat} {h h' : hm_H} {r x : Option Nat} {i : Int32} (hg : hm_sq kd ci h r i x = some h') : ∃ (a n v : Nat) (f : Nat → Option Nat) (vs : List Value), r = some a ∧ x = some v ∧ h.1 v = some (.inr (ci, vs)) ∧ h.1 a = some (.inl (kd, n, .inr (.inr (.inr (.inr f))))) ∧ vp_in i n ∧ h' = (va_up h.1 a (some (.inl (kd, n, .inr (.inr (.inr (.inr (va_up f i.toNatClampNeg (some v)))))))), h.2) := by
  cases r with
  | none => cases hg
  | some b =>
    simp only [hm_sq] at hg
    split at hg
    · cases hg
    · rename_i v hv
      obtain ⟨hx, vs, hv⟩ := hm_rc_s hv
      split at hg
      · rename_i kd' n f ho
        split at hg
        · rename_i hc
          obtain ⟨hc, hi⟩ := hc
          subst hc
          cases hg
          exact ⟨b, n, v, f, vs, rfl, hx, hv, ho, hi, rfl⟩
        · cases hg
      · cases hg
theorem hm_al_s {kd : Nat} {h : hm_H} {r : Option Nat} {x : Int32} (hg : hm_al kd h r = some x) : ∃ (a : Nat) (v : vp_A), r = some a ∧ h.1 a = some (.inl (kd, v)) ∧ Int32.ofNat v.1 = x := by
  cases r with
  | none => cases hg
  | some b =>
    simp only [hm_al] at hg
    split at hg
    · rename_i kd' v ho
      split at hg
      · rename_i hc
        subst hc
        cases hg
        exact ⟨b, v, rfl, ho, rfl⟩
      · cases hg
    · cases hg
theorem hm_cp_s {h h' : hm_H} {r r2 : Option Nat} {sp dp n : Int32} (hg : hm_cp h r sp r2 dp n = some h') : ∃ (a b n0 n1 : Nat) (f g : Nat → Int32), r = some a ∧ r2 = some b ∧ h.1 a = some (.inl (0, n0, .inl f)) ∧ h.1 b = some (.inl (0, n1, .inl g)) ∧ (¬ sp < 0 ∧ ¬ dp < 0 ∧ ¬ n < 0) ∧ sp.toNatClampNeg + n.toNatClampNeg ≤ n0 ∧ dp.toNatClampNeg + n.toNatClampNeg ≤ n1 ∧ h' = (va_up h.1 b (some (.inl (0, n1, .inl (va_cpy f g sp.toNatClampNeg dp.toNatClampNeg n.toNatClampNeg)))), h.2) := by
  unfold hm_cp at hg
  split at hg
  · rename_i a b
    split at hg
    · rename_i kd n0 f kd' n1 g ha hb
      split at hg
      · rename_i hc
        obtain ⟨⟨h1, h2⟩, h3, h4, h5⟩ := hc
        subst h1
        subst h2
        cases hg
        exact ⟨a, b, n0, n1, f, g, rfl, rfl, ha, hb, h3, h4, h5, rfl⟩
      · cases hg
    · cases hg
  · cases hg
section HMW
variable {p : Program} {l : Launch} {e : Env} {R : Room} {s : State} {m : MethodId} {args : Array Value} {below : List Frame} {meth : Method} {c : Code} {H : Heap} {locs : List Loc} {cells slots : Nat} {Q : State → Prop}
variable {cc : ByteArray} {pc : Nat} {ls : Array Slot} {rest : List Value} {D : va_G} {cl : List vw_C} {A : Nat → Prop} {tys : List (ClassId × FieldType)} {H0 : Heap} {kA : Nat → ClassId} {h : hm_H}
theorem hm_aload_n (hexec : p.tables.exec = Jvm.exec) (hb : c.code = cc) {k : Fin 4} {i : Nat} {r : Option Nat} (hdg : decode cc pc = .ok (.aload_n k, 1)) (hi : (k : Nat) = i) (hl : ls[i]? = some (.val (va_rf r)))
    (kk : W p l e R s m args below meth c H locs cells slots Q (F0 m (pc + 1) ls (va_rf r :: rest))) : W p l e R s m args below meth c H locs cells slots Q (F0 m pc ls rest) := by
  cases r with
  | none => exact lv_aload_nN hexec hb hdg hi hl kk
  | some x => exact lv_aload_n hexec hb hdg hi hl kk
theorem hm_aload (hexec : p.tables.exec = Jvm.exec) (hb : c.code = cc) {i : Nat} {r : Option Nat} (hdg : decode cc pc = .ok (.aload i, 2)) (hl : ls[i]? = some (.val (va_rf r)))
    (kk : W p l e R s m args below meth c H locs cells slots Q (F0 m (pc + 2) ls (va_rf r :: rest))) : W p l e R s m args below meth c H locs cells slots Q (F0 m pc ls rest) := by
  cases r with
  | none => exact lv_aloadN hexec hb hdg hl kk
  | some x => exact lv_aload hexec hb hdg hl kk
theorem hm_astore_n (hexec : p.tables.exec = Jvm.exec) (hb : c.code = cc) {k : Fin 4} {i nL : Nat} {r : Option Nat} {lv lv' : List (Nat × Value)} (hdg : decode cc pc = .ok (.astore_n k, 1)) (hi : (k : Nat) = i) (hh : lv_has ls nL lv) (hn : i < nL) (hl : (i, va_rf r) :: lv.filter (fun q => !(q.1 == i) && !(q.1 + 1 == i && q.2.category == 2)) = lv')
    (kk : ∀ ls' : Array Slot, lv_has ls' nL lv' → W p l e R s m args below meth c H locs cells slots Q (F0 m (pc + 1) ls' rest)) : W p l e R s m args below meth c H locs cells slots Q (F0 m pc ls (va_rf r :: rest)) := by
  cases r with
  | none => exact lv_astore_nN hexec hb hdg hi hh hn hl kk
  | some x => exact lv_astore_n hexec hb hdg hi hh hn hl kk
theorem hm_astore (hexec : p.tables.exec = Jvm.exec) (hb : c.code = cc) {i nL : Nat} {r : Option Nat} {lv lv' : List (Nat × Value)} (hdg : decode cc pc = .ok (.astore i, 2)) (hh : lv_has ls nL lv) (hn : i < nL) (hl : (i, va_rf r) :: lv.filter (fun q => !(q.1 == i) && !(q.1 + 1 == i && q.2.category == 2)) = lv')
    (kk : ∀ ls' : Array Slot, lv_has ls' nL lv' → W p l e R s m args below meth c H locs cells slots Q (F0 m (pc + 2) ls' rest)) : W p l e R s m args below meth c H locs cells slots Q (F0 m pc ls (va_rf r :: rest)) := by
  cases r with
  | none => exact lv_astoreN hexec hb hdg hh hn hl kk
  | some x => exact lv_astore hexec hb hdg hh hn hl kk
theorem hm_rf_cat (r : Option Nat) : (va_rf r).category = 1 := by cases r <;> rfl
theorem hm_ifnull (hexec : p.tables.exec = Jvm.exec) (hb : c.code = cc) {r : Option Nat} {off : Int} {tgt : Nat} (hdg : decode cc pc = .ok (.ifnull off, 3)) (ht : (pc : Int) + off = (tgt : Int))
    (kt : r = none → W p l e R s m args below meth c H locs cells slots Q (F0 m tgt ls rest)) (kf : ¬ r = none → W p l e R s m args below meth c H locs cells slots Q (F0 m (pc + 3) ls rest)) : W p l e R s m args below meth c H locs cells slots Q (F0 m pc ls (va_rf r :: rest)) := by
  cases r with
  | none => exact lv_ifnullN hexec hb hdg ht (kt rfl)
  | some x => exact lv_ifnull hexec hb hdg (kf (by simp))
theorem hm_ifnonnull (hexec : p.tables.exec = Jvm.exec) (hb : c.code = cc) {r : Option Nat} {off : Int} {tgt : Nat} (hdg : decode cc pc = .ok (.ifnonnull off, 3)) (ht : (pc : Int) + off = (tgt : Int))
    (kt : ¬ r = none → W p l e R s m args below meth c H locs cells slots Q (F0 m tgt ls rest)) (kf : r = none → W p l e R s m args below meth c H locs cells slots Q (F0 m (pc + 3) ls rest)) : W p l e R s m args below meth c H locs cells slots Q (F0 m pc ls (va_rf r :: rest)) := by
  cases r with
  | none => exact lv_ifnonnullN hexec hb hdg (kf rfl)
  | some x => exact lv_ifnonnull hexec hb hdg ht (kt (by simp))
theorem hm_one {D : va_G} {cl : List vw_C} {kA : Nat → ClassId} {A : Nat → Prop} {H0 H : Heap} {h : hm_H} {locs : List Loc} {a : Nat} {x : hm_E} (hI : hm_I D cl kA A H0 h H locs) (ha : h.1 a = some x) : va_P D cl [(a, hm_tr kA x)] H := by
  intro k q hk
  have hz : k < 1 := (List.getElem?_eq_some_iff.mp hk).1
  rw [show k = 0 by omega] at hk
  cases hk
  exact (hI.1.1 a x ha).1
theorem hm_get (hexec : p.tables.exec = Jvm.exec) (hb : c.code = cc) {own C : String} {T : u_T} {N ci index k : Nat} {Ts : List Cond} (hts : ∀ w ∈ Ts, w.before args s = true) (hin : ∀ w ∈ u_ws C T N, w ∈ Ts) (hown : s.vm.findClass own = some m.cls) (hK : va_K D cl tys s) (hI : hm_I D cl kA A H0 h H locs) (hc : cl[ci]? = some (C, T, N)) (hk : k < N) (hlink : (Cond.fieldLink own index (T k).1 (T k).2.1 (T k).2.2.1).before args s = true) {r : Option Nat} {v : Value} (hg : hm_g ci k h r = some v) (hdg : decode cc pc = .ok (.getfield index, 3))
    (kk : W p l e R s m args below meth c H locs cells slots Q (F0 m (pc + 3) ls (v :: rest))) : W p l e R s m args below meth c H locs cells slots Q (F0 m pc ls (va_rf r :: rest)) := by
  obtain ⟨a, fs, rfl, h1, h2⟩ := hm_g_s hg
  exact va_get hexec hb hts hin hown hK (hm_one hI h1) 0 rfl hc k hk hlink (fun _ h9 => h9) h2 hdg kk
theorem hm_put (hexec : p.tables.exec = Jvm.exec) (hb : c.code = cc) {own C : String} {T : u_T} {N ci index k : Nat} {Ts : List Cond} (hts : ∀ w ∈ Ts, w.before args s = true) (hin : ∀ w ∈ u_ws C T N, w ∈ Ts) (ty0 : Nat → FieldType) (hty : ∀ k, k < N → parseFieldDescriptor (T k).2.2.1 = some (ty0 k)) (hnm : ∀ a, a < N → ∀ b, b < N → a ≠ b → (T a).2.1 ≠ (T b).2.1) (hown : s.vm.findClass own = some m.cls) (hK : va_K D cl tys s) (hI : hm_I D cl kA A H0 h H locs) (hc : cl[ci]? = some (C, T, N)) (hk : k < N) (hlink : (Cond.fieldLink own index (T k).1 (T k).2.1 (T k).2.2.1).before args s = true) (hfin : (T k).2.2.2 = false) {r : Option Nat} {v : Value} {h' : hm_H} (hg : hm_p ci k v h r = some h') (hn : narrow (ty0 k) v = v) (hfit : fits (ty0 k) v = true) (hdg : decode cc pc = .ok (.putfield index, 3))
    (kk : ∀ (H1 : Heap) (locs1 : List Loc), hm_I D cl kA A H0 h' H1 locs1 → W p l e R s m args below meth c H1 locs1 cells slots Q (F0 m (pc + 3) ls rest)) : W p l e R s m args below meth c H locs cells slots Q (F0 m pc ls (v :: va_rf r :: rest)) := by
  obtain ⟨a, fs, rfl, ha, hl, rfl⟩ := hm_p_s hg
  have hap := va_apart (own := own) hts hin ty0 hty hnm hK hc
  obtain ⟨w, h1, cell, q1, q2, q3, q4⟩ := (hI.1.1 _ _ ha).1
  have hr : w = (C, T, N) := Option.some.inj (h1.symm.trans hc)
  subst hr
  obtain ⟨hS, hfc, kC, hkC, hkind⟩ := hK.1 ci _ hc
  obtain ⟨cf, kf, fi, f, hi, hsl⟩ := hS k hk
  have hlay := hts _ (hin _ (u_in_lay hk))
  unfold u_lay at hlay
  rw [if_neg (by rw [hfin]; decide)] at hlay
  have hst := (u_facts hfc hkC (u_lays hts hin hk) hi).1
  have h6 := u_store hfc hkC hkind hlay hi (hty k hk) hn hfit
  refine W.putK hexec hb (f := f) ⟨hown, hlink, ⟨_, _, _, hi⟩, hst⟩ (by rw [q2]; exact h6) q1 q3 (by rw [hsl]; exact k2_hasslot (q4 k hk)) rfl rfl hdg fun H' e1 e2 e3 => ?_
  rw [hsl] at e1 ⊢
  exact kk H' _ (hI.up ha ⟨_, hc, t_OB.to (V := updV (vp_V fs) k v) ⟨_, e1, q2, q3, t_set q4 hap hk v⟩ (fun j _ => vp_updV_set hl v j)⟩ e2 e3)
theorem hm_putF (hexec : p.tables.exec = Jvm.exec) (hb : c.code = cc) {own C : String} {T : u_T} {N ci index k : Nat} {Ts : List Cond} (hts : ∀ w ∈ Ts, w.before args s = true) (hin : ∀ w ∈ u_ws C T N, w ∈ Ts) (ty0 : Nat → FieldType) (hty : ∀ k, k < N → parseFieldDescriptor (T k).2.2.1 = some (ty0 k)) (hnm : ∀ a, a < N → ∀ b, b < N → a ≠ b → (T a).2.1 ≠ (T b).2.1) (hown : s.vm.findClass own = some m.cls) (hK : va_K D cl tys s) (hI : hm_I D cl kA A H0 h H locs) (hc : cl[ci]? = some (C, T, N)) (hk : k < N) (hlink : (Cond.fieldLink own index (T k).1 (T k).2.1 (T k).2.2.1).before args s = true) (hfin : (T k).2.2.2 = true) (hin2 : meth.name = "<init>") (hdecl : (T k).1 = own) {r : Option Nat} {v : Value} {h' : hm_H} (hg : hm_p ci k v h r = some h') (hn : narrow (ty0 k) v = v) (hfit : fits (ty0 k) v = true) (hdg : decode cc pc = .ok (.putfield index, 3))
    (kk : ∀ (H1 : Heap) (locs1 : List Loc), hm_I D cl kA A H0 h' H1 locs1 → W p l e R s m args below meth c H1 locs1 cells slots Q (F0 m (pc + 3) ls rest)) : W p l e R s m args below meth c H locs cells slots Q (F0 m pc ls (v :: va_rf r :: rest)) := by
  obtain ⟨a, fs, rfl, ha, hl, rfl⟩ := hm_p_s hg
  have hap := va_apart (own := own) hts hin ty0 hty hnm hK hc
  obtain ⟨w, h1, cell, q1, q2, q3, q4⟩ := (hI.1.1 _ _ ha).1
  have hr : w = (C, T, N) := Option.some.inj (h1.symm.trans hc)
  subst hr
  obtain ⟨hS, hfc, kC, hkC, hkind⟩ := hK.1 ci _ hc
  obtain ⟨cf, kf, fi, f, hi, hsl⟩ := hS k hk
  have hlay := hts _ (hin _ (u_in_lay hk))
  unfold u_lay at hlay
  rw [if_pos hfin] at hlay
  have hst := (u_facts hfc hkC (u_lays hts hin hk) hi).1
  have hcf : m.cls = cf := by
    obtain ⟨_, _, c', _, _, _, -, -, hf', -, -, -, hown2, -⟩ := Cond.laysFinal_spec hlay
    have e1 : c' = cf := by have := hi.symm.trans hf'; simp at this; exact this.1.symm
    rw [hdecl] at hown2
    rw [← e1]; exact Option.some.inj (hown.symm.trans hown2)
  have h6 := u_fits hfc hkC hkind (Or.inr hlay) hi (hty k hk) hn hfit
  refine W.putFinK hexec hb hown hlink hi hst hcf hin2 (by rw [q2]; exact h6) q1 q3 (by rw [hsl]; exact k2_hasslot (q4 k hk)) rfl rfl hdg fun H' e1 e2 e3 => ?_
  rw [hsl] at e1 ⊢
  exact kk H' _ (hI.up ha ⟨_, hc, t_OB.to (V := updV (vp_V fs) k v) ⟨_, e1, q2, q3, t_set q4 hap hk v⟩ (fun j _ => vp_updV_set hl v j)⟩ e2 e3)
theorem hm_iald (hexec : p.tables.exec = Jvm.exec) (hb : c.code = cc) (hK : va_K D cl tys s) (hI : hm_I D cl kA A H0 h H locs) {kd t0 : Nat} (ht : tys[t0]? = some (kA kd, .int)) {r : Option Nat} {i x : Int32} (hg : hm_ai kd h r i = some x) (hdg : decode cc pc = .ok (.iaload, 1))
    (kk : W p l e R s m args below meth c H locs cells slots Q (F0 m (pc + 1) ls (.int x :: rest))) : W p l e R s m args below meth c H locs cells slots Q (F0 m pc ls (.int i :: va_rf r :: rest)) := by
  obtain ⟨a, n, f, rfl, ha, hi, rfl⟩ := hm_ai_s hg
  exact va_iald hexec hb hK (hm_one hI ha) 0 t0 rfl ht hi hdg kk
theorem hm_zald (hexec : p.tables.exec = Jvm.exec) (hb : c.code = cc) (hK : va_K D cl tys s) (hI : hm_I D cl kA A H0 h H locs) {kd t0 : Nat} (ht : tys[t0]? = some (kA kd, .boolean)) {r : Option Nat} {i x : Int32} (hg : hm_ai kd h r i = some x) (hdg : decode cc pc = .ok (.baload, 1))
    (kk : W p l e R s m args below meth c H locs cells slots Q (F0 m (pc + 1) ls (.int x :: rest))) : W p l e R s m args below meth c H locs cells slots Q (F0 m pc ls (.int i :: va_rf r :: rest)) := by
  obtain ⟨a, n, f, rfl, ha, hi, rfl⟩ := hm_ai_s hg
  exact va_zald hexec hb hK (hm_one hI ha) 0 t0 rfl ht hi hdg kk
theorem hm_aald (hexec : p.tables.exec = Jvm.exec) (hb : c.code = cc) (hK : va_K D cl tys s) (hI : hm_I D cl kA A H0 h H locs) {kd t0 : Nat} {C : String} (ht : tys[t0]? = some (kA kd, .object C)) {r x : Option Nat} {i : Int32} (hg : hm_aq kd h r i = some x) (hdg : decode cc pc = .ok (.aaload, 1))
    (kk : W p l e R s m args below meth c H locs cells slots Q (F0 m (pc + 1) ls (va_rf x :: rest))) : W p l e R s m args below meth c H locs cells slots Q (F0 m pc ls (.int i :: va_rf r :: rest)) := by
  obtain ⟨a, n, f, rfl, ha, hi, rfl⟩ := hm_aq_s hg
  exact va_aldq hexec hb hK (hm_one hI ha) 0 t0 rfl ht hi hdg kk
theorem hm_alen (hexec : p.tables.exec = Jvm.exec) (hb : c.code = cc) (hK : va_K D cl tys s) (hI : hm_I D cl kA A H0 h H locs) {kd t0 : Nat} {ty : FieldType} (ht : tys[t0]? = some (kA kd, ty)) {r : Option Nat} {x : Int32} (hg : hm_al kd h r = some x) (hdg : decode cc pc = .ok (.arraylength, 1))
    (kk : W p l e R s m args below meth c H locs cells slots Q (F0 m (pc + 1) ls (.int x :: rest))) : W p l e R s m args below meth c H locs cells slots Q (F0 m pc ls (va_rf r :: rest)) := by
  obtain ⟨a, v, rfl, ha, hx⟩ := hm_al_s hg
  exact va_alen hexec hb hK (hm_one hI ha) 0 t0 rfl ht hx hdg kk
theorem hm_iast (hexec : p.tables.exec = Jvm.exec) (hb : c.code = cc) (hK : va_K D cl tys s) (hI : hm_I D cl kA A H0 h H locs) {kd t0 : Nat} (ht : tys[t0]? = some (kA kd, .int)) {r : Option Nat} {i x : Int32} {h' : hm_H} (hg : hm_si kd h r i x = some h') (hdg : decode cc pc = .ok (.iastore, 1))
    (kk : ∀ (H1 : Heap) (locs1 : List Loc), hm_I D cl kA A H0 h' H1 locs1 → W p l e R s m args below meth c H1 locs1 cells slots Q (F0 m (pc + 1) ls rest)) : W p l e R s m args below meth c H locs cells slots Q (F0 m pc ls (.int x :: .int i :: va_rf r :: rest)) := by
  obtain ⟨a, n, f, rfl, ha, hi, rfl⟩ := hm_si_s hg
  have hc : H[a]? = some (vp_cell (kA kd) (n, .inl f)) := (hI.1.1 _ _ ha).1
  refine W.iast hexec hb hc ((hK.2 t0 _ ht).1 n (fun j => .int (f j))) (fun q => by cases q) (by show ¬ (i < 0 ∨ (arrV _ _ _).slots.size ≤ _); rw [arrV_size]; exact hi) rfl rfl hdg fun H1 e1 z oq => ?_
  refine kk H1 _ (hI.up ha ?_ z oq)
  show H1[a]? = some (vp_cell _ _)
  rw [e1, vp_cell_i, vp_cell_i, arrV_store]
  congr 2
  funext q
  by_cases hq : q = i.toNatClampNeg
  · subst hq
    simp [updV, upd]
  · simp [updV, upd, hq]
theorem hm_zast (hexec : p.tables.exec = Jvm.exec) (hb : c.code = cc) (hK : va_K D cl tys s) (hI : hm_I D cl kA A H0 h H locs) {kd t0 : Nat} (ht : tys[t0]? = some (kA kd, .boolean)) {r : Option Nat} {i x : Int32} {h' : hm_H} (hg : hm_si kd h r i (vp_nar .boolean x) = some h') (hdg : decode cc pc = .ok (.bastore, 1))
    (kk : ∀ (H1 : Heap) (locs1 : List Loc), hm_I D cl kA A H0 h' H1 locs1 → W p l e R s m args below meth c H1 locs1 cells slots Q (F0 m (pc + 1) ls rest)) : W p l e R s m args below meth c H locs cells slots Q (F0 m pc ls (.int x :: .int i :: va_rf r :: rest)) := by
  obtain ⟨a, n, f, rfl, ha, hi, rfl⟩ := hm_si_s hg
  have hc : H[a]? = some (vp_cell (kA kd) (n, .inl f)) := (hI.1.1 _ _ ha).1
  refine W.zast hexec hb hc ((hK.2 t0 _ ht).1 n (fun j => .int (f j))) (fun q => by cases q) (by show ¬ (i < 0 ∨ (arrV _ _ _).slots.size ≤ _); rw [arrV_size]; exact hi) rfl rfl hdg fun H1 e1 z oq => ?_
  refine kk H1 _ (hI.up ha ?_ z oq)
  show H1[a]? = some (vp_cell _ _)
  rw [e1, vp_cell_i, vp_cell_i, arrV_store]
  congr 2
  funext q
  by_cases hq : q = i.toNatClampNeg
  · subst hq
    simp [updV, upd, vp_nar]
    try rfl
  · simp [updV, upd, hq]
theorem hm_aast (hexec : p.tables.exec = Jvm.exec) (hb : c.code = cc) (hK : va_K D cl tys s) (hI : hm_I D cl kA A H0 h H locs) {kd t0 ci : Nat} {w : vw_C} (hc : cl[ci]? = some w) (ht : tys[t0]? = some (kA kd, .object w.1)) {r x : Option Nat} {i : Int32} {h' : hm_H} (hg : hm_sq kd ci h r i x = some h') (hdg : decode cc pc = .ok (.aastore, 1))
    (kk : ∀ (H1 : Heap) (locs1 : List Loc), hm_I D cl kA A H0 h' H1 locs1 → W p l e R s m args below meth c H1 locs1 cells slots Q (F0 m (pc + 1) ls rest)) : W p l e R s m args below meth c H locs cells slots Q (F0 m pc ls (va_rf x :: .int i :: va_rf r :: rest)) := by
  obtain ⟨a, n, v, f, vs, rfl, rfl, hv, ha, hin, rfl⟩ := hm_sq_s hg
  have hlt : i.toNatClampNeg < n := Nat.not_le.mp fun q => hin (Or.inr q)
  have h0 : ¬ i < 0 := fun q => hin (Or.inl q)
  obtain ⟨r', hr', cellV, g1, g2, g3, -⟩ := (hI.1.1 _ _ hv).1
  have hca : H[a]? = some (vp_cell (kA kd) (n, .inr (.inr (.inr (.inr f))))) := (hI.1.1 _ _ ha).1
  have hcls := (hK.1 ci w hc).2
  obtain ⟨kA', comp, k1, k2, k3, -⟩ := (hK.2 t0 _ ht).2
  have hcomp : comp = D.1 ci := Option.some.inj (k3.symm.trans hcls.1)
  subst hcomp
  obtain ⟨kC, hkC, -⟩ := hcls.2
  refine W.aast hexec hb hca (fun q h => by cases h) (fun h => by cases h) k1 k2 rfl hkC ⟨h0, by show _ < (arrV _ _ _).slots.size; rw [arrV_size]; exact hlt⟩ g1 (fun q h => by rw [g3] at h; cases h) (by rw [g2]; exact hkC) (by rw [g2]; exact va_assign hcls) rfl rfl hdg fun H1 e1 z oq => ?_
  refine kk H1 _ (hI.up ha ?_ z oq)
  show H1[a]? = some (vp_cell _ _)
  rw [e1, vp_cell_q, vp_cell_q, arrV_store]
  congr 2
  funext q
  by_cases hq : q = i.toNatClampNeg
  · subst hq
    simp [updV, va_up, va_rf]
  · simp [updV, va_up, hq]
theorem hm_new {c0 : Code} (hexec : p.tables.exec = Jvm.exec) (hb : c0.code = cc) {own C : String} {T : u_T} {N ci index : Nat} {Ts : List Cond} (hts : ∀ w ∈ Ts, w.before args s = true) (hin : ∀ w ∈ u_ws C T N, w ∈ Ts) (ty : Nat → FieldType) (hty : ∀ k, k < N → parseFieldDescriptor (T k).2.2.1 = some (ty k)) (hown : s.vm.findClass own = some m.cls) (hcl : (Cond.classLink own index C).before args s = true) (hinst : (Cond.instantiable C N).before args s = true) (hini : (Cond.initialized C).before args s = true)
    (hK : va_K D cl tys s) (hI : hm_I D cl kA A H0 h H locs) (hc : cl[ci]? = some (C, T, N)) {fs : List Value} (hfs : ∀ j, j < N → defaultValue (ty j) = vp_V fs j) (hcells : cells + 1 ≤ R.cells) (hslots : slots + N ≤ R.slots) (hdg : decode cc pc = .ok (.new index, 3))
    (kk : ∀ H1 : Heap, hm_I D cl kA A H0 (hm_n h (.inr (ci, fs))) H1 locs → W p l e R s m args below meth c0 H1 locs (cells + 1) (slots + N) Q (F0 m (pc + 3) ls (va_rf (some h.2) :: rest))) : W p l e R s m args below meth c0 H locs cells slots Q (F0 m pc ls rest) := by
  have hKn := hK.1 ci _ hc
  refine W.newcK hexec hb hown hcl hinst hini rfl hdg hcells hslots hKn.2.1 rfl fun H1 kC hkC e1 z1 o1 => ?_
  have h9 := kk H1 (hI.new (x := .inr (ci, fs)) ⟨_, hc, (u_born ty hts hin hKn hkC e1 hty).to hfs⟩ z1 o1)
  rw [← hI.1.2] at h9
  exact h9
theorem hm_newi (hexec : p.tables.exec = Jvm.exec) (hb : c.code = cc) {atype : ArrayType} {ty : FieldType} {kd t0 B : Nat} (harr : (Cond.arrayClass ty).before args s = true) (hty : newarray.typeOf atype = ty) (hd : defaultValue ty = .int 0) (hB : B * componentBytes ty ≤ 536870912) (hK : va_K D cl tys s) (hI : hm_I D cl kA A H0 h H locs) (ht : tys[t0]? = some (kA kd, ty)) (hnm : va_RA s (kA kd) ty → s.vm.findClass ("[" ++ ty.toString) = some (kA kd)) {n : Int32} {h' : hm_H} (hg : hm_ni kd B n h = some h') (hcells : cells + 1 ≤ R.cells) (hslots : slots + B ≤ R.slots) (hdg : decode cc pc = .ok (.newarray atype, 2))
    (kk : ∀ H1 : Heap, hm_I D cl kA A H0 h' H1 locs → W p l e R s m args below meth c H1 locs (cells + 1) (slots + B) Q (F0 m (pc + 2) ls (va_rf (some h.2) :: rest))) : W p l e R s m args below meth c H locs cells slots Q (F0 m pc ls (.int n :: rest)) := by
  subst hty
  unfold hm_ni at hg
  split at hg
  · rename_i hn
    cases hg
    refine va_newaK hexec hb harr rfl hdg rfl hn.1 rfl (Nat.le_trans (Nat.mul_le_mul_right _ hn.2) hB) hcells (by omega) rfl fun H1 cA e1 z1 o1 hAr hNm => ?_
    have hcA : cA = kA kd := Option.some.inj (hNm.symm.trans (hnm (hK.2 t0 _ ht).2))
    subst hcA
    refine W.widen (Nat.le_refl _) (Nat.add_le_add_left hn.2 slots) ?_
    have h9 := kk H1 (hI.new (x := .inl (kd, n.toNatClampNeg, .inl (fun _ => 0))) (by show H1[H.size]? = some (vp_cell _ _); rw [vp_cell_i, e1, hd]) z1 o1)
    rw [← hI.1.2] at h9
    exact h9
  · cases hg
theorem hm_newq (hexec : p.tables.exec = Jvm.exec) (hb : c.code = cc) {own C : String} {index kd t0 B : Nat} (hown : s.vm.findClass own = some m.cls) (hclink : (Cond.classLink own index C).before args s = true) (hover : va_AO C s) (hB : B * 4 ≤ 536870912) (hK : va_K D cl tys s) (hI : hm_I D cl kA A H0 h H locs) (ht : tys[t0]? = some (kA kd, .object C)) {n : Int32} {h' : hm_H} (hg : hm_nq kd B n h = some h') (hcells : cells + 1 ≤ R.cells) (hslots : slots + B ≤ R.slots) (hdg : decode cc pc = .ok (.anewarray index, 3))
    (kk : ∀ H1 : Heap, hm_I D cl kA A H0 h' H1 locs → W p l e R s m args below meth c H1 locs (cells + 1) (slots + B) Q (F0 m (pc + 3) ls (va_rf (some h.2) :: rest))) : W p l e R s m args below meth c H locs cells slots Q (F0 m pc ls (.int n :: rest)) := by
  unfold hm_nq at hg
  split at hg
  · rename_i hn
    cases hg
    refine W.anew hexec hb hown hclink (va_AO.use hover) rfl hdg rfl hn.1 (Nat.le_trans (Nat.mul_le_mul_right _ hn.2) hB) hcells (by omega) fun cA kA' comp f1 f2 f3 f4 => ?_
    obtain ⟨kA2, comp2, k1, k2, k3, k4⟩ := (hK.2 t0 _ ht).2
    have hcA : cA = kA kd := Option.some.inj (f1.symm.trans k4)
    subst hcA
    refine W.widen (Nat.le_refl _) (Nat.add_le_add_left hn.2 slots) ?_
    have h9 := kk _ (hI.new (x := .inl (kd, n.toNatClampNeg, .inr (.inr (.inr (.inr (fun _ => none)))))) (H1 := H.push ({ cls := kA kd, slots := Array.replicate n.toNatClampNeg .null, vm := .none } : Cell)) (by show _ = some (vp_cell _ _); rw [vp_cell_q, Array.getElem?_push_size]; exact congrArg some (arrV_new _ _ _)) (by rw [Array.size_push]) (fun q hq => by rw [Array.getElem?_push, if_neg (Nat.ne_of_lt hq)]))
    rw [← hI.1.2] at h9
    exact h9
  · cases hg
end HMW
