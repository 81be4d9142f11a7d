section
/-! THE HEAP AS A MAP: a cell's contents by its address, and the next address. An array has the number of its kind (0: int, 1: boolean, from 2 on: of references), an object the number of its class in 'classes'. -/
abbrev hm_E : Type := (Nat × vp_A) ⊕ (Nat × List Value)
abbrev hm_H : Type := (Nat → Option hm_E) × Nat
def hm_tr (kA : Nat → ClassId) (e : hm_E) : va_E := match e with
  | .inl x => .inl (kA x.1, x.2)
  | .inr o => .inr o
/-- the machine's heap holds the map -/
def hm_P (D : va_G) (cl : List vw_C) (kA : Nat → ClassId) (A : Nat → Prop) (h : hm_H) (H : Heap) : Prop := (∀ (a : Nat) (x : hm_E), h.1 a = some x → va_at D cl (a, hm_tr kA x) H ∧ A a) ∧ H.size = h.2
def hm_I (D : va_G) (cl : List vw_C) (kA : Nat → ClassId) (A : Nat → Prop) (H0 : Heap) (h : hm_H) (H : Heap) (locs : List Loc) : Prop :=
  hm_P D cl kA A h H ∧ va_S A H0 H locs ∧ ∀ q : Nat, H0.size ≤ q → A q
/-- a method's own part: the cells of its map, and those that come -/
def hm_A (h : hm_H) : Nat → Prop := fun q => (∃ x, h.1 q = some x) ∨ h.2 ≤ q
def hm_B (D : va_G) (cl : List vw_C) (kA : Nat → ClassId) (A : Nat → Prop) (tys : List (ClassId × FieldType)) (h : hm_H) (U : State) : Prop :=
  hm_P D cl kA A h U.heap ∧ va_K D cl tys U
def hm_Q (D : va_G) (cl : List vw_C) (kA : Nat → ClassId) (tys : List (ClassId × FieldType)) (h : hm_H) (rv : Option Value) (h' : hm_H) : Array Value → State → Outcome → State → Prop := fun _ st oc t =>
  oc = .returned rv ∧ hm_B D cl kA (hm_A h) tys h' t ∧ va_F (hm_A h) st t
/-- a method's contract over maps -/
def hm_C (l : Launch) (y : MethodName) (ws : List Cond) (rm : Room) (D : va_G) (cl : List vw_C) (kA : Nat → ClassId) (tys : List (ClassId × FieldType)) (as : List Value) (h : hm_H) (rv : Option Value) (h' : hm_H) (mc ms : Nat) : Prop :=
  Met l y ws rm (va_Pc as (hm_B D cl kA (hm_A h) tys h)) (hm_Q D cl kA tys h rv h') mc ms (hm_A h)
theorem hm_start {D : va_G} {cl : List vw_C} {kA : Nat → ClassId} {tys : List (ClassId × FieldType)} {h : hm_H} {U : State} (hB : hm_B D cl kA (hm_A h) tys h U) : hm_I D cl kA (hm_A h) U.heap h U.heap [] :=
  ⟨hB.1, va_S.rf, fun q hq => Or.inr (by rw [← hB.1.2]; exact hq)⟩
theorem hm_end {D : va_G} {cl : List vw_C} {kA : Nat → ClassId} {tys : List (ClassId × FieldType)} {h h' : hm_H} {s t : State} {H : Heap} {locs : List Loc} (hK : va_K D cl tys s) (hI : hm_I D cl kA (hm_A h) s.heap h' H locs) (ht : t.heap = H) (hW : s.WarmedH t.vm) : hm_B D cl kA (hm_A h) tys h' t ∧ va_F (hm_A h) s t :=
  ⟨⟨by rw [ht]; exact hI.1, va_K.moved hW.alike hK⟩, hI.2.1.F ht⟩
theorem hm_I.up {D : va_G} {cl : List vw_C} {kA : Nat → ClassId} {A : Nat → Prop} {H0 H H1 : Heap} {h : hm_H} {locs : List Loc} {a k : Nat} {x0 x : hm_E} (hI : hm_I D cl kA A H0 h H locs) (ha : h.1 a = some x0) (hx : va_at D cl (a, hm_tr kA x) H1) (hz : H1.size = H.size) (oq : ∀ q : Nat, q ≠ a → H1[q]? = H[q]?) : hm_I D cl kA A H0 (va_up h.1 a (some x), h.2) H1 (locs ++ [⟨a, k⟩]) := by
  obtain ⟨⟨hP, hs⟩, hS, hA⟩ := hI
  refine ⟨⟨fun b y hb => ?_, hz.trans hs⟩, hS.put hz oq (hP a x0 ha).2, hA⟩
  by_cases hab : b = a
  · subst hab
    have hb : va_up h.1 b (some x) b = some y := hb
    rw [va_up_self] at hb
    cases hb
    exact ⟨hx, (hP b x0 ha).2⟩
  · have hb : va_up h.1 a (some x) b = some y := hb
    rw [va_up_ne _ _ hab] at hb
    exact ⟨(hP b y hb).1.kept (oq b hab), (hP b y hb).2⟩
theorem hm_I.new {D : va_G} {cl : List vw_C} {kA : Nat → ClassId} {A : Nat → Prop} {H0 H H1 : Heap} {h : hm_H} {locs : List Loc} {x : hm_E} (hI : hm_I D cl kA A H0 h H locs) (hx : va_at D cl (H.size, hm_tr kA x) H1) (hz : H1.size = H.size + 1) (oq : ∀ q : Nat, q < H.size → H1[q]? = H[q]?) : hm_I D cl kA A H0 (va_up h.1 h.2 (some x), h.2 + 1) H1 locs := by
  obtain ⟨⟨hP, hs⟩, hS, hA⟩ := hI
  refine ⟨⟨fun b y hb => ?_, by rw [hz, hs]⟩, ⟨Nat.le_trans hS.1 (by omega), fun q h1 h2 => (oq q (Nat.lt_of_lt_of_le h1 hS.1)).trans (hS.2.1 q h1 h2), hS.2.2⟩, hA⟩
  have hb : va_up h.1 h.2 (some x) b = some y := hb
  by_cases hab : b = h.2
  · subst hab
    rw [va_up_self] at hb
    cases hb
    rw [← hs]
    exact ⟨hx, hA _ hS.1⟩
  · rw [va_up_ne _ _ hab] at hb
    have h9 := hP b y hb
    exact ⟨h9.1.kept (oq b h9.1.lt), h9.2⟩
/-! reads and writes of the map -/
def hm_g (ci k : Nat) (h : hm_H) (r : Option Nat) : Option Value := match r with
  | none => none
  | some a => match h.1 a with
    | some (.inr o) => if o.1 = ci then o.2[k]? else none
    | _ => none
def hm_gi (ci k : Nat) (h : hm_H) (r : Option Nat) : Option Int32 := match hm_g ci k h r with
  | some (.int x) => some x
  | _ => none
def hm_gl (ci k : Nat) (h : hm_H) (r : Option Nat) : Option Int64 := match hm_g ci k h r with
  | some (.long x) => some x
  | _ => none
def hm_gq (ci k : Nat) (h : hm_H) (r : Option Nat) : Option (Option Nat) := match hm_g ci k h r with
  | some (.ref x) => some (some x)
  | some .null => some none
  | _ => none
def hm_p (ci k : Nat) (v : Value) (h : hm_H) (r : Option Nat) : Option hm_H := match r with
  | none => none
  | some a => match h.1 a with
    | some (.inr o) => if o.1 = ci ∧ k < o.2.length then some (va_up h.1 a (some (.inr (ci, o.2.set k v))), h.2) else none
    | _ => none
/-- the receiver is there, of its class -/
def hm_rc (ci : Nat) (h : hm_H) (r : Option Nat) : Option Nat := match r with
  | none => none
  | some a => match h.1 a with
    | some (.inr o) => if o.1 = ci then some a else none
    | _ => none
def hm_ai (kd : Nat) (h : hm_H) (r : Option Nat) (i : Int32) : Option Int32 := match r with
  | none => none
  | some a => match h.1 a with
    | some (.inl (kd', n, .inl f)) => if kd' = kd ∧ ¬ (i < 0 ∨ n ≤ i.toNatClampNeg) then some (f i.toNatClampNeg) else none
    | _ => none
def hm_si (kd : Nat) (h : hm_H) (r : Option Nat) (i x : Int32) : Option hm_H := match r with
  | none => none
  | some a => match h.1 a with
    | some (.inl (kd', n, .inl f)) => if kd' = kd ∧ ¬ (i < 0 ∨ n ≤ i.toNatClampNeg) then some (va_up h.1 a (some (.inl (kd, n, .inl (upd f i.toNatClampNeg x)))), h.2) else none
    | _ => none
def hm_aq (kd : Nat) (h : hm_H) (r : Option Nat) (i : Int32) : Option (Option Nat) := match r with
  | none => none
  | some a => match h.1 a with
    | some (.inl (kd', n, .inr (.inr (.inr (.inr f))))) => if kd' = kd ∧ ¬ (i < 0 ∨ n ≤ i.toNatClampNeg) then some (f i.toNatClampNeg) else none
    | _ => none
def hm_sq (kd ci : Nat) (h : hm_H) (r : Option Nat) (i : Int32) (x : Option Nat) : Option hm_H := match r with
  | none => none
  | some a => match hm_rc ci h x with
    | none => none
    | some v => match h.1 a with
      | some (.inl (kd', n, .inr (.inr (.inr (.inr f))))) => if kd' = kd ∧ ¬ (i < 0 ∨ n ≤ i.toNatClampNeg) then some (va_up h.1 a (some (.inl (kd, n, .inr (.inr (.inr (.inr (va_up f i.toNatClampNeg (some v)))))))), h.2) else none
      | _ => none
def hm_al (kd : Nat) (h : hm_H) (r : Option Nat) : Option Int32 := match r with
  | none => none
  | some a => match h.1 a with
    | some (.inl (kd', x)) => if kd' = kd then some (Int32.ofNat x.1) else none
    | _ => none
def hm_n (h : hm_H) (e : hm_E) : hm_H := (va_up h.1 h.2 (some e), h.2 + 1)
/-- a new array of numbers, of at most B places -/
def hm_ni (kd B : Nat) (n : Int32) (h : hm_H) : Option hm_H := if ¬ n < 0 ∧ n.toNatClampNeg ≤ B then some (hm_n h (.inl (kd, n.toNatClampNeg, .inl (fun _ => 0)))) else none
def hm_nq (kd B : Nat) (n : Int32) (h : hm_H) : Option hm_H := if ¬ n < 0 ∧ n.toNatClampNeg ≤ B then some (hm_n h (.inl (kd, n.toNatClampNeg, .inr (.inr (.inr (.inr (fun _ => none))))))) else none
/-- System.arraycopy of ints -/
def hm_cp (h : hm_H) (r : Option Nat) (sp : Int32) (r2 : Option Nat) (dp n : Int32) : Option hm_H := match r, r2 with
  | some a, some b => match h.1 a, h.1 b with
    | some (.inl (kd, n0, .inl f)), some (.inl (kd', n1, .inl g)) => if (kd = 0 ∧ kd' = 0) ∧ (¬ sp < 0 ∧ ¬ dp < 0 ∧ ¬ n < 0) ∧ sp.toNatClampNeg + n.toNatClampNeg ≤ n0 ∧ dp.toNatClampNeg + n.toNatClampNeg ≤ n1 then some (va_up h.1 b (some (.inl (0, n1, .inl (va_cpy f g sp.toNatClampNeg dp.toNatClampNeg n.toNatClampNeg)))), h.2) else none
    | _, _ => none
  | _, _ => none
/-! binds that a walk can open -/
def hm_b {α γ : Type} (x : Option α) (k : α → Option γ) : Option γ := match x with
  | none => none
  | some a => k a
def hm_b2 {α β γ : Type} (x : Option (α × β)) (k : α → β → Option γ) : Option γ := match x with
  | none => none
  | some p => k p.1 p.2
def hm_let {α γ : Type} (x : α) (k : α → γ) : γ := k x
theorem hm_b_s {α γ : Type} {x : Option α} {k : α → Option γ} {z : γ} (h : hm_b x k = some z) : ∃ a, x = some a ∧ k a = some z := by
  cases x with
  | none => cases h
  | some a => exact ⟨a, rfl, h⟩
theorem hm_b2_s {α β γ : Type} {x : Option (α × β)} {k : α → β → Option γ} {z : γ} (h : hm_b2 x k = some z) : ∃ a b, x = some (a, b) ∧ k a b = some z := by
  cases x with
  | none => cases h
  | some p => exact ⟨p.1, p.2, rfl, h⟩
theorem hm_let_s {α γ : Type} {x : α} {k : α → Option γ} {z : γ} (h : hm_let x k = some z) : ∃ a, a = x ∧ k a = some z := ⟨x, rfl, h⟩
end
section
/-! THE MACHINE'S ROWS OVER MAPS -/
theorem hm_g_s {ci k : Nat} {h : hm_H} {r : Option Nat} {v : Value} (hg : hm_g ci k h r = some v) : ∃ (a : Nat) (fs : List Value), r = some a ∧ h.1 a = some (.inr (ci, fs)) ∧ fs[k]? = some v := by
  cases r with
  | none => cases hg
  | some a =>
    simp only [hm_g] at hg
    split at hg
    · rename_i o ho
      split at hg
      · rename_i hc
        obtain ⟨c1, fs⟩ := o
        dsimp only at hc hg
        subst hc
        exact ⟨a, fs, rfl, ho, hg⟩
      · cases hg
    · cases hg
theorem hm_gi_s {ci k : Nat} {h : hm_H} {r : Option Nat} {x : Int32} (hg : hm_gi ci k h r = some x) : hm_g ci k h r = some (.int x) := by
  unfold hm_gi at hg
  split at hg
  · rename_i y hy
    cases hg
    exact hy
  · cases hg
theorem hm_gl_s {ci k : Nat} {h : hm_H} {r : Option Nat} {x : Int64} (hg : hm_gl ci k h r = some x) : hm_g ci k h r = some (.long x) := by
  unfold hm_gl at hg
  split at hg
  · rename_i y hy
    cases hg
    exact hy
  · cases hg
theorem hm_gq_s {ci k : Nat} {h : hm_H} {r : Option Nat} {x : Option Nat} (hg : hm_gq ci k h r = some x) : hm_g ci k h r = some (va_rf x) := by
  unfold hm_gq at hg
  split at hg
  · rename_i y hy
    cases hg
    exact hy
  · rename_i hy
    cases hg
    exact hy
  · cases hg
theorem hm_p_s {ci k : Nat} {v : Value} {h h' : hm_H} {r : Option Nat} (hg : hm_p ci k v h r = some h') : ∃ (a : Nat) (fs : List Value), r = some a ∧ h.1 a = some (.inr (ci, fs)) ∧ k < fs.length ∧ h' = (va_up h.1 a (some (.inr (ci, fs.set k v))), h.2) := by
  cases r with
  | none => cases hg
  | some a =>
    simp only [hm_p] at hg
    split at hg
    · rename_i o ho
      split at hg
      · rename_i hc
        obtain ⟨c1, fs⟩ := o
        dsimp only at hc hg
        obtain ⟨hc, hl⟩ := hc
        subst hc
        cases hg
        exact ⟨a, fs, rfl, ho, hl, rfl⟩
      · cases hg
    · cases hg
theorem hm_rc_s {ci : Nat} {h : hm_H} {r : Option Nat} {a : Nat} (hg : hm_rc ci h r = some a) : r = some a ∧ ∃ fs : List Value, h.1 a = some (.inr (ci, fs)) := by
  cases r with
  | none => cases hg
  | some b =>
    simp only [hm_rc] at hg
    split at hg
    · rename_i o ho
      split at hg
      · rename_i hc
        obtain ⟨c1, fs⟩ := o
        dsimp only at hc hg
        subst hc
        cases hg
        exact ⟨rfl, fs, ho⟩
      · cases hg
    · cases hg
theorem hm_ai_s {kd : Nat} {h : hm_H} {r : Option Nat} {i x : Int32} (hg : hm_ai kd h r i = some x) : ∃ (a n : Nat) (f : Nat → Int32), r = some a ∧ h.1 a = some (.inl (kd, n, .inl f)) ∧ vp_in i n ∧ f i.toNatClampNeg = x := by
  cases r with
  | none => cases hg
  | some b =>
    simp only [hm_ai] at hg
    split at hg
    · rename_i kd' n f ho
      split at hg
      · rename_i hc
        obtain ⟨hc, hi⟩ := hc
        subst hc
        cases hg
        exact ⟨b, n, f, rfl, ho, hi, rfl⟩
      · cases hg
    · cases hg
theorem hm_si_s {kd : Nat} {h h' : hm_H} {r : Option Nat} {i x : Int32} (hg : hm_si kd h r i x = some h') : ∃ (a n : Nat) (f : Nat → Int32), r = some a ∧ h.1 a = some (.inl (kd, n, .inl f)) ∧ vp_in i n ∧ h' = (va_up h.1 a (some (.inl (kd, n, .inl (upd f i.toNatClampNeg x)))), h.2) := by
  cases r with
  | none => cases hg
  | some b =>
    simp only [hm_si] at hg
    split at hg
    · rename_i kd' n f ho
      split at hg
      · rename_i hc
        obtain ⟨hc, hi⟩ := hc
        subst hc
        cases hg
        exact ⟨b, n, f, rfl, ho, hi, rfl⟩
      · cases hg
    · cases hg
theorem hm_aq_s {kd : Nat} {h : hm_H} {r x : Option Nat} {i : Int32} (hg : hm_aq kd h r i = some x) : ∃ (a n : Nat) (f : Nat → Option Nat), r = some a ∧ h.1 a = some (.inl (kd, n, .inr (.inr (.inr (.inr f))))) ∧ vp_in i n ∧ f i.toNatClampNeg = x := by
  cases r with
  | none => cases hg
  | some b =>
    simp only [hm_aq] at hg
    split at hg
    · rename_i kd' n f ho
      split at hg
      · rename_i hc
        obtain ⟨hc, hi⟩ := hc
        subst hc
        cases hg
        exact ⟨b, n, f, rfl, ho, hi, rfl⟩
      · cases hg
    · cases hg
theorem hm_sq_s {kd ci : Nat} {h h' : hm_H} {r x : Option Nat} {i : Int32} (hg : hm_sq kd ci h r i x = some h') : ∃ (a n v : Nat) (f : Nat → Option Nat) (vs : List Value), r = some a ∧ x = some v ∧ h.1 v = some (.inr (ci, vs)) ∧ h.1 a = some (.inl (kd, n, .inr (.inr (.inr (.inr f))))) ∧ vp_in i n ∧ h' = (va_up h.1 a (some (.inl (kd, n, .inr (.inr (.inr (.inr (va_up f i.toNatClampNeg (some v)))))))), h.2) := by
  cases r with
  | none => cases hg
  | some b =>
    simp only [hm_sq] at hg
    split at hg
    · cases hg
    · rename_i v hv
      obtain ⟨hx, vs, hv⟩ := hm_rc_s hv
      split at hg
      · rename_i kd' n f ho
        split at hg
        · rename_i hc
          obtain ⟨hc, hi⟩ := hc
          subst hc
          cases hg
          exact ⟨b, n, v, f, vs, rfl, hx, hv, ho, hi, rfl⟩
        · cases hg
      · cases hg
theorem hm_al_s {kd : Nat} {h : hm_H} {r : Option Nat} {x : Int32} (hg : hm_al kd h r = some x) : ∃ (a : Nat) (v : vp_A), r = some a ∧ h.1 a = some (.inl (kd, v)) ∧ Int32.ofNat v.1 = x := by
  cases r with
  | none => cases hg
  | some b =>
    simp only [hm_al] at hg
    split at hg
    · rename_i kd' v ho
      split at hg
      · rename_i hc
        subst hc
        cases hg
        exact ⟨b, v, rfl, ho, rfl⟩
      · cases hg
    · cases hg
theorem hm_cp_s {h h' : hm_H} {r r2 : Option Nat} {sp dp n : Int32} (hg : hm_cp h r sp r2 dp n = some h') : ∃ (a b n0 n1 : Nat) (f g : Nat → Int32), r = some a ∧ r2 = some b ∧ h.1 a = some (.inl (0, n0, .inl f)) ∧ h.1 b = some (.inl (0, n1, .inl g)) ∧ (¬ sp < 0 ∧ ¬ dp < 0 ∧ ¬ n < 0) ∧ sp.toNatClampNeg + n.toNatClampNeg ≤ n0 ∧ dp.toNatClampNeg + n.toNatClampNeg ≤ n1 ∧ h' = (va_up h.1 b (some (.inl (0, n1, .inl (va_cpy f g sp.toNatClampNeg dp.toNatClampNeg n.toNatClampNeg)))), h.2) := by
  unfold hm_cp at hg
  split at hg
  · rename_i a b
    split at hg
    · rename_i kd n0 f kd' n1 g ha hb
      split at hg
      · rename_i hc
        obtain ⟨⟨h1, h2⟩, h3, h4, h5⟩ := hc
        subst h1
        subst h2
        cases hg
        exact ⟨a, b, n0, n1, f, g, rfl, rfl, ha, hb, h3, h4, h5, rfl⟩
      · cases hg
    · cases hg
  · cases hg
section HMW
variable {p : Program} {l : Launch} {e : Env} {R : Room} {s : State} {m : MethodId} {args : Array Value} {below : List Frame} {meth : Method} {c : Code} {H : Heap} {locs : List Loc} {cells slots : Nat} {Q : State → Prop}
variable {cc : ByteArray} {pc : Nat} {ls : Array Slot} {rest : List Value} {D : va_G} {cl : List vw_C} {A : Nat → Prop} {tys : List (ClassId × FieldType)} {H0 : Heap} {kA : Nat → ClassId} {h : hm_H}
theorem hm_aload_n (hexec : p.tables.exec = Jvm.exec) (hb : c.code = cc) {k : Fin 4} {i : Nat} {r : Option Nat} (hdg : decode cc pc = .ok (.aload_n k, 1)) (hi : (k : Nat) = i) (hl : ls[i]? = some (.val (va_rf r)))
    (kk : W p l e R s m args below meth c H locs cells slots Q (F0 m (pc + 1) ls (va_rf r :: rest))) : W p l e R s m args below meth c H locs cells slots Q (F0 m pc ls rest) := by
  cases r with
  | none => exact lv_aload_nN hexec hb hdg hi hl kk
  | some x => exact lv_aload_n hexec hb hdg hi hl kk
theorem hm_aload (hexec : p.tables.exec = Jvm.exec) (hb : c.code = cc) {i : Nat} {r : Option Nat} (hdg : decode cc pc = .ok (.aload i, 2)) (hl : ls[i]? = some (.val (va_rf r)))
    (kk : W p l e R s m args below meth c H locs cells slots Q (F0 m (pc + 2) ls (va_rf r :: rest))) : W p l e R s m args below meth c H locs cells slots Q (F0 m pc ls rest) := by
  cases r with
  | none => exact lv_aloadN hexec hb hdg hl kk
  | some x => exact lv_aload hexec hb hdg hl kk
theorem hm_astore_n (hexec : p.tables.exec = Jvm.exec) (hb : c.code = cc) {k : Fin 4} {i nL : Nat} {r : Option Nat} {lv lv' : List (Nat × Value)} (hdg : decode cc pc = .ok (.astore_n k, 1)) (hi : (k : Nat) = i) (hh : lv_has ls nL lv) (hn : i < nL) (hl : (i, va_rf r) :: lv.filter (fun q => !(q.1 == i) && !(q.1 + 1 == i && q.2.category == 2)) = lv')
    (kk : ∀ ls' : Array Slot, lv_has ls' nL lv' → W p l e R s m args below meth c H locs cells slots Q (F0 m (pc + 1) ls' rest)) : W p l e R s m args below meth c H locs cells slots Q (F0 m pc ls (va_rf r :: rest)) := by
  cases r with
  | none => exact lv_astore_nN hexec hb hdg hi hh hn hl kk
  | some x => exact lv_astore_n hexec hb hdg hi hh hn hl kk
theorem hm_astore (hexec : p.tables.exec = Jvm.exec) (hb : c.code = cc) {i nL : Nat} {r : Option Nat} {lv lv' : List (Nat × Value)} (hdg : decode cc pc = .ok (.astore i, 2)) (hh : lv_has ls nL lv) (hn : i < nL) (hl : (i, va_rf r) :: lv.filter (fun q => !(q.1 == i) && !(q.1 + 1 == i && q.2.category == 2)) = lv')
    (kk : ∀ ls' : Array Slot, lv_has ls' nL lv' → W p l e R s m args below meth c H locs cells slots Q (F0 m (pc + 2) ls' rest)) : W p l e R s m args below meth c H locs cells slots Q (F0 m pc ls (va_rf r :: rest)) := by
  cases r with
  | none => exact lv_astoreN hexec hb hdg hh hn hl kk
  | some x => exact lv_astore hexec hb hdg hh hn hl kk
theorem hm_rf_cat (r : Option Nat) : (va_rf r).category = 1 := by cases r <;> rfl
theorem hm_ifnull (hexec : p.tables.exec = Jvm.exec) (hb : c.code = cc) {r : Option Nat} {off : Int} {tgt : Nat} (hdg : decode cc pc = .ok (.ifnull off, 3)) (ht : (pc : Int) + off = (tgt : Int))
    (kt : r = none → W p l e R s m args below meth c H locs cells slots Q (F0 m tgt ls rest)) (kf : ¬ r = none → W p l e R s m args below meth c H locs cells slots Q (F0 m (pc + 3) ls rest)) : W p l e R s m args below meth c H locs cells slots Q (F0 m pc ls (va_rf r :: rest)) := by
  cases r with
  | none => exact lv_ifnullN hexec hb hdg ht (kt rfl)
  | some x => exact lv_ifnull hexec hb hdg (kf (by simp))
theorem hm_ifnonnull (hexec : p.tables.exec = Jvm.exec) (hb : c.code = cc) {r : Option Nat} {off : Int} {tgt : Nat} (hdg : decode cc pc = .ok (.ifnonnull off, 3)) (ht : (pc : Int) + off = (tgt : Int))
    (kt : ¬ r = none → W p l e R s m args below meth c H locs cells slots Q (F0 m tgt ls rest)) (kf : r = none → W p l e R s m args below meth c H locs cells slots Q (F0 m (pc + 3) ls rest)) : W p l e R s m args below meth c H locs cells slots Q (F0 m pc ls (va_rf r :: rest)) := by
  cases r with
  | none => exact lv_ifnonnullN hexec hb hdg (kf rfl)
  | some x => exact lv_ifnonnull hexec hb hdg ht (kt (by simp))
theorem hm_one {D : va_G} {cl : List vw_C} {kA : Nat → ClassId} {A : Nat → Prop} {H0 H : Heap} {h : hm_H} {locs : List Loc} {a : Nat} {x : hm_E} (hI : hm_I D cl kA A H0 h H locs) (ha : h.1 a = some x) : va_P D cl [(a, hm_tr kA x)] H := by
  intro k q hk
  have hz : k < 1 := (List.getElem?_eq_some_iff.mp hk).1
  rw [show k = 0 by omega] at hk
  cases hk
  exact (hI.1.1 a x ha).1
theorem hm_get (hexec : p.tables.exec = Jvm.exec) (hb : c.code = cc) {own C : String} {T : u_T} {N ci index k : Nat} {Ts : List Cond} (hts : ∀ w ∈ Ts, w.before args s = true) (hin : ∀ w ∈ u_ws C T N, w ∈ Ts) (hown : s.vm.findClass own = some m.cls) (hK : va_K D cl tys s) (hI : hm_I D cl kA A H0 h H locs) (hc : cl[ci]? = some (C, T, N)) (hk : k < N) (hlink : (Cond.fieldLink own index (T k).1 (T k).2.1 (T k).2.2.1).before args s = true) {r : Option Nat} {v : Value} (hg : hm_g ci k h r = some v) (hdg : decode cc pc = .ok (.getfield index, 3))
    (kk : W p l e R s m args below meth c H locs cells slots Q (F0 m (pc + 3) ls (v :: rest))) : W p l e R s m args below meth c H locs cells slots Q (F0 m pc ls (va_rf r :: rest)) := by
  obtain ⟨a, fs, rfl, h1, h2⟩ := hm_g_s hg
  exact va_get hexec hb hts hin hown hK (hm_one hI h1) 0 rfl hc k hk hlink (fun _ h9 => h9) h2 hdg kk
theorem hm_put (hexec : p.tables.exec = Jvm.exec) (hb : c.code = cc) {own C : String} {T : u_T} {N ci index k : Nat} {Ts : List Cond} (hts : ∀ w ∈ Ts, w.before args s = true) (hin : ∀ w ∈ u_ws C T N, w ∈ Ts) (ty0 : Nat → FieldType) (hty : ∀ k, k < N → parseFieldDescriptor (T k).2.2.1 = some (ty0 k)) (hnm : ∀ a, a < N → ∀ b, b < N → a ≠ b → (T a).2.1 ≠ (T b).2.1) (hown : s.vm.findClass own = some m.cls) (hK : va_K D cl tys s) (hI : hm_I D cl kA A H0 h H locs) (hc : cl[ci]? = some (C, T, N)) (hk : k < N) (hlink : (Cond.fieldLink own index (T k).1 (T k).2.1 (T k).2.2.1).before args s = true) (hfin : (T k).2.2.2 = false) {r : Option Nat} {v : Value} {h' : hm_H} (hg : hm_p ci k v h r = some h') (hn : narrow (ty0 k) v = v) (hfit : fits (ty0 k) v = true) (hdg : decode cc pc = .ok (.putfield index, 3))
    (kk : ∀ (H1 : Heap) (locs1 : List Loc), hm_I D cl kA A H0 h' H1 locs1 → W p l e R s m args below meth c H1 locs1 cells slots Q (F0 m (pc + 3) ls rest)) : W p l e R s m args below meth c H locs cells slots Q (F0 m pc ls (v :: va_rf r :: rest)) := by
  obtain ⟨a, fs, rfl, ha, hl, rfl⟩ := hm_p_s hg
  have hap := va_apart (own := own) hts hin ty0 hty hnm hK hc
  obtain ⟨w, h1, cell, q1, q2, q3, q4⟩ := (hI.1.1 _ _ ha).1
  have hr : w = (C, T, N) := Option.some.inj (h1.symm.trans hc)
  subst hr
  obtain ⟨hS, hfc, kC, hkC, hkind⟩ := hK.1 ci _ hc
  obtain ⟨cf, kf, fi, f, hi, hsl⟩ := hS k hk
  have hlay := hts _ (hin _ (u_in_lay hk))
  unfold u_lay at hlay
  rw [if_neg (by rw [hfin]; decide)] at hlay
  have hst := (u_facts hfc hkC (u_lays hts hin hk) hi).1
  have h6 := u_store hfc hkC hkind hlay hi (hty k hk) hn hfit
  refine W.putK hexec hb (f := f) ⟨hown, hlink, ⟨_, _, _, hi⟩, hst⟩ (by rw [q2]; exact h6) q1 q3 (by rw [hsl]; exact k2_hasslot (q4 k hk)) rfl rfl hdg fun H' e1 e2 e3 => ?_
  rw [hsl] at e1 ⊢
  exact kk H' _ (hI.up ha ⟨_, hc, t_OB.to (V := updV (vp_V fs) k v) ⟨_, e1, q2, q3, t_set q4 hap hk v⟩ (fun j _ => vp_updV_set hl v j)⟩ e2 e3)
theorem hm_putF (hexec : p.tables.exec = Jvm.exec) (hb : c.code = cc) {own C : String} {T : u_T} {N ci index k : Nat} {Ts : List Cond} (hts : ∀ w ∈ Ts, w.before args s = true) (hin : ∀ w ∈ u_ws C T N, w ∈ Ts) (ty0 : Nat → FieldType) (hty : ∀ k, k < N → parseFieldDescriptor (T k).2.2.1 = some (ty0 k)) (hnm : ∀ a, a < N → ∀ b, b < N → a ≠ b → (T a).2.1 ≠ (T b).2.1) (hown : s.vm.findClass own = some m.cls) (hK : va_K D cl tys s) (hI : hm_I D cl kA A H0 h H locs) (hc : cl[ci]? = some (C, T, N)) (hk : k < N) (hlink : (Cond.fieldLink own index (T k).1 (T k).2.1 (T k).2.2.1).before args s = true) (hfin : (T k).2.2.2 = true) (hin2 : meth.name = "<init>") (hdecl : (T k).1 = own) {r : Option Nat} {v : Value} {h' : hm_H} (hg : hm_p ci k v h r = some h') (hn : narrow (ty0 k) v = v) (hfit : fits (ty0 k) v = true) (hdg : decode cc pc = .ok (.putfield index, 3))
    (kk : ∀ (H1 : Heap) (locs1 : List Loc), hm_I D cl kA A H0 h' H1 locs1 → W p l e R s m args below meth c H1 locs1 cells slots Q (F0 m (pc + 3) ls rest)) : W p l e R s m args below meth c H locs cells slots Q (F0 m pc ls (v :: va_rf r :: rest)) := by
  obtain ⟨a, fs, rfl, ha, hl, rfl⟩ := hm_p_s hg
  have hap := va_apart (own := own) hts hin ty0 hty hnm hK hc
  obtain ⟨w, h1, cell, q1, q2, q3, q4⟩ := (hI.1.1 _ _ ha).1
  have hr : w = (C, T, N) := Option.some.inj (h1.symm.trans hc)
  subst hr
  obtain ⟨hS, hfc, kC, hkC, hkind⟩ := hK.1 ci _ hc
  obtain ⟨cf, kf, fi, f, hi, hsl⟩ := hS k hk
  have hlay := hts _ (hin _ (u_in_lay hk))
  unfold u_lay at hlay
  rw [if_pos hfin] at hlay
  have hst := (u_facts hfc hkC (u_lays hts hin hk) hi).1
  have hcf : m.cls = cf := by
    obtain ⟨_, _, c', _, _, _, -, -, hf', -, -, -, hown2, -⟩ := Cond.laysFinal_spec hlay
    have e1 : c' = cf := by have := hi.symm.trans hf'; simp at this; exact this.1.symm
    rw [hdecl] at hown2
    rw [← e1]; exact Option.some.inj (hown.symm.trans hown2)
  have h6 := u_fits hfc hkC hkind (Or.inr hlay) hi (hty k hk) hn hfit
  refine W.putFinK hexec hb hown hlink hi hst hcf hin2 (by rw [q2]; exact h6) q1 q3 (by rw [hsl]; exact k2_hasslot (q4 k hk)) rfl rfl hdg fun H' e1 e2 e3 => ?_
  rw [hsl] at e1 ⊢
  exact kk H' _ (hI.up ha ⟨_, hc, t_OB.to (V := updV (vp_V fs) k v) ⟨_, e1, q2, q3, t_set q4 hap hk v⟩ (fun j _ => vp_updV_set hl v j)⟩ e2 e3)
theorem hm_iald (hexec : p.tables.exec = Jvm.exec) (hb : c.code = cc) (hK : va_K D cl tys s) (hI : hm_I D cl kA A H0 h H locs) {kd t0 : Nat} (ht : tys[t0]? = some (kA kd, .int)) {r : Option Nat} {i x : Int32} (hg : hm_ai kd h r i = some x) (hdg : decode cc pc = .ok (.iaload, 1))
    (kk : W p l e R s m args below meth c H locs cells slots Q (F0 m (pc + 1) ls (.int x :: rest))) : W p l e R s m args below meth c H locs cells slots Q (F0 m pc ls (.int i :: va_rf r :: rest)) := by
  obtain ⟨a, n, f, rfl, ha, hi, rfl⟩ := hm_ai_s hg
  exact va_iald hexec hb hK (hm_one hI ha) 0 t0 rfl ht hi hdg kk
theorem hm_zald (hexec : p.tables.exec = Jvm.exec) (hb : c.code = cc) (hK : va_K D cl tys s) (hI : hm_I D cl kA A H0 h H locs) {kd t0 : Nat} (ht : tys[t0]? = some (kA kd, .boolean)) {r : Option Nat} {i x : Int32} (hg : hm_ai kd h r i = some x) (hdg : decode cc pc = .ok (.baload, 1))
    (kk : W p l e R s m args below meth c H locs cells slots Q (F0 m (pc + 1) ls (.int x :: rest))) : W p l e R s m args below meth c H locs cells slots Q (F0 m pc ls (.int i :: va_rf r :: rest)) := by
  obtain ⟨a, n, f, rfl, ha, hi, rfl⟩ := hm_ai_s hg
  exact va_zald hexec hb hK (hm_one hI ha) 0 t0 rfl ht hi hdg kk
theorem hm_aald (hexec : p.tables.exec = Jvm.exec) (hb : c.code = cc) (hK : va_K D cl tys s) (hI : hm_I D cl kA A H0 h H locs) {kd t0 : Nat} {C : String} (ht : tys[t0]? = some (kA kd, .object C)) {r x : Option Nat} {i : Int32} (hg : hm_aq kd h r i = some x) (hdg : decode cc pc = .ok (.aaload, 1))
    (kk : W p l e R s m args below meth c H locs cells slots Q (F0 m (pc + 1) ls (va_rf x :: rest))) : W p l e R s m args below meth c H locs cells slots Q (F0 m pc ls (.int i :: va_rf r :: rest)) := by
  obtain ⟨a, n, f, rfl, ha, hi, rfl⟩ := hm_aq_s hg
  exact va_aldq hexec hb hK (hm_one hI ha) 0 t0 rfl ht hi hdg kk
theorem hm_alen (hexec : p.tables.exec = Jvm.exec) (hb : c.code = cc) (hK : va_K D cl tys s) (hI : hm_I D cl kA A H0 h H locs) {kd t0 : Nat} {ty : FieldType} (ht : tys[t0]? = some (kA kd, ty)) {r : Option Nat} {x : Int32} (hg : hm_al kd h r = some x) (hdg : decode cc pc = .ok (.arraylength, 1))
    (kk : W p l e R s m args below meth c H locs cells slots Q (F0 m (pc + 1) ls (.int x :: rest))) : W p l e R s m args below meth c H locs cells slots Q (F0 m pc ls (va_rf r :: rest)) := by
  obtain ⟨a, v, rfl, ha, hx⟩ := hm_al_s hg
  exact va_alen hexec hb hK (hm_one hI ha) 0 t0 rfl ht hx hdg kk
theorem hm_iast (hexec : p.tables.exec = Jvm.exec) (hb : c.code = cc) (hK : va_K D cl tys s) (hI : hm_I D cl kA A H0 h H locs) {kd t0 : Nat} (ht : tys[t0]? = some (kA kd, .int)) {r : Option Nat} {i x : Int32} {h' : hm_H} (hg : hm_si kd h r i x = some h') (hdg : decode cc pc = .ok (.iastore, 1))
    (kk : ∀ (H1 : Heap) (locs1 : List Loc), hm_I D cl kA A H0 h' H1 locs1 → W p l e R s m args below meth c H1 locs1 cells slots Q (F0 m (pc + 1) ls rest)) : W p l e R s m args below meth c H locs cells slots Q (F0 m pc ls (.int x :: .int i :: va_rf r :: rest)) := by
  obtain ⟨a, n, f, rfl, ha, hi, rfl⟩ := hm_si_s hg
  have hc : H[a]? = some (vp_cell (kA kd) (n, .inl f)) := (hI.1.1 _ _ ha).1
  refine W.iast hexec hb hc ((hK.2 t0 _ ht).1 n (fun j => .int (f j))) (fun q => by cases q) (by show ¬ (i < 0 ∨ (arrV _ _ _).slots.size ≤ _); rw [arrV_size]; exact hi) rfl rfl hdg fun H1 e1 z oq => ?_
  refine kk H1 _ (hI.up ha ?_ z oq)
  show H1[a]? = some (vp_cell _ _)
  rw [e1, vp_cell_i, vp_cell_i, arrV_store]
  congr 2
  funext q
  by_cases hq : q = i.toNatClampNeg
  · subst hq
    simp [updV, upd]
  · simp [updV, upd, hq]
theorem hm_zast (hexec : p.tables.exec = Jvm.exec) (hb : c.code = cc) (hK : va_K D cl tys s) (hI : hm_I D cl kA A H0 h H locs) {kd t0 : Nat} (ht : tys[t0]? = some (kA kd, .boolean)) {r : Option Nat} {i x : Int32} {h' : hm_H} (hg : hm_si kd h r i (vp_nar .boolean x) = some h') (hdg : decode cc pc = .ok (.bastore, 1))
    (kk : ∀ (H1 : Heap) (locs1 : List Loc), hm_I D cl kA A H0 h' H1 locs1 → W p l e R s m args below meth c H1 locs1 cells slots Q (F0 m (pc + 1) ls rest)) : W p l e R s m args below meth c H locs cells slots Q (F0 m pc ls (.int x :: .int i :: va_rf r :: rest)) := by
  obtain ⟨a, n, f, rfl, ha, hi, rfl⟩ := hm_si_s hg
  have hc : H[a]? = some (vp_cell (kA kd) (n, .inl f)) := (hI.1.1 _ _ ha).1
  refine W.zast hexec hb hc ((hK.2 t0 _ ht).1 n (fun j => .int (f j))) (fun q => by cases q) (by show ¬ (i < 0 ∨ (arrV _ _ _).slots.size ≤ _); rw [arrV_size]; exact hi) rfl rfl hdg fun H1 e1 z oq => ?_
  refine kk H1 _ (hI.up ha ?_ z oq)
  show H1[a]? = some (vp_cell _ _)
  rw [e1, vp_cell_i, vp_cell_i, arrV_store]
  congr 2
  funext q
  by_cases hq : q = i.toNatClampNeg
  · subst hq
    simp [updV, upd, vp_nar]
    try rfl
  · simp [updV, upd, hq]
theorem hm_aast (hexec : p.tables.exec = Jvm.exec) (hb : c.code = cc) (hK : va_K D cl tys s) (hI : hm_I D cl kA A H0 h H locs) {kd t0 ci : Nat} {w : vw_C} (hc : cl[ci]? = some w) (ht : tys[t0]? = some (kA kd, .object w.1)) {r x : Option Nat} {i : Int32} {h' : hm_H} (hg : hm_sq kd ci h r i x = some h') (hdg : decode cc pc = .ok (.aastore, 1))
    (kk : ∀ (H1 : Heap) (locs1 : List Loc), hm_I D cl kA A H0 h' H1 locs1 → W p l e R s m args below meth c H1 locs1 cells slots Q (F0 m (pc + 1) ls rest)) : W p l e R s m args below meth c H locs cells slots Q (F0 m pc ls (va_rf x :: .int i :: va_rf r :: rest)) := by
  obtain ⟨a, n, v, f, vs, rfl, rfl, hv, ha, hin, rfl⟩ := hm_sq_s hg
  have hlt : i.toNatClampNeg < n := Nat.not_le.mp fun q => hin (Or.inr q)
  have h0 : ¬ i < 0 := fun q => hin (Or.inl q)
  obtain ⟨r', hr', cellV, g1, g2, g3, -⟩ := (hI.1.1 _ _ hv).1
  have hca : H[a]? = some (vp_cell (kA kd) (n, .inr (.inr (.inr (.inr f))))) := (hI.1.1 _ _ ha).1
  have hcls := (hK.1 ci w hc).2
  obtain ⟨kA', comp, k1, k2, k3, -⟩ := (hK.2 t0 _ ht).2
  have hcomp : comp = D.1 ci := Option.some.inj (k3.symm.trans hcls.1)
  subst hcomp
  obtain ⟨kC, hkC, -⟩ := hcls.2
  refine W.aast hexec hb hca (fun q h => by cases h) (fun h => by cases h) k1 k2 rfl hkC ⟨h0, by show _ < (arrV _ _ _).slots.size; rw [arrV_size]; exact hlt⟩ g1 (fun q h => by rw [g3] at h; cases h) (by rw [g2]; exact hkC) (by rw [g2]; exact va_assign hcls) rfl rfl hdg fun H1 e1 z oq => ?_
  refine kk H1 _ (hI.up ha ?_ z oq)
  show H1[a]? = some (vp_cell _ _)
  rw [e1, vp_cell_q, vp_cell_q, arrV_store]
  congr 2
  funext q
  by_cases hq : q = i.toNatClampNeg
  · subst hq
    simp [updV, va_up, va_rf]
  · simp [updV, va_up, hq]
theorem hm_new {c0 : Code} (hexec : p.tables.exec = Jvm.exec) (hb : c0.code = cc) {own C : String} {T : u_T} {N ci index : Nat} {Ts : List Cond} (hts : ∀ w ∈ Ts, w.before args s = true) (hin : ∀ w ∈ u_ws C T N, w ∈ Ts) (ty : Nat → FieldType) (hty : ∀ k, k < N → parseFieldDescriptor (T k).2.2.1 = some (ty k)) (hown : s.vm.findClass own = some m.cls) (hcl : (Cond.classLink own index C).before args s = true) (hinst : (Cond.instantiable C N).before args s = true) (hini : (Cond.initialized C).before args s = true)
    (hK : va_K D cl tys s) (hI : hm_I D cl kA A H0 h H locs) (hc : cl[ci]? = some (C, T, N)) {fs : List Value} (hfs : ∀ j, j < N → defaultValue (ty j) = vp_V fs j) (hcells : cells + 1 ≤ R.cells) (hslots : slots + N ≤ R.slots) (hdg : decode cc pc = .ok (.new index, 3))
    (kk : ∀ H1 : Heap, hm_I D cl kA A H0 (hm_n h (.inr (ci, fs))) H1 locs → W p l e R s m args below meth c0 H1 locs (cells + 1) (slots + N) Q (F0 m (pc + 3) ls (va_rf (some h.2) :: rest))) : W p l e R s m args below meth c0 H locs cells slots Q (F0 m pc ls rest) := by
  have hKn := hK.1 ci _ hc
  refine W.newcK hexec hb hown hcl hinst hini rfl hdg hcells hslots hKn.2.1 rfl fun H1 kC hkC e1 z1 o1 => ?_
  have h9 := kk H1 (hI.new (x := .inr (ci, fs)) ⟨_, hc, (u_born ty hts hin hKn hkC e1 hty).to hfs⟩ z1 o1)
  rw [← hI.1.2] at h9
  exact h9
theorem hm_newi (hexec : p.tables.exec = Jvm.exec) (hb : c.code = cc) {atype : ArrayType} {ty : FieldType} {kd t0 B : Nat} (harr : (Cond.arrayClass ty).before args s = true) (hty : newarray.typeOf atype = ty) (hd : defaultValue ty = .int 0) (hB : B * componentBytes ty ≤ 536870912) (hK : va_K D cl tys s) (hI : hm_I D cl kA A H0 h H locs) (ht : tys[t0]? = some (kA kd, ty)) (hnm : va_RA s (kA kd) ty → s.vm.findClass ("[" ++ ty.toString) = some (kA kd)) {n : Int32} {h' : hm_H} (hg : hm_ni kd B n h = some h') (hcells : cells + 1 ≤ R.cells) (hslots : slots + B ≤ R.slots) (hdg : decode cc pc = .ok (.newarray atype, 2))
    (kk : ∀ H1 : Heap, hm_I D cl kA A H0 h' H1 locs → W p l e R s m args below meth c H1 locs (cells + 1) (slots + B) Q (F0 m (pc + 2) ls (va_rf (some h.2) :: rest))) : W p l e R s m args below meth c H locs cells slots Q (F0 m pc ls (.int n :: rest)) := by
  subst hty
  unfold hm_ni at hg
  split at hg
  · rename_i hn
    cases hg
    refine va_newaK hexec hb harr rfl hdg rfl hn.1 rfl (Nat.le_trans (Nat.mul_le_mul_right _ hn.2) hB) hcells (by omega) rfl fun H1 cA e1 z1 o1 hAr hNm => ?_
    have hcA : cA = kA kd := Option.some.inj (hNm.symm.trans (hnm (hK.2 t0 _ ht).2))
    subst hcA
    refine W.widen (Nat.le_refl _) (Nat.add_le_add_left hn.2 slots) ?_
    have h9 := kk H1 (hI.new (x := .inl (kd, n.toNatClampNeg, .inl (fun _ => 0))) (by show H1[H.size]? = some (vp_cell _ _); rw [vp_cell_i, e1, hd]) z1 o1)
    rw [← hI.1.2] at h9
    exact h9
  · cases hg
theorem hm_newq (hexec : p.tables.exec = Jvm.exec) (hb : c.code = cc) {own C : String} {index kd t0 B : Nat} (hown : s.vm.findClass own = some m.cls) (hclink : (Cond.classLink own index C).before args s = true) (hover : va_AO C s) (hB : B * 4 ≤ 536870912) (hK : va_K D cl tys s) (hI : hm_I D cl kA A H0 h H locs) (ht : tys[t0]? = some (kA kd, .object C)) {n : Int32} {h' : hm_H} (hg : hm_nq kd B n h = some h') (hcells : cells + 1 ≤ R.cells) (hslots : slots + B ≤ R.slots) (hdg : decode cc pc = .ok (.anewarray index, 3))
    (kk : ∀ H1 : Heap, hm_I D cl kA A H0 h' H1 locs → W p l e R s m args below meth c H1 locs (cells + 1) (slots + B) Q (F0 m (pc + 3) ls (va_rf (some h.2) :: rest))) : W p l e R s m args below meth c H locs cells slots Q (F0 m pc ls (.int n :: rest)) := by
  unfold hm_nq at hg
  split at hg
  · rename_i hn
    cases hg
    refine W.anew hexec hb hown hclink (va_AO.use hover) rfl hdg rfl hn.1 (Nat.le_trans (Nat.mul_le_mul_right _ hn.2) hB) hcells (by omega) fun cA kA' comp f1 f2 f3 f4 => ?_
    obtain ⟨kA2, comp2, k1, k2, k3, k4⟩ := (hK.2 t0 _ ht).2
    have hcA : cA = kA kd := Option.some.inj (f1.symm.trans k4)
    subst hcA
    refine W.widen (Nat.le_refl _) (Nat.add_le_add_left hn.2 slots) ?_
    have h9 := kk _ (hI.new (x := .inl (kd, n.toNatClampNeg, .inr (.inr (.inr (.inr (fun _ => none)))))) (H1 := H.push ({ cls := kA kd, slots := Array.replicate n.toNatClampNeg .null, vm := .none } : Cell)) (by show _ = some (vp_cell _ _); rw [vp_cell_q, Array.getElem?_push_size]; exact congrArg some (arrV_new _ _ _)) (by rw [Array.size_push]) (fun q hq => by rw [Array.getElem?_push, if_neg (Nat.ne_of_lt hq)]))
    rw [← hI.1.2] at h9
    exact h9
  · cases hg
end HMW
end
section
/-! CALLS OVER MAPS -/
theorem hm_blind {D : va_G} {cl : List vw_C} {kA : Nat → ClassId} {A : Nat → Prop} {tys : List (ClassId × FieldType)} {h : hm_H} {as : List Value} : FrameBlind (va_Pc as (hm_B D cl kA A tys h)) :=
  fun a U g mk q => ⟨q.1, q.2.1, va_K.moved (u := U) (U := U.calling g mk a) (Vm.Alike.refl U.vm) q.2.2⟩
theorem hm_pre {D : va_G} {cl : List vw_C} {kA : Nat → ClassId} {A : Nat → Prop} {tys : List (ClassId × FieldType)} {h : hm_H} {as : List Value} {s : State} {H0 H : Heap} {locs : List Loc} (hK : va_K D cl tys s) (hI : hm_I D cl kA A H0 h H locs) : ∀ U : State, U.heap = H → s.WarmedH U.vm → va_Pc as (hm_B D cl kA (hm_A h) tys h) as.toArray U :=
  fun U hU hW => ⟨rfl, ⟨fun a x ha => by rw [hU]; exact ⟨(hI.1.1 a x ha).1, Or.inl ⟨x, ha⟩⟩, by rw [hU]; exact hI.1.2⟩, va_K.moved hW.alike hK⟩
section HMC
variable {p : Program} {l : Launch} {e : Env} {R : Room} {s : State} {m : MethodId} {args : Array Value} {below : List Frame} {meth : Method} {c : Code} {H : Heap} {locs : List Loc} {cells slots : Nat} {Q : State → Prop}
variable {cc : ByteArray} {pc : Nat} {ls : Array Slot} {rest : List Value} {D : va_G} {cl : List vw_C} {A : Nat → Prop} {tys : List (ClassId × FieldType)} {H0 : Heap} {kA : Nat → ClassId} {h h' : hm_H}
variable {y : MethodName} {bytes : ByteArray} {maxL nL mc ms n index : Nat} {ret : Option FieldType} {ws : List Cond} {rm : Room} {Ts : List Cond} {own C : String} {b : Nat} {As : List Value} {rv : Option Value} {st0 : List Value}
/-- behind a call -/
theorem hm_call {a : Array Value} (hr : va_Run p l e R s m args below meth c H locs cells slots mc ms (F0 m pc ls st0) rest (hm_Q D cl kA tys h rv h' a) (hm_A h)) (hI : hm_I D cl kA A H0 h H locs)
    (kk : ∀ (H1 : Heap) (locs1 : List Loc), hm_I D cl kA A H0 h' H1 locs1 → W p l e R s m args below meth c H1 locs1 (cells + mc) (slots + ms) Q (F0 m (pc + 3) ls (rv.toList ++ rest))) : W p l e R s m args below meth c H locs cells slots Q (F0 m pc ls st0) := by
  intro T hT X
  obtain ⟨v, st₀, t, T', L, h0, X', hL, e1, e2, ⟨hv, hB, hz, hk⟩, st⟩ := hr T hT X
  cases hv
  rw [h0] at hz hk
  have hAA : ∀ q, hm_A h q → A q := fun q hq => by
    rcases hq with ⟨x, hx⟩ | hq
    · exact (hI.1.1 q x hx).2
    · exact hI.2.2 q (Nat.le_trans hI.2.1.1 (by rw [hI.1.2]; exact hq))
  obtain ⟨t2, a1, b1⟩ := kk T'.heap (locs ++ L) ⟨⟨fun q x hq => by rw [e1]; exact ⟨(hB.1.1 q x hq).1, hAA q (hB.1.1 q x hq).2⟩, by rw [e1]; exact hB.1.2⟩,
    ⟨Nat.le_trans hI.2.1.1 (by rw [e1]; exact hz), fun q h1 h2 => by rw [e1, hk q (Nat.lt_of_lt_of_le h1 hI.2.1.1) (fun z => h2 (hAA q z))]; exact hI.2.1.2.1 q h1 h2, fun q hq => by
      rcases List.mem_append.mp hq with h9 | h9
      · exact hI.2.1.2.2 q h9
      · exact hAA _ (hL q h9)⟩, hI.2.2⟩ T' rfl X'
  exact ⟨t2, st t2 a1, b1⟩
theorem hm_cV (S : CallFix p m c cc nL s args Ts own) (hK : va_K D cl tys s) (hI : hm_I D cl kA A H0 h H locs) {r : Option Nat} {ci : Nat} {w : vw_C} (hb : hm_rc ci h r = some b) (hc : cl[ci]? = some w) (hw : w.1 = C) (hM : hm_C l y ws rm D cl kA tys (.ref b :: As) h rv h' mc ms) (cw : CallW R s args own C index y bytes maxL ret ws rm mc ms n)
    (hn : As.length = n) (hsize : ls.size = nL) (hstack : st0 = As.reverse ++ va_rf r :: rest) (hW : (rest.map fun v => v.category).sum ≤ 8) (hdg : decode cc pc = .ok (.invokevirtual index, 3)) (hf : cells + mc ≤ R.cells ∧ slots + ms ≤ R.slots)
    (kk : ∀ (H1 : Heap) (locs1 : List Loc), hm_I D cl kA A H0 h' H1 locs1 → W p l e R s m args below meth c H1 locs1 (cells + mc) (slots + ms) Q (F0 m (pc + 3) ls (rv.toList ++ rest))) : W p l e R s m args below meth c H locs cells slots Q (F0 m pc ls st0) := by
  obtain ⟨rfl, fs, hx⟩ := hm_rc_s hb
  subst hw
  obtain ⟨w', hw', cell, g1, g2, g3, -⟩ := (hI.1.1 _ _ hx).1
  refine hm_call (va_runV S hM cw ⟨hm_blind, ⟨cell, g1, by rw [g3]; rfl, by rw [g2]; exact (hK.1 ci _ hc).2.1⟩, hm_pre hK hI⟩ rfl hn hsize hstack (lv_room hW) hdg hf) hI kk
theorem hm_cS (S : CallFix p m c cc nL s args Ts own) (hK : va_K D cl tys s) (hI : hm_I D cl kA A H0 h H locs) (hM : hm_C l y ws rm D cl kA tys As h rv h' mc ms) (cw : CallB R s args own index y bytes maxL ret ws rm mc ms n ∧ (Cond.static y).before args s = true)
    (hn : As.length = n) (hsize : ls.size = nL) (hstack : st0 = As.reverse ++ rest) (hW : (rest.map fun v => v.category).sum ≤ 8) (hdg : decode cc pc = .ok (.invokestatic index, 3)) (hf : cells + mc ≤ R.cells ∧ slots + ms ≤ R.slots)
    (kk : ∀ (H1 : Heap) (locs1 : List Loc), hm_I D cl kA A H0 h' H1 locs1 → W p l e R s m args below meth c H1 locs1 (cells + mc) (slots + ms) Q (F0 m (pc + 3) ls (rv.toList ++ rest))) : W p l e R s m args below meth c H locs cells slots Q (F0 m pc ls st0) :=
  hm_call (va_runS S hM cw ⟨hm_blind, hm_pre hK hI⟩ rfl hn hsize hstack (lv_room hW) hdg hf) hI kk
theorem hm_cI (S : CallFix p m c cc nL s args Ts own) (hK : va_K D cl tys s) (hI : hm_I D cl kA A H0 h H locs) (hM : hm_C l y ws rm D cl kA tys (.ref b :: As) h rv h' mc ms) (cw : CallB R s args own index y bytes maxL none ws rm mc ms n ∧ y.name = "<init>" ∧ (Cond.instanceMethod y).before args s = true)
    (hn : As.length = n) (hsize : ls.size = nL) (hstack : st0 = As.reverse ++ .ref b :: rest) (hW : (rest.map fun v => v.category).sum ≤ 8) (hdg : decode cc pc = .ok (.invokespecial index, 3)) (hf : cells + mc ≤ R.cells ∧ slots + ms ≤ R.slots)
    (kk : ∀ (H1 : Heap) (locs1 : List Loc), hm_I D cl kA A H0 h' H1 locs1 → W p l e R s m args below meth c H1 locs1 (cells + mc) (slots + ms) Q (F0 m (pc + 3) ls (rv.toList ++ rest))) : W p l e R s m args below meth c H locs cells slots Q (F0 m pc ls st0) :=
  hm_call (va_runI S hM cw ⟨hm_blind, hm_pre hK hI⟩ rfl hn hsize hstack (lv_room hW) hdg hf) hI kk
/-- ends -/
theorem hm_vret {f0 : hm_H} (hexec : p.tables.exec = Jvm.exec) (hb : c.code = cc) (hr : meth.sig.returnType = none) (hlocks : meth.locks = false) (hK : va_K D cl tys s) (hI : hm_I D cl kA (hm_A f0) s.heap h' H locs) (hc : cells ≤ mc) (hs : slots ≤ ms) (hdg : decode cc pc = .ok (.return_, 1)) :
    W p l e R s m args below meth c H locs cells slots (MQ below (hm_Q D cl kA tys f0 none h') args s mc ms (hm_A f0)) (F0 m pc ls []) :=
  W.widen hc hs (W.vret hexec hb hr (fun t ht hW => ⟨rfl, hm_end hK hI ht hW⟩) hI.2.1.2.2 hdg hlocks)
theorem hm_iret {f0 : hm_H} {v : Int32} (hexec : p.tables.exec = Jvm.exec) (hb : c.code = cc) (hr : meth.sig.returnType = some .int) (hlocks : meth.locks = false) (hK : va_K D cl tys s) (hI : hm_I D cl kA (hm_A f0) s.heap h' H locs) (hc : cells ≤ mc) (hs : slots ≤ ms) (hdg : decode cc pc = .ok (.ireturn, 1)) :
    W p l e R s m args below meth c H locs cells slots (MQ below (hm_Q D cl kA tys f0 (some (.int v)) h') args s mc ms (hm_A f0)) (F0 m pc ls [.int v]) :=
  W.widen hc hs (W.iret hexec hb hr (fun t ht hW => ⟨rfl, hm_end hK hI ht hW⟩) hI.2.1.2.2 hdg hlocks)
/-- a boolean's return: the answer is 0 or 1 -/
theorem hm_zret {f0 : hm_H} {v : Int32} (hexec : p.tables.exec = Jvm.exec) (hb : c.code = cc) (hr : meth.sig.returnType = some .boolean) (hlocks : meth.locks = false) (hK : va_K D cl tys s) (hI : hm_I D cl kA (hm_A f0) s.heap h' H locs) (hc : cells ≤ mc) (hs : slots ≤ ms) (hn : narrow .boolean (.int v) = .int v) (hdg : decode cc pc = .ok (.ireturn, 1)) :
    W p l e R s m args below meth c H locs cells slots (MQ below (hm_Q D cl kA tys f0 (some (.int v)) h') args s mc ms (hm_A f0)) (F0 m pc ls [.int v]) :=
  W.widen hc hs (W.zret hexec hb hr hn (fun t ht hW => ⟨rfl, hm_end hK hI ht hW⟩) hI.2.1.2.2 hdg hlocks)
theorem hm_lret {f0 : hm_H} {v : Int64} (hexec : p.tables.exec = Jvm.exec) (hb : c.code = cc) (hr : meth.sig.returnType = some .long) (hlocks : meth.locks = false) (hK : va_K D cl tys s) (hI : hm_I D cl kA (hm_A f0) s.heap h' H locs) (hc : cells ≤ mc) (hs : slots ≤ ms) (hdg : decode cc pc = .ok (.lreturn, 1)) :
    W p l e R s m args below meth c H locs cells slots (MQ below (hm_Q D cl kA tys f0 (some (.long v)) h') args s mc ms (hm_A f0)) (F0 m pc ls [.long v]) :=
  W.widen hc hs (W.lret hexec hb hr (fun t ht hW => ⟨rfl, hm_end hK hI ht hW⟩) hI.2.1.2.2 hdg hlocks)
theorem hm_aret {f0 : hm_H} {v : Option Nat} {C : String} (hexec : p.tables.exec = Jvm.exec) (hb : c.code = cc) (hr : meth.sig.returnType = some (.object C)) (hlocks : meth.locks = false) (hK : va_K D cl tys s) (hI : hm_I D cl kA (hm_A f0) s.heap h' H locs) (hc : cells ≤ mc) (hs : slots ≤ ms) (hdg : decode cc pc = .ok (.areturn, 1)) :
    W p l e R s m args below meth c H locs cells slots (MQ below (hm_Q D cl kA tys f0 (some (va_rf v)) h') args s mc ms (hm_A f0)) (F0 m pc ls [va_rf v]) :=
  W.widen hc hs (W.aret hexec hb hr (Or.inl ⟨C, rfl⟩) (by cases v with | none => exact Or.inl rfl | some a => exact Or.inr ⟨a, rfl⟩) (fun t ht hW => ⟨rfl, hm_end hK hI ht hW⟩) hI.2.1.2.2 hdg hlocks)
theorem hm_copy (hexec : p.tables.exec = Jvm.exec) (hb : c.code = cc) (hml : c.maxLocals = ls.size) (hown : s.vm.findClass own = some m.cls) (hlink : (Cond.methodLink own index arraycopyName).before args s = true) (hnat : (Cond.native arraycopyName).before args s = true) (hstat : (Cond.static arraycopyName).before args s = true) (hini : (Cond.initialized "java/lang/System").before args s = true)
    (hK : va_K D cl tys s) (hI : hm_I D cl kA A H0 h H locs) {t0 : Nat} (ht : tys[t0]? = some (kA 0, .int)) {r r2 : Option Nat} {sp dp n : Int32} (hg : hm_cp h r sp r2 dp n = some h')
    (hframes : 1 ≤ R.frames) (hlocals : (rest.map fun v => v.category).sum + (nativeFrameWords "java/lang/System" "arraycopy" 5 + 11) ≤ R.locals) (hdg : decode cc pc = .ok (.invokestatic index, 3))
    (kk : ∀ (H1 : Heap) (locs1 : List Loc), hm_I D cl kA A H0 h' H1 locs1 → W p l e R s m args below meth c H1 locs1 cells slots Q (F0 m (pc + 3) ls rest)) : W p l e R s m args below meth c H locs cells slots Q (F0 m pc ls (.int n :: .int dp :: va_rf r2 :: .int sp :: va_rf r :: rest)) := by
  obtain ⟨a0, a, n0, n1, f, g, rfl, rfl, ha0, ha1, ⟨h1, h2, h3⟩, h4, h5, rfl⟩ := hm_cp_s hg
  have nn : ∀ z : Int32, ¬ z < 0 → z.toInt = (z.toNatClampNeg : Int) := by
    intro z hz
    have hz0 : (0 : Int) ≤ z.toInt := by
      have := Int32.not_lt.mp hz
      simpa using Int32.le_iff_toInt_le.mp this
    show z.toInt = ((z.toInt.toNat : Nat) : Int)
    omega
  intro T hT X
  have hc0 : H[a0]? = some (vp_cell (kA 0) (n0, .inl f)) := (hI.1.1 _ _ ha0).1
  have hc1 : H[a]? = some (vp_cell (kA 0) (n1, .inl g)) := (hI.1.1 _ _ ha1).1
  obtain ⟨-, k0, hk0, cm0, hkk0⟩ := (hK.2 t0 _ ht).1 n0 (fun j => .int (f j))
  obtain ⟨-, k1, hk1, cm1, hkk1⟩ := (hK.2 t0 _ ht).1 n1 (fun j => .int (g j))
  obtain ⟨vm', X', step⟩ := X.arraycopy hexec hown hlink hnat hstat hini (src := a0) (dst := a) (cs := vp_cell (kA 0) (n0, .inl f)) (cd := vp_cell (kA 0) (n1, .inl g)) (srcPos := sp) (destPos := dp) (n := n) (by rw [hT]; exact hc0) (by rw [hT]; exact hc1)
    (fun _ h => by cases h) (fun _ h => by cases h) (fun h => by cases h) (fun h => by cases h) hk0 hk1 hkk0 hkk1 (by simp [refKind]) h1 h2 h3
    (by rw [nn sp h1, nn n h3]; show ¬ _ > ((arrV (kA 0) n0 (fun j => .int (f j))).slots.size : Int); rw [arrV_size]; omega)
    (by rw [nn dp h2, nn n h3]; show ¬ _ > ((arrV (kA 0) n1 (fun j => .int (g j))).slots.size : Int); rw [arrV_size]; omega)
    (fun vm₁ _ i hi => by
      have e : (vp_cell (kA 0) (n0, .inl f)).slots.getD (sp.toNatClampNeg + i) .null = .int (f (sp.toNatClampNeg + i)) := by
        show (arrV (kA 0) n0 (fun j => .int (f j))).slots.getD _ _ = _
        rw [Array.getD_eq_getD_getElem?, arrV_read _ _ (by omega)]
        rfl
      refine ⟨?_, ?_⟩
      · rw [e]
        rfl
      · rw [e]
        exact trivial)
    (g := F0 m pc ls (.int n :: .int dp :: .ref a :: .int sp :: .ref a0 :: rest)) rfl (by rw [hml]) (rest := rest) rfl (by rw [hb]; exact hdg) hframes (by show 2 * 0 + _ + _ ≤ _; omega)
  have e1 : copied (vp_cell (kA 0) (n0, .inl f)) (vp_cell (kA 0) (n1, .inl g)) sp dp n = vp_cell (kA 0) (n1, .inl (va_cpy f g sp.toNatClampNeg dp.toNatClampNeg n.toNatClampNeg)) := va_copied (fun z => .int z) (kA 0) (kA 0) f g h4
  rw [e1] at X' step
  generalize hfc : va_cpy f g sp.toNatClampNeg dp.toNatClampNeg n.toNatClampNeg = fc at *
  have hl : a < H.size := (Array.getElem?_eq_some_iff.mp hc1).1
  have hheap : ((T.setVm vm').setCell a (vp_cell (kA 0) (n1, .inl fc))).heap = H.setIfInBounds a (vp_cell (kA 0) (n1, .inl fc)) := by rw [← hT]; rfl
  have oq : ∀ q : Nat, q ≠ a → (H.setIfInBounds a (vp_cell (kA 0) (n1, .inl fc)))[q]? = H[q]? := fun q hq => by simp [Array.getElem?_setIfInBounds, Ne.symm hq]
  have hI1 := hI.up (k := 0) (x := .inl (0, n1, .inl fc)) (H1 := H.setIfInBounds a (vp_cell (kA 0) (n1, .inl fc))) ha1 (show (H.setIfInBounds a _)[a]? = some _ by simp [Array.getElem?_setIfInBounds, hl]) (by simp) oq
  obtain ⟨t, a1, b1⟩ := kk _ _ ⟨hI1.1, ⟨hI1.2.1.1, hI1.2.1.2.1, fun q hq => by
      rcases List.mem_append.mp hq with h9 | h9
      · exact hI.2.1.2.2 q h9
      · obtain ⟨z, -, hz⟩ := List.mem_map.mp h9
        rw [← hz]
        exact (hI.1.1 _ _ ha1).2⟩, hI.2.2⟩ _ hheap X'
  exact ⟨t, step t a1, b1⟩
theorem hm_vret_e {f0 h1 : hm_H} (he : some h1 = some h') (hexec : p.tables.exec = Jvm.exec) (hb : c.code = cc) (hr : meth.sig.returnType = none) (hlocks : meth.locks = false) (hK : va_K D cl tys s) (hI : hm_I D cl kA (hm_A f0) s.heap h1 H locs) (hc : cells ≤ mc) (hs : slots ≤ ms) (hdg : decode cc pc = .ok (.return_, 1)) :
    W p l e R s m args below meth c H locs cells slots (MQ below (hm_Q D cl kA tys f0 none h') args s mc ms (hm_A f0)) (F0 m pc ls []) := by
  cases he
  exact hm_vret hexec hb hr hlocks hK hI hc hs hdg
theorem hm_iret_e {f0 h1 : hm_H} {v w : Int32} (he : some (v, h1) = some (w, h')) (hexec : p.tables.exec = Jvm.exec) (hb : c.code = cc) (hr : meth.sig.returnType = some .int) (hlocks : meth.locks = false) (hK : va_K D cl tys s) (hI : hm_I D cl kA (hm_A f0) s.heap h1 H locs) (hc : cells ≤ mc) (hs : slots ≤ ms) (hdg : decode cc pc = .ok (.ireturn, 1)) :
    W p l e R s m args below meth c H locs cells slots (MQ below (hm_Q D cl kA tys f0 (some (.int w)) h') args s mc ms (hm_A f0)) (F0 m pc ls [.int v]) := by
  cases he
  exact hm_iret hexec hb hr hlocks hK hI hc hs hdg
theorem hm_zret_e {f0 h1 : hm_H} {v w : Int32} (he : some (v, h1) = some (w, h')) (hexec : p.tables.exec = Jvm.exec) (hb : c.code = cc) (hr : meth.sig.returnType = some .boolean) (hlocks : meth.locks = false) (hK : va_K D cl tys s) (hI : hm_I D cl kA (hm_A f0) s.heap h1 H locs) (hc : cells ≤ mc) (hs : slots ≤ ms) (hn : narrow .boolean (.int v) = .int v) (hdg : decode cc pc = .ok (.ireturn, 1)) :
    W p l e R s m args below meth c H locs cells slots (MQ below (hm_Q D cl kA tys f0 (some (.int w)) h') args s mc ms (hm_A f0)) (F0 m pc ls [.int v]) := by
  cases he
  exact hm_zret hexec hb hr hlocks hK hI hc hs hn hdg
theorem hm_lret_e {f0 h1 : hm_H} {v w : Int64} (he : some (v, h1) = some (w, h')) (hexec : p.tables.exec = Jvm.exec) (hb : c.code = cc) (hr : meth.sig.returnType = some .long) (hlocks : meth.locks = false) (hK : va_K D cl tys s) (hI : hm_I D cl kA (hm_A f0) s.heap h1 H locs) (hc : cells ≤ mc) (hs : slots ≤ ms) (hdg : decode cc pc = .ok (.lreturn, 1)) :
    W p l e R s m args below meth c H locs cells slots (MQ below (hm_Q D cl kA tys f0 (some (.long w)) h') args s mc ms (hm_A f0)) (F0 m pc ls [.long v]) := by
  cases he
  exact hm_lret hexec hb hr hlocks hK hI hc hs hdg
theorem hm_aret_e {f0 h1 : hm_H} {v w : Option Nat} {C : String} (he : some (v, h1) = some (w, h')) (hexec : p.tables.exec = Jvm.exec) (hb : c.code = cc) (hr : meth.sig.returnType = some (.object C)) (hlocks : meth.locks = false) (hK : va_K D cl tys s) (hI : hm_I D cl kA (hm_A f0) s.heap h1 H locs) (hc : cells ≤ mc) (hs : slots ≤ ms) (hdg : decode cc pc = .ok (.areturn, 1)) :
    W p l e R s m args below meth c H locs cells slots (MQ below (hm_Q D cl kA tys f0 (some (va_rf w)) h') args s mc ms (hm_A f0)) (F0 m pc ls [va_rf v]) := by
  cases he
  exact hm_aret hexec hb hr hlocks hK hI hc hs hdg
theorem hm_ti {x y : Int32} (he : y = x) (kk : W p l e R s m args below meth c H locs cells slots Q (F0 m pc ls (.int y :: rest))) : W p l e R s m args below meth c H locs cells slots Q (F0 m pc ls (.int x :: rest)) := by
  subst he
  exact kk
theorem hm_tj {x y : Int64} (he : y = x) (kk : W p l e R s m args below meth c H locs cells slots Q (F0 m pc ls (.long y :: rest))) : W p l e R s m args below meth c H locs cells slots Q (F0 m pc ls (.long x :: rest)) := by
  subst he
  exact kk
end HMC
theorem hm_nqo {C : String} {r : Option Nat} : narrow (.object C) (va_rf r) = va_rf r := by cases r <;> rfl
theorem hm_fqo {C : String} {r : Option Nat} : fits (.object C) (va_rf r) = true := by cases r <;> rfl
theorem hm_nqa {t : FieldType} {r : Option Nat} : narrow (.array t) (va_rf r) = va_rf r := by cases r <;> rfl
theorem hm_fqa {t : FieldType} {r : Option Nat} : fits (.array t) (va_rf r) = true := by cases r <;> rfl
theorem hm_neI {x y : Int32} (h : ¬ x = y) : x.toInt ≠ y.toInt := fun q => h (Int32.toInt_inj.mp q)
/-- a loop, by its fuel -/
def hm_loop {T : Type} (dead : T) (F : T → T) : Nat → T
  | 0 => dead
  | n + 1 => F (hm_loop dead F n)
theorem hm_loop_s {T : Type} (dead : T) (F : T → T) (n : Nat) : hm_loop dead F (n + 1) = F (hm_loop dead F n) := rfl
def hm_fu : Nat := 20000
end
