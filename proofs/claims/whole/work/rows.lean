section
/-! THE HEAP AS A MAP: a cell's contents by its address, and the next address. An array has the number of its kind (0: int, 1: boolean, from 2 on: of references), an object the number of its class in 'classes'. -/
abbrev hm_E : Type := (Nat × vp_A) ⊕ (Nat × List Value)
abbrev hm_H : Type := (Nat → Option hm_E) × Nat
def hm_tr (kA : Nat → ClassId) (e : hm_E) : va_E := match e with
  | .inl x => .inl (kA x.1, x.2)
  | .inr o => .inr o
/-- the machine's heap holds the map -/
def hm_P (D : va_G) (cl : List vw_C) (kA : Nat → ClassId) (A : Nat → Prop) (h : hm_H) (H : Heap) : Prop := (∀ (a : Nat) (x : hm_E), h.1 a = some x → va_at D cl (a, hm_tr kA x) H ∧ A a) ∧ H.size = h.2
def hm_I (D : va_G) (cl : List vw_C) (kA : Nat → ClassId) (A : Nat → Prop) (H0 : Heap) (h : hm_H) (H : Heap) (locs : List Loc) : Prop :=
  hm_P D cl kA A h H ∧ va_S A H0 H locs ∧ ∀ q : Nat, H0.size ≤ q → A q
/-- a method's own part: the cells of its map, and those that come -/
def hm_A (h : hm_H) : Nat → Prop := fun q => (∃ x, h.1 q = some x) ∨ h.2 ≤ q
def hm_B (D : va_G) (cl : List vw_C) (kA : Nat → ClassId) (A : Nat → Prop) (tys : List (ClassId × FieldType)) (h : hm_H) (U : State) : Prop :=
  hm_P D cl kA A h U.heap ∧ va_K D cl tys U
def hm_Q (D : va_G) (cl : List vw_C) (kA : Nat → ClassId) (tys : List (ClassId × FieldType)) (h : hm_H) (rv : Option Value) (h' : hm_H) : Array Value → State → Outcome → State → Prop := fun _ st oc t =>
  oc = .returned rv ∧ hm_B D cl kA (hm_A h) tys h' t ∧ va_F (hm_A h) st t
/-- a method's contract over maps -/
def hm_C (l : Launch) (y : MethodName) (ws : List Cond) (rm : Room) (D : va_G) (cl : List vw_C) (kA : Nat → ClassId) (tys : List (ClassId × FieldType)) (as : List Value) (h : hm_H) (rv : Option Value) (h' : hm_H) (mc ms : Nat) : Prop :=
  Met l y ws rm (va_Pc as (hm_B D cl kA (hm_A h) tys h)) (hm_Q D cl kA tys h rv h') mc ms (hm_A h)
theorem hm_start {D : va_G} {cl : List vw_C} {kA : Nat → ClassId} {tys : List (ClassId × FieldType)} {h : hm_H} {U : State} (hB : hm_B D cl kA (hm_A h) tys h U) : hm_I D cl kA (hm_A h) U.heap h U.heap [] :=
  ⟨hB.1, va_S.rf, fun q hq => Or.inr (by rw [← hB.1.2]; exact hq)⟩
theorem hm_end {D : va_G} {cl : List vw_C} {kA : Nat → ClassId} {tys : List (ClassId × FieldType)} {h h' : hm_H} {s t : State} {H : Heap} {locs : List Loc} (hK : va_K D cl tys s) (hI : hm_I D cl kA (hm_A h) s.heap h' H locs) (ht : t.heap = H) (hW : s.WarmedH t.vm) : hm_B D cl kA (hm_A h) tys h' t ∧ va_F (hm_A h) s t :=
  ⟨⟨by rw [ht]; exact hI.1, va_K.moved hW.alike hK⟩, hI.2.1.F ht⟩
theorem hm_I.up {D : va_G} {cl : List vw_C} {kA : Nat → ClassId} {A : Nat → Prop} {H0 H H1 : Heap} {h : hm_H} {locs : List Loc} {a k : Nat} {x0 x : hm_E} (hI : hm_I D cl kA A H0 h H locs) (ha : h.1 a = some x0) (hx : va_at D cl (a, hm_tr kA x) H1) (hz : H1.size = H.size) (oq : ∀ q : Nat, q ≠ a → H1[q]? = H[q]?) : hm_I D cl kA A H0 (va_up h.1 a (some x), h.2) H1 (locs ++ [⟨a, k⟩]) := by
  obtain ⟨⟨hP, hs⟩, hS, hA⟩ := hI
  refine ⟨⟨fun b y hb => ?_, hz.trans hs⟩, hS.put hz oq (hP a x0 ha).2, hA⟩
  by_cases hab : b = a
  · subst hab
    have hb : va_up h.1 b (some x) b = some y := hb
    rw [va_up_self] at hb
    cases hb
    exact ⟨hx, (hP b x0 ha).2⟩
  · have hb : va_up h.1 a (some x) b = some y := hb
    rw [va_up_ne _ _ hab] at hb
    exact ⟨(hP b y hb).1.kept (oq b hab), (hP b y hb).2⟩
theorem hm_I.new {D : va_G} {cl : List vw_C} {kA : Nat → ClassId} {A : Nat → Prop} {H0 H H1 : Heap} {h : hm_H} {locs : List Loc} {x : hm_E} (hI : hm_I D cl kA A H0 h H locs) (hx : va_at D cl (H.size, hm_tr kA x) H1) (hz : H1.size = H.size + 1) (oq : ∀ q : Nat, q < H.size → H1[q]? = H[q]?) : hm_I D cl kA A H0 (va_up h.1 h.2 (some x), h.2 + 1) H1 locs := by
  obtain ⟨⟨hP, hs⟩, hS, hA⟩ := hI
  refine ⟨⟨fun b y hb => ?_, by rw [hz, hs]⟩, ⟨Nat.le_trans hS.1 (by omega), fun q h1 h2 => (oq q (Nat.lt_of_lt_of_le h1 hS.1)).trans (hS.2.1 q h1 h2), hS.2.2⟩, hA⟩
  have hb : va_up h.1 h.2 (some x) b = some y := hb
  by_cases hab : b = h.2
  · subst hab
    rw [va_up_self] at hb
    cases hb
    rw [← hs]
    exact ⟨hx, hA _ hS.1⟩
  · rw [va_up_ne _ _ hab] at hb
    have h9 := hP b y hb
    exact ⟨h9.1.kept (oq b h9.1.lt), h9.2⟩
/-! reads and writes of the map -/
def hm_g (ci k : Nat) (h : hm_H) (r : Option Nat) : Option Value := match r with
  | none => none
  | some a => match h.1 a with
    | some (.inr o) => if o.1 = ci then o.2[k]? else none
    | _ => none
def hm_gi (ci k : Nat) (h : hm_H) (r : Option Nat) : Option Int32 := match hm_g ci k h r with
  | some (.int x) => some x
  | _ => none
def hm_gl (ci k : Nat) (h : hm_H) (r : Option Nat) : Option Int64 := match hm_g ci k h r with
  | some (.long x) => some x
  | _ => none
def hm_gq (ci k : Nat) (h : hm_H) (r : Option Nat) : Option (Option Nat) := match hm_g ci k h r with
  | some (.ref x) => some (some x)
  | some .null => some none
  | _ => none
def hm_p (ci k : Nat) (v : Value) (h : hm_H) (r : Option Nat) : Option hm_H := match r with
  | none => none
  | some a => match h.1 a with
    | some (.inr o) => if o.1 = ci ∧ k < o.2.length then some (va_up h.1 a (some (.inr (ci, o.2.set k v))), h.2) else none
    | _ => none
/-- the receiver is there, of its class -/
def hm_rc (ci : Nat) (h : hm_H) (r : Option Nat) : Option Nat := match r with
  | none => none
  | some a => match h.1 a with
    | some (.inr o) => if o.1 = ci then some a else none
    | _ => none
def hm_ai (kd : Nat) (h : hm_H) (r : Option Nat) (i : Int32) : Option Int32 := match r with
  | none => none
  | some a => match h.1 a with
    | some (.inl (kd', n, .inl f)) => if kd' = kd ∧ ¬ (i < 0 ∨ n ≤ i.toNatClampNeg) then some (f i.toNatClampNeg) else none
    | _ => none
def hm_si (kd : Nat) (h : hm_H) (r : Option Nat) (i x : Int32) : Option hm_H := match r with
  | none => none
  | some a => match h.1 a with
    | some (.inl (kd', n, .inl f)) => if kd' = kd ∧ ¬ (i < 0 ∨ n ≤ i.toNatClampNeg) then some (va_up h.1 a (some (.inl (kd, n, .inl (upd f i.toNatClampNeg x)))), h.2) else none
    | _ => none
def hm_aq (kd : Nat) (h : hm_H) (r : Option Nat) (i : Int32) : Option (Option Nat) := match r with
  | none => none
  | some a => match h.1 a with
    | some (.inl (kd', n, .inr (.inr (.inr (.inr f))))) => if kd' = kd ∧ ¬ (i < 0 ∨ n ≤ i.toNatClampNeg) then some (f i.toNatClampNeg) else none
    | _ => none
def hm_sq (kd ci : Nat) (h : hm_H) (r : Option Nat) (i : Int32) (x : Option Nat) : Option hm_H := match r with
  | none => none
  | some a => match hm_rc ci h x with
    | none => none
    | some v => match h.1 a with
      | some (.inl (kd', n, .inr (.inr (.inr (.inr f))))) => if kd' = kd ∧ ¬ (i < 0 ∨ n ≤ i.toNatClampNeg) then some (va_up h.1 a (some (.inl (kd, n, .inr (.inr (.inr (.inr (va_up f i.toNatClampNeg (some v)))))))), h.2) else none
      | _ => none
def hm_al (kd : Nat) (h : hm_H) (r : Option Nat) : Option Int32 := match r with
  | none => none
  | some a => match h.1 a with
    | some (.inl (kd', x)) => if kd' = kd then some (Int32.ofNat x.1) else none
    | _ => none
def hm_n (h : hm_H) (e : hm_E) : hm_H := (va_up h.1 h.2 (some e), h.2 + 1)
/-- a new array of numbers, of at most B places -/
def hm_ni (kd B : Nat) (n : Int32) (h : hm_H) : Option hm_H := if ¬ n < 0 ∧ n.toNatClampNeg ≤ B then some (hm_n h (.inl (kd, n.toNatClampNeg, .inl (fun _ => 0)))) else none
def hm_nq (kd B : Nat) (n : Int32) (h : hm_H) : Option hm_H := if ¬ n < 0 ∧ n.toNatClampNeg ≤ B then some (hm_n h (.inl (kd, n.toNatClampNeg, .inr (.inr (.inr (.inr (fun _ => none))))))) else none
/-- System.arraycopy of ints -/
def hm_cp (h : hm_H) (r : Option Nat) (sp : Int32) (r2 : Option Nat) (dp n : Int32) : Option hm_H := match r, r2 with
  | some a, some b => match h.1 a, h.1 b with
    | some (.inl (kd, n0, .inl f)), some (.inl (kd', n1, .inl g)) => if (kd = 0 ∧ kd' = 0) ∧ (¬ sp < 0 ∧ ¬ dp < 0 ∧ ¬ n < 0) ∧ sp.toNatClampNeg + n.toNatClampNeg ≤ n0 ∧ dp.toNatClampNeg + n.toNatClampNeg ≤ n1 then some (va_up h.1 b (some (.inl (0, n1, .inl (va_cpy f g sp.toNatClampNeg dp.toNatClampNeg n.toNatClampNeg)))), h.2) else none
    | _, _ => none
  | _, _ => none
/-! binds that a walk can open -/
def hm_b {α γ : Type} (x : Option α) (k : α → Option γ) : Option γ := match x with
  | none => none
  | some a => k a
def hm_b2 {α β γ : Type} (x : Option (α × β)) (k : α → β → Option γ) : Option γ := match x with
  | none => none
  | some p => k p.1 p.2
def hm_let {α γ : Type} (x : α) (k : α → γ) : γ := k x
theorem hm_b_s {α γ : Type} {x : Option α} {k : α → Option γ} {z : γ} (h : hm_b x k = some z) : ∃ a, x = some a ∧ k a = some z := by
  cases x with
  | none => cases h
  | some a => exact ⟨a, rfl, h⟩
theorem hm_b2_s {α β γ : Type} {x : Option (α × β)} {k : α → β → Option γ} {z : γ} (h : hm_b2 x k = some z) : ∃ a b, x = some (a, b) ∧ k a b = some z := by
  cases x with
  | none => cases h
  | some p => exact ⟨p.1, p.2, rfl, h⟩
theorem hm_let_s {α γ : Type} {x : α} {k : α → Option γ} {z : γ} (h : hm_let x k = some z) : ∃ a, a = x ∧ k a = some z := ⟨x, rfl, h⟩
end
section
/-! THE MACHINE'S ROWS OVER MAPS -/
theorem hm_g_s {ci k : Nat} {h : hm_H} {r : Option Nat} {v : Value} (hg : hm_g ci k h r = some v) : ∃ (a : Nat) (fs : List Value), r = some a ∧ h.1 a = some (.inr (ci, fs)) ∧ fs[k]? = some v := by
  cases r with
  | none => cases hg
  | some a =>
    simp only [hm_g] at hg
    split at hg
    · rename_i o ho
      split at hg
      · rename_i hc
        obtain ⟨c1, fs⟩ := o
        dsimp only at hc hg
        subst hc
        exact ⟨a, fs, rfl, ho, hg⟩
      · cases hg
    · cases hg
theorem hm_gi_s {ci k : Nat} {h : hm_H} {r : Option Nat} {x : Int32} (hg : hm_gi ci k h r = some x) : hm_g ci k h r = some (.int x) := by
  unfold hm_gi at hg
  split at hg
  · rename_i y hy
    cases hg
    exact hy
  · cases hg
theorem hm_gl_s {ci k : Nat} {h : hm_H} {r : Option Nat} {x : Int64} (hg : hm_gl ci k h r = some x) : hm_g ci k h r = some (.long x) := by
  unfold hm_gl at hg
  split at hg
  · rename_i y hy
    cases hg
    exact hy
  · cases hg
theorem hm_gq_s {ci k : Nat} {h : hm_H} {r : Option Nat} {x : Option Nat} (hg : hm_gq ci k h r = some x) : hm_g ci k h r = some (va_rf x) := by
  unfold hm_gq at hg
  split at hg
  · rename_i y hy
    cases hg
    exact hy
  · rename_i hy
    cases hg
    exact hy
  · cases hg
theorem hm_p_s {ci k : Nat} {v : Value} {h h' : hm_H} {r : Option Nat} (hg : hm_p ci k v h r = some h') : ∃ (a : Nat) (fs : List Value), r = some a ∧ h.1 a = some (.inr (ci, fs)) ∧ k < fs.length ∧ h' = (va_up h.1 a (some (.inr (ci, fs.set k v))), h.2) := by
  cases r with
  | none => cases hg
  | some a =>
    simp only [hm_p] at hg
    split at hg
    · rename_i o ho
      split at hg
      · rename_i hc
        obtain ⟨c1, fs⟩ := o
        dsimp only at hc hg
        obtain ⟨hc, hl⟩ := hc
        subst hc
        cases hg
        exact ⟨a, fs, rfl, ho, hl, rfl⟩
      · cases hg
    · cases hg
theorem hm_rc_s {ci : Nat} {h : hm_H} {r : Option Nat} {a : Nat} (hg : hm_rc ci h r = some a) : r = some a ∧ ∃ fs : List Value, h.1 a = some (.inr (ci, fs)) := by
  cases r with
  | none => cases hg
  | some b =>
    simp only [hm_rc] at hg
    split at hg
    · rename_i o ho
      split at hg
      · rename_i hc
        obtain ⟨c1, fs⟩ := o
        dsimp only at hc hg
        subst hc
        cases hg
        exact ⟨rfl, fs, ho⟩
      · cases hg
    · cases hg
theorem hm_ai_s {kd : Nat} {h : hm_H} {r : Option Nat} {i x : Int32} (hg : hm_ai kd h r i = some x) : ∃ (a n : Nat) (f : Nat → Int32), r = some a ∧ h.1 a = some (.inl (kd, n, .inl f)) ∧ vp_in i n ∧ f i.toNatClampNeg = x := by
  cases r with
  | none => cases hg
  | some b =>
    simp only [hm_ai] at hg
    split at hg
    · rename_i kd' n f ho
      split at hg
      · rename_i hc
        obtain ⟨hc, hi⟩ := hc
        subst hc
        cases hg
        exact ⟨b, n, f, rfl, ho, hi, rfl⟩
      · cases hg
    · cases hg
theorem hm_si_s {kd : Nat} {h h' : hm_H} {r : Option Nat} {i x : Int32} (hg : hm_si kd h r i x = some h') : ∃ (a n : Nat) (f : Nat → Int32), r = some a ∧ h.1 a = some (.inl (kd, n, .inl f)) ∧ vp_in i n ∧ h' = (va_up h.1 a (some (.inl (kd, n, .inl (upd f i.toNatClampNeg x)))), h.2) := by
  cases r with
  | none => cases hg
  | some b =>
    simp only [hm_si] at hg
    split at hg
    · rename_i kd' n f ho
      split at hg
      · rename_i hc
        obtain ⟨hc, hi⟩ := hc
        subst hc
        cases hg
        exact ⟨b, n, f, rfl, ho, hi, rfl⟩
      · cases hg
    · cases hg
theorem hm_aq_s {kd : Nat} {h : hm_H} {r x : Option Nat} {i : Int32} (hg : hm_aq kd h r i = some x) : ∃ (a n : Nat) (f : Nat → Option Nat), r = some a ∧ h.1 a = some (.inl (kd, n, .inr (.inr (.inr (.inr f))))) ∧ vp_in i n ∧ f i.toNatClampNeg = x := by
  cases r with
  | none => cases hg
  | some b =>
    simp only [hm_aq] at hg
    split at hg
    · rename_i kd' n f ho
      split at hg
      · rename_i hc
        obtain ⟨hc, hi⟩ := hc
        subst hc
        cases hg
        exact ⟨b, n, f, rfl, ho, hi, rfl⟩
      · cases hg
    · cases hg
theorem hm_sq_s {kd ci : Nat} {h h' : hm_H} {r x : Option Nat} {i : Int32} (hg : hm_sq kd ci h r i x = some h') : ∃ (a n v : Nat) (f : Nat → Option Nat) (vs : List Value), r = some a ∧ x = some v ∧ h.1 v = some (.inr (ci, vs)) ∧ h.1 a = some (.inl (kd, n, .inr (.inr (.inr (.inr f))))) ∧ vp_in i n ∧ h' = (va_up h.1 a (some (.inl (kd, n, .inr (.inr (.inr (.inr (va_up f i.toNatClampNeg (some v)))))))), h.2) := by
  cases r with
  | none => cases hg
  | some b =>
    simp only [hm_sq] at hg
    split at hg
    · cases hg
    · rename_i v hv
      obtain ⟨hx, vs, hv⟩ := hm_rc_s hv
      split at hg
      · rename_i kd' n f ho
        split at hg
        · rename_i hc
          obtain ⟨hc, hi⟩ := hc
          subst hc
          cases hg
          exact ⟨b, n, v, f, vs, rfl, hx, hv, ho, hi, rfl⟩
        · cases hg
      · cases hg
theorem hm_al_s {kd : Nat} {h : hm_H} {r : Option Nat} {x : Int32} (hg : hm_al kd h r = some x) : ∃ (a : Nat) (v : vp_A), r = some a ∧ h.1 a = some (.inl (kd, v)) ∧ Int32.ofNat v.1 = x := by
  cases r with
  | none => cases hg
  | some b =>
    simp only [hm_al] at hg
    split at hg
    · rename_i kd' v ho
      split at hg
      · rename_i hc
        subst hc
        cases hg
        exact ⟨b, v, rfl, ho, rfl⟩
      · cases hg
    · cases hg
theorem hm_cp_s {h h' : hm_H} {r r2 : Option Nat} {sp dp n : Int32} (hg : hm_cp h r sp r2 dp n = some h') : ∃ (a b n0 n1 : Nat) (f g : Nat → Int32), r = some a ∧ r2 = some b ∧ h.1 a = some (.inl (0, n0, .inl f)) ∧ h.1 b = some (.inl (0, n1, .inl g)) ∧ (¬ sp < 0 ∧ ¬ dp < 0 ∧ ¬ n < 0) ∧ sp.toNatClampNeg + n.toNatClampNeg ≤ n0 ∧ dp.toNatClampNeg + n.toNatClampNeg ≤ n1 ∧ h' = (va_up h.1 b (some (.inl (0, n1, .inl (va_cpy f g sp.toNatClampNeg dp.toNatClampNeg n.toNatClampNeg)))), h.2) := by
  unfold hm_cp at hg
  split at hg
  · rename_i a b
    split at hg
    · rename_i kd n0 f kd' n1 g ha hb
      split at hg
      · rename_i hc
        obtain ⟨⟨h1, h2⟩, h3, h4, h5⟩ := hc
        subst h1
        subst h2
        cases hg
        exact ⟨a, b, n0, n1, f, g, rfl, rfl, ha, hb, h3, h4, h5, rfl⟩
      · cases hg
    · cases hg
  · cases hg
section HMW
variable {p : Program} {l : Launch} {e : Env} {R : Room} {s : State} {m : MethodId} {args : Array Value} {below : List Frame} {meth : Method} {c : Code} {H : Heap} {locs : List Loc} {cells slots : Nat} {Q : State → Prop}
variable {cc : ByteArray} {pc : Nat} {ls : Array Slot} {rest : List Value} {D : va_G} {cl : List vw_C} {A : Nat → Prop} {tys : List (ClassId × FieldType)} {H0 : Heap} {kA : Nat → ClassId} {h : hm_H}
theorem hm_aload_n (hexec : p.tables.exec = Jvm.exec) (hb : c.code = cc) {k : Fin 4} {i : Nat} {r : Option Nat} (hdg : decode cc pc = .ok (.aload_n k, 1)) (hi : (k : Nat) = i) (hl : ls[i]? = some (.val (va_rf r)))
    (kk : W p l e R s m args below meth c H locs cells slots Q (F0 m (pc + 1) ls (va_rf r :: rest))) : W p l e R s m args below meth c H locs cells slots Q (F0 m pc ls rest) := by
  cases r with
  | none => exact lv_aload_nN hexec hb hdg hi hl kk
  | some x => exact lv_aload_n hexec hb hdg hi hl kk
theorem hm_aload (hexec : p.tables.exec = Jvm.exec) (hb : c.code = cc) {i : Nat} {r : Option Nat} (hdg : decode cc pc = .ok (.aload i, 2)) (hl : ls[i]? = some (.val (va_rf r)))
    (kk : W p l e R s m args below meth c H locs cells slots Q (F0 m (pc + 2) ls (va_rf r :: rest))) : W p l e R s m args below meth c H locs cells slots Q (F0 m pc ls rest) := by
  cases r with
  | none => exact lv_aloadN hexec hb hdg hl kk
  | some x => exact lv_aload hexec hb hdg hl kk
theorem hm_astore_n (hexec : p.tables.exec = Jvm.exec) (hb : c.code = cc) {k : Fin 4} {i nL : Nat} {r : Option Nat} {lv lv' : List (Nat × Value)} (hdg : decode cc pc = .ok (.astore_n k, 1)) (hi : (k : Nat) = i) (hh : lv_has ls nL lv) (hn : i < nL) (hl : (i, va_rf r) :: lv.filter (fun q => !(q.1 == i) && !(q.1 + 1 == i && q.2.category == 2)) = lv')
    (kk : ∀ ls' : Array Slot, lv_has ls' nL lv' → W p l e R s m args below meth c H locs cells slots Q (F0 m (pc + 1) ls' rest)) : W p l e R s m args below meth c H locs cells slots Q (F0 m pc ls (va_rf r :: rest)) := by
  cases r with
  | none => exact lv_astore_nN hexec hb hdg hi hh hn hl kk
  | some x => exact lv_astore_n hexec hb hdg hi hh hn hl kk
theorem hm_astore (hexec : p.tables.exec = Jvm.exec) (hb : c.code = cc) {i nL : Nat} {r : Option Nat} {lv lv' : List (Nat × Value)} (hdg : decode cc pc = .ok (.astore i, 2)) (hh : lv_has ls nL lv) (hn : i < nL) (hl : (i, va_rf r) :: lv.filter (fun q => !(q.1 == i) && !(q.1 + 1 == i && q.2.category == 2)) = lv')
    (kk : ∀ ls' : Array Slot, lv_has ls' nL lv' → W p l e R s m args below meth c H locs cells slots Q (F0 m (pc + 2) ls' rest)) : W p l e R s m args below meth c H locs cells slots Q (F0 m pc ls (va_rf r :: rest)) := by
  cases r with
  | none => exact lv_astoreN hexec hb hdg hh hn hl kk
  | some x => exact lv_astore hexec hb hdg hh hn hl kk
theorem hm_rf_cat (r : Option Nat) : (va_rf r).category = 1 := by cases r <;> rfl
theorem hm_ifnull (hexec : p.tables.exec = Jvm.exec) (hb : c.code = cc) {r : Option Nat} {off : Int} {tgt : Nat} (hdg : decode cc pc = .ok (.ifnull off, 3)) (ht : (pc : Int) + off = (tgt : Int))
    (kt : r = none → W p l e R s m args below meth c H locs cells slots Q (F0 m tgt ls rest)) (kf : ¬ r = none → W p l e R s m args below meth c H locs cells slots Q (F0 m (pc + 3) ls rest)) : W p l e R s m args below meth c H locs cells slots Q (F0 m pc ls (va_rf r :: rest)) := by
  cases r with
  | none => exact lv_ifnullN hexec hb hdg ht (kt rfl)
  | some x => exact lv_ifnull hexec hb hdg (kf (by simp))
theorem hm_ifnonnull (hexec : p.tables.exec = Jvm.exec) (hb : c.code = cc) {r : Option Nat} {off : Int} {tgt : Nat} (hdg : decode cc pc = .ok (.ifnonnull off, 3)) (ht : (pc : Int) + off = (tgt : Int))
    (kt : ¬ r = none → W p l e R s m args below meth c H locs cells slots Q (F0 m tgt ls rest)) (kf : r = none → W p l e R s m args below meth c H locs cells slots Q (F0 m (pc + 3) ls rest)) : W p l e R s m args below meth c H locs cells slots Q (F0 m pc ls (va_rf r :: rest)) := by
  cases r with
  | none => exact lv_ifnonnullN hexec hb hdg (kf rfl)
  | some x => exact lv_ifnonnull hexec hb hdg ht (kt (by simp))
theorem hm_one {D : va_G} {cl : List vw_C} {kA : Nat → ClassId} {A : Nat → Prop} {H0 H : Heap} {h : hm_H} {locs : List Loc} {a : Nat} {x : hm_E} (hI : hm_I D cl kA A H0 h H locs) (ha : h.1 a = some x) : va_P D cl [(a, hm_tr kA x)] H := by
  intro k q hk
  have hz : k < 1 := (List.getElem?_eq_some_iff.mp hk).1
  rw [show k = 0 by omega] at hk
  cases hk
  exact (hI.1.1 a x ha).1
theorem hm_get (hexec : p.tables.exec = Jvm.exec) (hb : c.code = cc) {own C : String} {T : u_T} {N ci index k : Nat} {Ts : List Cond} (hts : ∀ w ∈ Ts, w.before args s = true) (hin : ∀ w ∈ u_ws C T N, w ∈ Ts) (hown : s.vm.findClass own = some m.cls) (hK : va_K D cl tys s) (hI : hm_I D cl kA A H0 h H locs) (hc : cl[ci]? = some (C, T, N)) (hk : k < N) (hlink : (Cond.fieldLink own index (T k).1 (T k).2.1 (T k).2.2.1).before args s = true) {r : Option Nat} {v : Value} (hg : hm_g ci k h r = some v) (hdg : decode cc pc = .ok (.getfield index, 3))
    (kk : W p l e R s m args below meth c H locs cells slots Q (F0 m (pc + 3) ls (v :: rest))) : W p l e R s m args below meth c H locs cells slots Q (F0 m pc ls (va_rf r :: rest)) := by
  obtain ⟨a, fs, rfl, h1, h2⟩ := hm_g_s hg
  exact va_get hexec hb hts hin hown hK (hm_one hI h1) 0 rfl hc k hk hlink (fun _ h9 => h9) h2 hdg kk
theorem hm_put (hexec : p.tables.exec = Jvm.exec) (hb : c.code = cc) {own C : String} {T : u_T} {N ci index k : Nat} {Ts : List Cond} (hts : ∀ w ∈ Ts, w.before args s = true) (hin : ∀ w ∈ u_ws C T N, w ∈ Ts) (ty0 : Nat → FieldType) (hty : ∀ k, k < N → parseFieldDescriptor (T k).2.2.1 = some (ty0 k)) (hnm : ∀ a, a < N → ∀ b, b < N → a ≠ b → (T a).2.1 ≠ (T b).2.1) (hown : s.vm.findClass own = some m.cls) (hK : va_K D cl tys s) (hI : hm_I D cl kA A H0 h H locs) (hc : cl[ci]? = some (C, T, N)) (hk : k < N) (hlink : (Cond.fieldLink own index (T k).1 (T k).2.1 (T k).2.2.1).before args s = true) (hfin : (T k).2.2.2 = false) {r : Option Nat} {v : Value} {h' : hm_H} (hg : hm_p ci k v h r = some h') (hn : narrow (ty0 k) v = v) (hfit : fits (ty0 k) v = true) (hdg : decode cc pc = .ok (.putfield index, 3))
    (kk : ∀ (H1 : Heap) (locs1 : List Loc), hm_I D cl kA A H0 h' H1 locs1 → W p l e R s m args below meth c H1 locs1 cells slots Q (F0 m (pc + 3) ls rest)) : W p l e R s m args below meth c H locs cells slots Q (F0 m pc ls (v :: va_rf r :: rest)) := by
  obtain ⟨a, fs, rfl, ha, hl, rfl⟩ := hm_p_s hg
  have hap := va_apart (own := own) hts hin ty0 hty hnm hK hc
  obtain ⟨w, h1, cell, q1, q2, q3, q4⟩ := (hI.1.1 _ _ ha).1
  have hr : w = (C, T, N) := Option.some.inj (h1.symm.trans hc)
  subst hr
  obtain ⟨hS, hfc, kC, hkC, hkind⟩ := hK.1 ci _ hc
  obtain ⟨cf, kf, fi, f, hi, hsl⟩ := hS k hk
  have hlay := hts _ (hin _ (u_in_lay hk))
  unfold u_lay at hlay
  rw [if_neg (by rw [hfin]; decide)] at hlay
  have hst := (u_facts hfc hkC (u_lays hts hin hk) hi).1
  have h6 := u_store hfc hkC hkind hlay hi (hty k hk) hn hfit
  refine W.putK hexec hb (f := f) ⟨hown, hlink, ⟨_, _, _, hi⟩, hst⟩ (by rw [q2]; exact h6) q1 q3 (by rw [hsl]; exact k2_hasslot (q4 k hk)) rfl rfl hdg fun H' e1 e2 e3 => ?_
  rw [hsl] at e1 ⊢
  exact kk H' _ (hI.up ha ⟨_, hc, t_OB.to (V := updV (vp_V fs) k v) ⟨_, e1, q2, q3, t_set q4 hap hk v⟩ (fun j _ => vp_updV_set hl v j)⟩ e2 e3)
theorem hm_putF (hexec : p.tables.exec = Jvm.exec) (hb : c.code = cc) {own C : String} {T : u_T} {N ci index k : Nat} {Ts : List Cond} (hts : ∀ w ∈ Ts, w.before args s = true) (hin : ∀ w ∈ u_ws C T N, w ∈ Ts) (ty0 : Nat → FieldType) (hty : ∀ k, k < N → parseFieldDescriptor (T k).2.2.1 = some (ty0 k)) (hnm : ∀ a, a < N → ∀ b, b < N → a ≠ b → (T a).2.1 ≠ (T b).2.1) (hown : s.vm.findClass own = some m.cls) (hK : va_K D cl tys s) (hI : hm_I D cl kA A H0 h H locs) (hc : cl[ci]? = some (C, T, N)) (hk : k < N) (hlink : (Cond.fieldLink own index (T k).1 (T k).2.1 (T k).2.2.1).before args s = true) (hfin : (T k).2.2.2 = true) (hin2 : meth.name = "<init>") (hdecl : (T k).1 = own) {r : Option Nat} {v : Value} {h' : hm_H} (hg : hm_p ci k v h r = some h') (hn : narrow (ty0 k) v = v) (hfit : fits (ty0 k) v = true) (hdg : decode cc pc = .ok (.putfield index, 3))
    (kk : ∀ (H1 : Heap) (locs1 : List Loc), hm_I D cl kA A H0 h' H1 locs1 → W p l e R s m args below meth c H1 locs1 cells slots Q (F0 m (pc + 3) ls rest)) : W p l e R s m args below meth c H locs cells slots Q (F0 m pc ls (v :: va_rf r :: rest)) := by
  obtain ⟨a, fs, rfl, ha, hl, rfl⟩ := hm_p_s hg
  have hap := va_apart (own := own) hts hin ty0 hty hnm hK hc
  obtain ⟨w, h1, cell, q1, q2, q3, q4⟩ := (hI.1.1 _ _ ha).1
  have hr : w = (C, T, N) := Option.some.inj (h1.symm.trans hc)
  subst hr
  obtain ⟨hS, hfc, kC, hkC, hkind⟩ := hK.1 ci _ hc
  obtain ⟨cf, kf, fi, f, hi, hsl⟩ := hS k hk
  have hlay := hts _ (hin _ (u_in_lay hk))
  unfold u_lay at hlay
  rw [if_pos hfin] at hlay
  have hst := (u_facts hfc hkC (u_lays hts hin hk) hi).1
  have hcf : m.cls = cf := by
    obtain ⟨_, _, c', _, _, _, -, -, hf', -, -, -, hown2, -⟩ := Cond.laysFinal_spec hlay
    have e1 : c' = cf := by have := hi.symm.trans hf'; simp at this; exact this.1.symm
    rw [hdecl] at hown2
    rw [← e1]; exact Option.some.inj (hown.symm.trans hown2)
  have h6 := u_fits hfc hkC hkind (Or.inr hlay) hi (hty k hk) hn hfit
  refine W.putFinK hexec hb hown hlink hi hst hcf hin2 (by rw [q2]; exact h6) q1 q3 (by rw [hsl]; exact k2_hasslot (q4 k hk)) rfl rfl hdg fun H' e1 e2 e3 => ?_
  rw [hsl] at e1 ⊢
  exact kk H' _ (hI.up ha ⟨_, hc, t_OB.to (V := updV (vp_V fs) k v) ⟨_, e1, q2, q3, t_set q4 hap hk v⟩ (fun j _ => vp_updV_set hl v j)⟩ e2 e3)
theorem hm_iald (hexec : p.tables.exec = Jvm.exec) (hb : c.code = cc) (hK : va_K D cl tys s) (hI : hm_I D cl kA A H0 h H locs) {kd t0 : Nat} (ht : tys[t0]? = some (kA kd, .int)) {r : Option Nat} {i x : Int32} (hg : hm_ai kd h r i = some x) (hdg : decode cc pc = .ok (.iaload, 1))
    (kk : W p l e R s m args below meth c H locs cells slots Q (F0 m (pc + 1) ls (.int x :: rest))) : W p l e R s m args below meth c H locs cells slots Q (F0 m pc ls (.int i :: va_rf r :: rest)) := by
  obtain ⟨a, n, f, rfl, ha, hi, rfl⟩ := hm_ai_s hg
  exact va_iald hexec hb hK (hm_one hI ha) 0 t0 rfl ht hi hdg kk
theorem hm_zald (hexec : p.tables.exec = Jvm.exec) (hb : c.code = cc) (hK : va_K D cl tys s) (hI : hm_I D cl kA A H0 h H locs) {kd t0 : Nat} (ht : tys[t0]? = some (kA kd, .boolean)) {r : Option Nat} {i x : Int32} (hg : hm_ai kd h r i = some x) (hdg : decode cc pc = .ok (.baload, 1))
    (kk : W p l e R s m args below meth c H locs cells slots Q (F0 m (pc + 1) ls (.int x :: rest))) : W p l e R s m args below meth c H locs cells slots Q (F0 m pc ls (.int i :: va_rf r :: rest)) := by
  obtain ⟨a, n, f, rfl, ha, hi, rfl⟩ := hm_ai_s hg
  exact va_zald hexec hb hK (hm_one hI ha) 0 t0 rfl ht hi hdg kk
theorem hm_aald (hexec : p.tables.exec = Jvm.exec) (hb : c.code = cc) (hK : va_K D cl tys s) (hI : hm_I D cl kA A H0 h H locs) {kd t0 : Nat} {C : String} (ht : tys[t0]? = some (kA kd, .object C)) {r x : Option Nat} {i : Int32} (hg : hm_aq kd h r i = some x) (hdg : decode cc pc = .ok (.aaload, 1))
    (kk : W p l e R s m args below meth c H locs cells slots Q (F0 m (pc + 1) ls (va_rf x :: rest))) : W p l e R s m args below meth c H locs cells slots Q (F0 m pc ls (.int i :: va_rf r :: rest)) := by
  obtain ⟨a, n, f, rfl, ha, hi, rfl⟩ := hm_aq_s hg
  exact va_aldq hexec hb hK (hm_one hI ha) 0 t0 rfl ht hi hdg kk
theorem hm_alen (hexec : p.tables.exec = Jvm.exec) (hb : c.code = cc) (hK : va_K D cl tys s) (hI : hm_I D cl kA A H0 h H locs) {kd t0 : Nat} {ty : FieldType} (ht : tys[t0]? = some (kA kd, ty)) {r : Option Nat} {x : Int32} (hg : hm_al kd h r = some x) (hdg : decode cc pc = .ok (.arraylength, 1))
    (kk : W p l e R s m args below meth c H locs cells slots Q (F0 m (pc + 1) ls (.int x :: rest))) : W p l e R s m args below meth c H locs cells slots Q (F0 m pc ls (va_rf r :: rest)) := by
  obtain ⟨a, v, rfl, ha, hx⟩ := hm_al_s hg
  exact va_alen hexec hb hK (hm_one hI ha) 0 t0 rfl ht hx hdg kk
theorem hm_iast (hexec : p.tables.exec = Jvm.exec) (hb : c.code = cc) (hK : va_K D cl tys s) (hI : hm_I D cl kA A H0 h H locs) {kd t0 : Nat} (ht : tys[t0]? = some (kA kd, .int)) {r : Option Nat} {i x : Int32} {h' : hm_H} (hg : hm_si kd h r i x = some h') (hdg : decode cc pc = .ok (.iastore, 1))
    (kk : ∀ (H1 : Heap) (locs1 : List Loc), hm_I D cl kA A H0 h' H1 locs1 → W p l e R s m args below meth c H1 locs1 cells slots Q (F0 m (pc + 1) ls rest)) : W p l e R s m args below meth c H locs cells slots Q (F0 m pc ls (.int x :: .int i :: va_rf r :: rest)) := by
  obtain ⟨a, n, f, rfl, ha, hi, rfl⟩ := hm_si_s hg
  have hc : H[a]? = some (vp_cell (kA kd) (n, .inl f)) := (hI.1.1 _ _ ha).1
  refine W.iast hexec hb hc ((hK.2 t0 _ ht).1 n (fun j => .int (f j))) (fun q => by cases q) (by show ¬ (i < 0 ∨ (arrV _ _ _).slots.size ≤ _); rw [arrV_size]; exact hi) rfl rfl hdg fun H1 e1 z oq => ?_
  refine kk H1 _ (hI.up ha ?_ z oq)
  show H1[a]? = some (vp_cell _ _)
  rw [e1, vp_cell_i, vp_cell_i, arrV_store]
  congr 2
  funext q
  by_cases hq : q = i.toNatClampNeg
  · subst hq
    simp [updV, upd]
  · simp [updV, upd, hq]
theorem hm_zast (hexec : p.tables.exec = Jvm.exec) (hb : c.code = cc) (hK : va_K D cl tys s) (hI : hm_I D cl kA A H0 h H locs) {kd t0 : Nat} (ht : tys[t0]? = some (kA kd, .boolean)) {r : Option Nat} {i x : Int32} {h' : hm_H} (hg : hm_si kd h r i (vp_nar .boolean x) = some h') (hdg : decode cc pc = .ok (.bastore, 1))
    (kk : ∀ (H1 : Heap) (locs1 : List Loc), hm_I D cl kA A H0 h' H1 locs1 → W p l e R s m args below meth c H1 locs1 cells slots Q (F0 m (pc + 1) ls rest)) : W p l e R s m args below meth c H locs cells slots Q (F0 m pc ls (.int x :: .int i :: va_rf r :: rest)) := by
  obtain ⟨a, n, f, rfl, ha, hi, rfl⟩ := hm_si_s hg
  have hc : H[a]? = some (vp_cell (kA kd) (n, .inl f)) := (hI.1.1 _ _ ha).1
  refine W.zast hexec hb hc ((hK.2 t0 _ ht).1 n (fun j => .int (f j))) (fun q => by cases q) (by show ¬ (i < 0 ∨ (arrV _ _ _).slots.size ≤ _); rw [arrV_size]; exact hi) rfl rfl hdg fun H1 e1 z oq => ?_
  refine kk H1 _ (hI.up ha ?_ z oq)
  show H1[a]? = some (vp_cell _ _)
  rw [e1, vp_cell_i, vp_cell_i, arrV_store]
  congr 2
  funext q
  by_cases hq : q = i.toNatClampNeg
  · subst hq
    simp [updV, upd, vp_nar]
    try rfl
  · simp [updV, upd, hq]
theorem hm_aast (hexec : p.tables.exec = Jvm.exec) (hb : c.code = cc) (hK : va_K D cl tys s) (hI : hm_I D cl kA A H0 h H locs) {kd t0 ci : Nat} {w : vw_C} (hc : cl[ci]? = some w) (ht : tys[t0]? = some (kA kd, .object w.1)) {r x : Option Nat} {i : Int32} {h' : hm_H} (hg : hm_sq kd ci h r i x = some h') (hdg : decode cc pc = .ok (.aastore, 1))
    (kk : ∀ (H1 : Heap) (locs1 : List Loc), hm_I D cl kA A H0 h' H1 locs1 → W p l e R s m args below meth c H1 locs1 cells slots Q (F0 m (pc + 1) ls rest)) : W p l e R s m args below meth c H locs cells slots Q (F0 m pc ls (va_rf x :: .int i :: va_rf r :: rest)) := by
  obtain ⟨a, n, v, f, vs, rfl, rfl, hv, ha, hin, rfl⟩ := hm_sq_s hg
  have hlt : i.toNatClampNeg < n := Nat.not_le.mp fun q => hin (Or.inr q)
  have h0 : ¬ i < 0 := fun q => hin (Or.inl q)
  obtain ⟨r', hr', cellV, g1, g2, g3, -⟩ := (hI.1.1 _ _ hv).1
  have hca : H[a]? = some (vp_cell (kA kd) (n, .inr (.inr (.inr (.inr f))))) := (hI.1.1 _ _ ha).1
  have hcls := (hK.1 ci w hc).2
  obtain ⟨kA', comp, k1, k2, k3, -⟩ := (hK.2 t0 _ ht).2
  have hcomp : comp = D.1 ci := Option.some.inj (k3.symm.trans hcls.1)
  subst hcomp
  obtain ⟨kC, hkC, -⟩ := hcls.2
  refine W.aast hexec hb hca (fun q h => by cases h) (fun h => by cases h) k1 k2 rfl hkC ⟨h0, by show _ < (arrV _ _ _).slots.size; rw [arrV_size]; exact hlt⟩ g1 (fun q h => by rw [g3] at h; cases h) (by rw [g2]; exact hkC) (by rw [g2]; exact va_assign hcls) rfl rfl hdg fun H1 e1 z oq => ?_
  refine kk H1 _ (hI.up ha ?_ z oq)
  show H1[a]? = some (vp_cell _ _)
  rw [e1, vp_cell_q, vp_cell_q, arrV_store]
  congr 2
  funext q
  by_cases hq : q = i.toNatClampNeg
  · subst hq
    simp [updV, va_up, va_rf]
  · simp [updV, va_up, hq]
theorem hm_new {c0 : Code} (hexec : p.tables.exec = Jvm.exec) (hb : c0.code = cc) {own C : String} {T : u_T} {N ci index : Nat} {Ts : List Cond} (hts : ∀ w ∈ Ts, w.before args s = true) (hin : ∀ w ∈ u_ws C T N, w ∈ Ts) (ty : Nat → FieldType) (hty : ∀ k, k < N → parseFieldDescriptor (T k).2.2.1 = some (ty k)) (hown : s.vm.findClass own = some m.cls) (hcl : (Cond.classLink own index C).before args s = true) (hinst : (Cond.instantiable C N).before args s = true) (hini : (Cond.initialized C).before args s = true)
    (hK : va_K D cl tys s) (hI : hm_I D cl kA A H0 h H locs) (hc : cl[ci]? = some (C, T, N)) {fs : List Value} (hfs : ∀ j, j < N → defaultValue (ty j) = vp_V fs j) (hcells : cells + 1 ≤ R.cells) (hslots : slots + N ≤ R.slots) (hdg : decode cc pc = .ok (.new index, 3))
    (kk : ∀ H1 : Heap, hm_I D cl kA A H0 (hm_n h (.inr (ci, fs))) H1 locs → W p l e R s m args below meth c0 H1 locs (cells + 1) (slots + N) Q (F0 m (pc + 3) ls (va_rf (some h.2) :: rest))) : W p l e R s m args below meth c0 H locs cells slots Q (F0 m pc ls rest) := by
  have hKn := hK.1 ci _ hc
  refine W.newcK hexec hb hown hcl hinst hini rfl hdg hcells hslots hKn.2.1 rfl fun H1 kC hkC e1 z1 o1 => ?_
  have h9 := kk H1 (hI.new (x := .inr (ci, fs)) ⟨_, hc, (u_born ty hts hin hKn hkC e1 hty).to hfs⟩ z1 o1)
  rw [← hI.1.2] at h9
  exact h9
theorem hm_newi (hexec : p.tables.exec = Jvm.exec) (hb : c.code = cc) {atype : ArrayType} {ty : FieldType} {kd t0 B : Nat} (harr : (Cond.arrayClass ty).before args s = true) (hty : newarray.typeOf atype = ty) (hd : defaultValue ty = .int 0) (hB : B * componentBytes ty ≤ 536870912) (hK : va_K D cl tys s) (hI : hm_I D cl kA A H0 h H locs) (ht : tys[t0]? = some (kA kd, ty)) (hnm : va_RA s (kA kd) ty → s.vm.findClass ("[" ++ ty.toString) = some (kA kd)) {n : Int32} {h' : hm_H} (hg : hm_ni kd B n h = some h') (hcells : cells + 1 ≤ R.cells) (hslots : slots + B ≤ R.slots) (hdg : decode cc pc = .ok (.newarray atype, 2))
    (kk : ∀ H1 : Heap, hm_I D cl kA A H0 h' H1 locs → W p l e R s m args below meth c H1 locs (cells + 1) (slots + B) Q (F0 m (pc + 2) ls (va_rf (some h.2) :: rest))) : W p l e R s m args below meth c H locs cells slots Q (F0 m pc ls (.int n :: rest)) := by
  subst hty
  unfold hm_ni at hg
  split at hg
  · rename_i hn
    cases hg
    refine va_newaK hexec hb harr rfl hdg rfl hn.1 rfl (Nat.le_trans (Nat.mul_le_mul_right _ hn.2) hB) hcells (by omega) rfl fun H1 cA e1 z1 o1 hAr hNm => ?_
    have hcA : cA = kA kd := Option.some.inj (hNm.symm.trans (hnm (hK.2 t0 _ ht).2))
    subst hcA
    refine W.widen (Nat.le_refl _) (Nat.add_le_add_left hn.2 slots) ?_
    have h9 := kk H1 (hI.new (x := .inl (kd, n.toNatClampNeg, .inl (fun _ => 0))) (by show H1[H.size]? = some (vp_cell _ _); rw [vp_cell_i, e1, hd]) z1 o1)
    rw [← hI.1.2] at h9
    exact h9
  · cases hg
theorem hm_newq (hexec : p.tables.exec = Jvm.exec) (hb : c.code = cc) {own C : String} {index kd t0 B : Nat} (hown : s.vm.findClass own = some m.cls) (hclink : (Cond.classLink own index C).before args s = true) (hover : va_AO C s) (hB : B * 4 ≤ 536870912) (hK : va_K D cl tys s) (hI : hm_I D cl kA A H0 h H locs) (ht : tys[t0]? = some (kA kd, .object C)) {n : Int32} {h' : hm_H} (hg : hm_nq kd B n h = some h') (hcells : cells + 1 ≤ R.cells) (hslots : slots + B ≤ R.slots) (hdg : decode cc pc = .ok (.anewarray index, 3))
    (kk : ∀ H1 : Heap, hm_I D cl kA A H0 h' H1 locs → W p l e R s m args below meth c H1 locs (cells + 1) (slots + B) Q (F0 m (pc + 3) ls (va_rf (some h.2) :: rest))) : W p l e R s m args below meth c H locs cells slots Q (F0 m pc ls (.int n :: rest)) := by
  unfold hm_nq at hg
  split at hg
  · rename_i hn
    cases hg
    refine W.anew hexec hb hown hclink (va_AO.use hover) rfl hdg rfl hn.1 (Nat.le_trans (Nat.mul_le_mul_right _ hn.2) hB) hcells (by omega) fun cA kA' comp f1 f2 f3 f4 => ?_
    obtain ⟨kA2, comp2, k1, k2, k3, k4⟩ := (hK.2 t0 _ ht).2
    have hcA : cA = kA kd := Option.some.inj (f1.symm.trans k4)
    subst hcA
    refine W.widen (Nat.le_refl _) (Nat.add_le_add_left hn.2 slots) ?_
    have h9 := kk _ (hI.new (x := .inl (kd, n.toNatClampNeg, .inr (.inr (.inr (.inr (fun _ => none)))))) (H1 := H.push ({ cls := kA kd, slots := Array.replicate n.toNatClampNeg .null, vm := .none } : Cell)) (by show _ = some (vp_cell _ _); rw [vp_cell_q, Array.getElem?_push_size]; exact congrArg some (arrV_new _ _ _)) (by rw [Array.size_push]) (fun q hq => by rw [Array.getElem?_push, if_neg (Nat.ne_of_lt hq)]))
    rw [← hI.1.2] at h9
    exact h9
  · cases hg
end HMW
end
section
/-! CALLS OVER MAPS -/
theorem hm_blind {D : va_G} {cl : List vw_C} {kA : Nat → ClassId} {A : Nat → Prop} {tys : List (ClassId × FieldType)} {h : hm_H} {as : List Value} : FrameBlind (va_Pc as (hm_B D cl kA A tys h)) :=
  fun a U g mk q => ⟨q.1, q.2.1, va_K.moved (u := U) (U := U.calling g mk a) (Vm.Alike.refl U.vm) q.2.2⟩
theorem hm_pre {D : va_G} {cl : List vw_C} {kA : Nat → ClassId} {A : Nat → Prop} {tys : List (ClassId × FieldType)} {h : hm_H} {as : List Value} {s : State} {H0 H : Heap} {locs : List Loc} (hK : va_K D cl tys s) (hI : hm_I D cl kA A H0 h H locs) : ∀ U : State, U.heap = H → s.WarmedH U.vm → va_Pc as (hm_B D cl kA (hm_A h) tys h) as.toArray U :=
  fun U hU hW => ⟨rfl, ⟨fun a x ha => by rw [hU]; exact ⟨(hI.1.1 a x ha).1, Or.inl ⟨x, ha⟩⟩, by rw [hU]; exact hI.1.2⟩, va_K.moved hW.alike hK⟩
section HMC
variable {p : Program} {l : Launch} {e : Env} {R : Room} {s : State} {m : MethodId} {args : Array Value} {below : List Frame} {meth : Method} {c : Code} {H : Heap} {locs : List Loc} {cells slots : Nat} {Q : State → Prop}
variable {cc : ByteArray} {pc : Nat} {ls : Array Slot} {rest : List Value} {D : va_G} {cl : List vw_C} {A : Nat → Prop} {tys : List (ClassId × FieldType)} {H0 : Heap} {kA : Nat → ClassId} {h h' : hm_H}
variable {y : MethodName} {bytes : ByteArray} {maxL nL mc ms n index : Nat} {ret : Option FieldType} {ws : List Cond} {rm : Room} {Ts : List Cond} {own C : String} {b : Nat} {As : List Value} {rv : Option Value} {st0 : List Value}
/-- behind a call -/
theorem hm_call {a : Array Value} (hr : va_Run p l e R s m args below meth c H locs cells slots mc ms (F0 m pc ls st0) rest (hm_Q D cl kA tys h rv h' a) (hm_A h)) (hI : hm_I D cl kA A H0 h H locs)
    (kk : ∀ (H1 : Heap) (locs1 : List Loc), hm_I D cl kA A H0 h' H1 locs1 → W p l e R s m args below meth c H1 locs1 (cells + mc) (slots + ms) Q (F0 m (pc + 3) ls (rv.toList ++ rest))) : W p l e R s m args below meth c H locs cells slots Q (F0 m pc ls st0) := by
  intro T hT X
  obtain ⟨v, st₀, t, T', L, h0, X', hL, e1, e2, ⟨hv, hB, hz, hk⟩, st⟩ := hr T hT X
  cases hv
  rw [h0] at hz hk
  have hAA : ∀ q, hm_A h q → A q := fun q hq => by
    rcases hq with ⟨x, hx⟩ | hq
    · exact (hI.1.1 q x hx).2
    · exact hI.2.2 q (Nat.le_trans hI.2.1.1 (by rw [hI.1.2]; exact hq))
  obtain ⟨t2, a1, b1⟩ := kk T'.heap (locs ++ L) ⟨⟨fun q x hq => by rw [e1]; exact ⟨(hB.1.1 q x hq).1, hAA q (hB.1.1 q x hq).2⟩, by rw [e1]; exact hB.1.2⟩,
    ⟨Nat.le_trans hI.2.1.1 (by rw [e1]; exact hz), fun q h1 h2 => by rw [e1, hk q (Nat.lt_of_lt_of_le h1 hI.2.1.1) (fun z => h2 (hAA q z))]; exact hI.2.1.2.1 q h1 h2, fun q hq => by
      rcases List.mem_append.mp hq with h9 | h9
      · exact hI.2.1.2.2 q h9
      · exact hAA _ (hL q h9)⟩, hI.2.2⟩ T' rfl X'
  exact ⟨t2, st t2 a1, b1⟩
theorem hm_cV (S : CallFix p m c cc nL s args Ts own) (hK : va_K D cl tys s) (hI : hm_I D cl kA A H0 h H locs) {r : Option Nat} {ci : Nat} {w : vw_C} (hb : hm_rc ci h r = some b) (hc : cl[ci]? = some w) (hw : w.1 = C) (hM : hm_C l y ws rm D cl kA tys (.ref b :: As) h rv h' mc ms) (cw : CallW R s args own C index y bytes maxL ret ws rm mc ms n)
    (hn : As.length = n) (hsize : ls.size = nL) (hstack : st0 = As.reverse ++ va_rf r :: rest) (hW : (rest.map fun v => v.category).sum ≤ 8) (hdg : decode cc pc = .ok (.invokevirtual index, 3)) (hf : cells + mc ≤ R.cells ∧ slots + ms ≤ R.slots)
    (kk : ∀ (H1 : Heap) (locs1 : List Loc), hm_I D cl kA A H0 h' H1 locs1 → W p l e R s m args below meth c H1 locs1 (cells + mc) (slots + ms) Q (F0 m (pc + 3) ls (rv.toList ++ rest))) : W p l e R s m args below meth c H locs cells slots Q (F0 m pc ls st0) := by
  obtain ⟨rfl, fs, hx⟩ := hm_rc_s hb
  subst hw
  obtain ⟨w', hw', cell, g1, g2, g3, -⟩ := (hI.1.1 _ _ hx).1
  refine hm_call (va_runV S hM cw ⟨hm_blind, ⟨cell, g1, by rw [g3]; rfl, by rw [g2]; exact (hK.1 ci _ hc).2.1⟩, hm_pre hK hI⟩ rfl hn hsize hstack (lv_room hW) hdg hf) hI kk
theorem hm_cS (S : CallFix p m c cc nL s args Ts own) (hK : va_K D cl tys s) (hI : hm_I D cl kA A H0 h H locs) (hM : hm_C l y ws rm D cl kA tys As h rv h' mc ms) (cw : CallB R s args own index y bytes maxL ret ws rm mc ms n ∧ (Cond.static y).before args s = true)
    (hn : As.length = n) (hsize : ls.size = nL) (hstack : st0 = As.reverse ++ rest) (hW : (rest.map fun v => v.category).sum ≤ 8) (hdg : decode cc pc = .ok (.invokestatic index, 3)) (hf : cells + mc ≤ R.cells ∧ slots + ms ≤ R.slots)
    (kk : ∀ (H1 : Heap) (locs1 : List Loc), hm_I D cl kA A H0 h' H1 locs1 → W p l e R s m args below meth c H1 locs1 (cells + mc) (slots + ms) Q (F0 m (pc + 3) ls (rv.toList ++ rest))) : W p l e R s m args below meth c H locs cells slots Q (F0 m pc ls st0) :=
  hm_call (va_runS S hM cw ⟨hm_blind, hm_pre hK hI⟩ rfl hn hsize hstack (lv_room hW) hdg hf) hI kk
theorem hm_cI (S : CallFix p m c cc nL s args Ts own) (hK : va_K D cl tys s) (hI : hm_I D cl kA A H0 h H locs) (hM : hm_C l y ws rm D cl kA tys (.ref b :: As) h rv h' mc ms) (cw : CallB R s args own index y bytes maxL none ws rm mc ms n ∧ y.name = "<init>" ∧ (Cond.instanceMethod y).before args s = true)
    (hn : As.length = n) (hsize : ls.size = nL) (hstack : st0 = As.reverse ++ .ref b :: rest) (hW : (rest.map fun v => v.category).sum ≤ 8) (hdg : decode cc pc = .ok (.invokespecial index, 3)) (hf : cells + mc ≤ R.cells ∧ slots + ms ≤ R.slots)
    (kk : ∀ (H1 : Heap) (locs1 : List Loc), hm_I D cl kA A H0 h' H1 locs1 → W p l e R s m args below meth c H1 locs1 (cells + mc) (slots + ms) Q (F0 m (pc + 3) ls (rv.toList ++ rest))) : W p l e R s m args below meth c H locs cells slots Q (F0 m pc ls st0) :=
  hm_call (va_runI S hM cw ⟨hm_blind, hm_pre hK hI⟩ rfl hn hsize hstack (lv_room hW) hdg hf) hI kk
/-- ends -/
theorem hm_vret {f0 : hm_H} (hexec : p.tables.exec = Jvm.exec) (hb : c.code = cc) (hr : meth.sig.returnType = none) (hlocks : meth.locks = false) (hK : va_K D cl tys s) (hI : hm_I D cl kA (hm_A f0) s.heap h' H locs) (hc : cells ≤ mc) (hs : slots ≤ ms) (hdg : decode cc pc = .ok (.return_, 1)) :
    W p l e R s m args below meth c H locs cells slots (MQ below (hm_Q D cl kA tys f0 none h') args s mc ms (hm_A f0)) (F0 m pc ls []) :=
  W.widen hc hs (W.vret hexec hb hr (fun t ht hW => ⟨rfl, hm_end hK hI ht hW⟩) hI.2.1.2.2 hdg hlocks)
theorem hm_iret {f0 : hm_H} {v : Int32} (hexec : p.tables.exec = Jvm.exec) (hb : c.code = cc) (hr : meth.sig.returnType = some .int) (hlocks : meth.locks = false) (hK : va_K D cl tys s) (hI : hm_I D cl kA (hm_A f0) s.heap h' H locs) (hc : cells ≤ mc) (hs : slots ≤ ms) (hdg : decode cc pc = .ok (.ireturn, 1)) :
    W p l e R s m args below meth c H locs cells slots (MQ below (hm_Q D cl kA tys f0 (some (.int v)) h') args s mc ms (hm_A f0)) (F0 m pc ls [.int v]) :=
  W.widen hc hs (W.iret hexec hb hr (fun t ht hW => ⟨rfl, hm_end hK hI ht hW⟩) hI.2.1.2.2 hdg hlocks)
/-- a boolean's return: the answer is 0 or 1 -/
theorem hm_zret {f0 : hm_H} {v : Int32} (hexec : p.tables.exec = Jvm.exec) (hb : c.code = cc) (hr : meth.sig.returnType = some .boolean) (hlocks : meth.locks = false) (hK : va_K D cl tys s) (hI : hm_I D cl kA (hm_A f0) s.heap h' H locs) (hc : cells ≤ mc) (hs : slots ≤ ms) (hn : narrow .boolean (.int v) = .int v) (hdg : decode cc pc = .ok (.ireturn, 1)) :
    W p l e R s m args below meth c H locs cells slots (MQ below (hm_Q D cl kA tys f0 (some (.int v)) h') args s mc ms (hm_A f0)) (F0 m pc ls [.int v]) :=
  W.widen hc hs (W.zret hexec hb hr hn (fun t ht hW => ⟨rfl, hm_end hK hI ht hW⟩) hI.2.1.2.2 hdg hlocks)
theorem hm_lret {f0 : hm_H} {v : Int64} (hexec : p.tables.exec = Jvm.exec) (hb : c.code = cc) (hr : meth.sig.returnType = some .long) (hlocks : meth.locks = false) (hK : va_K D cl tys s) (hI : hm_I D cl kA (hm_A f0) s.heap h' H locs) (hc : cells ≤ mc) (hs : slots ≤ ms) (hdg : decode cc pc = .ok (.lreturn, 1)) :
    W p l e R s m args below meth c H locs cells slots (MQ below (hm_Q D cl kA tys f0 (some (.long v)) h') args s mc ms (hm_A f0)) (F0 m pc ls [.long v]) :=
  W.widen hc hs (W.lret hexec hb hr (fun t ht hW => ⟨rfl, hm_end hK hI ht hW⟩) hI.2.1.2.2 hdg hlocks)
theorem hm_aret {f0 : hm_H} {v : Option Nat} {C : String} (hexec : p.tables.exec = Jvm.exec) (hb : c.code = cc) (hr : meth.sig.returnType = some (.object C)) (hlocks : meth.locks = false) (hK : va_K D cl tys s) (hI : hm_I D cl kA (hm_A f0) s.heap h' H locs) (hc : cells ≤ mc) (hs : slots ≤ ms) (hdg : decode cc pc = .ok (.areturn, 1)) :
    W p l e R s m args below meth c H locs cells slots (MQ below (hm_Q D cl kA tys f0 (some (va_rf v)) h') args s mc ms (hm_A f0)) (F0 m pc ls [va_rf v]) :=
  W.widen hc hs (W.aret hexec hb hr (Or.inl ⟨C, rfl⟩) (by cases v with | none => exact Or.inl rfl | some a => exact Or.inr ⟨a, rfl⟩) (fun t ht hW => ⟨rfl, hm_end hK hI ht hW⟩) hI.2.1.2.2 hdg hlocks)
theorem hm_copy (hexec : p.tables.exec = Jvm.exec) (hb : c.code = cc) (hml : c.maxLocals = ls.size) (hown : s.vm.findClass own = some m.cls) (hlink : (Cond.methodLink own index arraycopyName).before args s = true) (hnat : (Cond.native arraycopyName).before args s = true) (hstat : (Cond.static arraycopyName).before args s = true) (hini : (Cond.initialized "java/lang/System").before args s = true)
    (hK : va_K D cl tys s) (hI : hm_I D cl kA A H0 h H locs) {t0 : Nat} (ht : tys[t0]? = some (kA 0, .int)) {r r2 : Option Nat} {sp dp n : Int32} (hg : hm_cp h r sp r2 dp n = some h')
    (hframes : 1 ≤ R.frames) (hlocals : (rest.map fun v => v.category).sum + (nativeFrameWords "java/lang/System" "arraycopy" 5 + 11) ≤ R.locals) (hdg : decode cc pc = .ok (.invokestatic index, 3))
    (kk : ∀ (H1 : Heap) (locs1 : List Loc), hm_I D cl kA A H0 h' H1 locs1 → W p l e R s m args below meth c H1 locs1 cells slots Q (F0 m (pc + 3) ls rest)) : W p l e R s m args below meth c H locs cells slots Q (F0 m pc ls (.int n :: .int dp :: va_rf r2 :: .int sp :: va_rf r :: rest)) := by
  obtain ⟨a0, a, n0, n1, f, g, rfl, rfl, ha0, ha1, ⟨h1, h2, h3⟩, h4, h5, rfl⟩ := hm_cp_s hg
  have nn : ∀ z : Int32, ¬ z < 0 → z.toInt = (z.toNatClampNeg : Int) := by
    intro z hz
    have hz0 : (0 : Int) ≤ z.toInt := by
      have := Int32.not_lt.mp hz
      simpa using Int32.le_iff_toInt_le.mp this
    show z.toInt = ((z.toInt.toNat : Nat) : Int)
    omega
  intro T hT X
  have hc0 : H[a0]? = some (vp_cell (kA 0) (n0, .inl f)) := (hI.1.1 _ _ ha0).1
  have hc1 : H[a]? = some (vp_cell (kA 0) (n1, .inl g)) := (hI.1.1 _ _ ha1).1
  obtain ⟨-, k0, hk0, cm0, hkk0⟩ := (hK.2 t0 _ ht).1 n0 (fun j => .int (f j))
  obtain ⟨-, k1, hk1, cm1, hkk1⟩ := (hK.2 t0 _ ht).1 n1 (fun j => .int (g j))
  obtain ⟨vm', X', step⟩ := X.arraycopy hexec hown hlink hnat hstat hini (src := a0) (dst := a) (cs := vp_cell (kA 0) (n0, .inl f)) (cd := vp_cell (kA 0) (n1, .inl g)) (srcPos := sp) (destPos := dp) (n := n) (by rw [hT]; exact hc0) (by rw [hT]; exact hc1)
    (fun _ h => by cases h) (fun _ h => by cases h) (fun h => by cases h) (fun h => by cases h) hk0 hk1 hkk0 hkk1 (by simp [refKind]) h1 h2 h3
    (by rw [nn sp h1, nn n h3]; show ¬ _ > ((arrV (kA 0) n0 (fun j => .int (f j))).slots.size : Int); rw [arrV_size]; omega)
    (by rw [nn dp h2, nn n h3]; show ¬ _ > ((arrV (kA 0) n1 (fun j => .int (g j))).slots.size : Int); rw [arrV_size]; omega)
    (fun vm₁ _ i hi => by
      have e : (vp_cell (kA 0) (n0, .inl f)).slots.getD (sp.toNatClampNeg + i) .null = .int (f (sp.toNatClampNeg + i)) := by
        show (arrV (kA 0) n0 (fun j => .int (f j))).slots.getD _ _ = _
        rw [Array.getD_eq_getD_getElem?, arrV_read _ _ (by omega)]
        rfl
      refine ⟨?_, ?_⟩
      · rw [e]
        rfl
      · rw [e]
        exact trivial)
    (g := F0 m pc ls (.int n :: .int dp :: .ref a :: .int sp :: .ref a0 :: rest)) rfl (by rw [hml]) (rest := rest) rfl (by rw [hb]; exact hdg) hframes (by show 2 * 0 + _ + _ ≤ _; omega)
  have e1 : copied (vp_cell (kA 0) (n0, .inl f)) (vp_cell (kA 0) (n1, .inl g)) sp dp n = vp_cell (kA 0) (n1, .inl (va_cpy f g sp.toNatClampNeg dp.toNatClampNeg n.toNatClampNeg)) := va_copied (fun z => .int z) (kA 0) (kA 0) f g h4
  rw [e1] at X' step
  generalize hfc : va_cpy f g sp.toNatClampNeg dp.toNatClampNeg n.toNatClampNeg = fc at *
  have hl : a < H.size := (Array.getElem?_eq_some_iff.mp hc1).1
  have hheap : ((T.setVm vm').setCell a (vp_cell (kA 0) (n1, .inl fc))).heap = H.setIfInBounds a (vp_cell (kA 0) (n1, .inl fc)) := by rw [← hT]; rfl
  have oq : ∀ q : Nat, q ≠ a → (H.setIfInBounds a (vp_cell (kA 0) (n1, .inl fc)))[q]? = H[q]? := fun q hq => by simp [Array.getElem?_setIfInBounds, Ne.symm hq]
  have hI1 := hI.up (k := 0) (x := .inl (0, n1, .inl fc)) (H1 := H.setIfInBounds a (vp_cell (kA 0) (n1, .inl fc))) ha1 (show (H.setIfInBounds a _)[a]? = some _ by simp [Array.getElem?_setIfInBounds, hl]) (by simp) oq
  obtain ⟨t, a1, b1⟩ := kk _ _ ⟨hI1.1, ⟨hI1.2.1.1, hI1.2.1.2.1, fun q hq => by
      rcases List.mem_append.mp hq with h9 | h9
      · exact hI.2.1.2.2 q h9
      · obtain ⟨z, -, hz⟩ := List.mem_map.mp h9
        rw [← hz]
        exact (hI.1.1 _ _ ha1).2⟩, hI.2.2⟩ _ hheap X'
  exact ⟨t, step t a1, b1⟩
theorem hm_vret_e {f0 h1 : hm_H} (he : some h1 = some h') (hexec : p.tables.exec = Jvm.exec) (hb : c.code = cc) (hr : meth.sig.returnType = none) (hlocks : meth.locks = false) (hK : va_K D cl tys s) (hI : hm_I D cl kA (hm_A f0) s.heap h1 H locs) (hc : cells ≤ mc) (hs : slots ≤ ms) (hdg : decode cc pc = .ok (.return_, 1)) :
    W p l e R s m args below meth c H locs cells slots (MQ below (hm_Q D cl kA tys f0 none h') args s mc ms (hm_A f0)) (F0 m pc ls []) := by
  cases he
  exact hm_vret hexec hb hr hlocks hK hI hc hs hdg
theorem hm_iret_e {f0 h1 : hm_H} {v w : Int32} (he : some (v, h1) = some (w, h')) (hexec : p.tables.exec = Jvm.exec) (hb : c.code = cc) (hr : meth.sig.returnType = some .int) (hlocks : meth.locks = false) (hK : va_K D cl tys s) (hI : hm_I D cl kA (hm_A f0) s.heap h1 H locs) (hc : cells ≤ mc) (hs : slots ≤ ms) (hdg : decode cc pc = .ok (.ireturn, 1)) :
    W p l e R s m args below meth c H locs cells slots (MQ below (hm_Q D cl kA tys f0 (some (.int w)) h') args s mc ms (hm_A f0)) (F0 m pc ls [.int v]) := by
  cases he
  exact hm_iret hexec hb hr hlocks hK hI hc hs hdg
theorem hm_zret_e {f0 h1 : hm_H} {v w : Int32} (he : some (v, h1) = some (w, h')) (hexec : p.tables.exec = Jvm.exec) (hb : c.code = cc) (hr : meth.sig.returnType = some .boolean) (hlocks : meth.locks = false) (hK : va_K D cl tys s) (hI : hm_I D cl kA (hm_A f0) s.heap h1 H locs) (hc : cells ≤ mc) (hs : slots ≤ ms) (hn : narrow .boolean (.int v) = .int v) (hdg : decode cc pc = .ok (.ireturn, 1)) :
    W p l e R s m args below meth c H locs cells slots (MQ below (hm_Q D cl kA tys f0 (some (.int w)) h') args s mc ms (hm_A f0)) (F0 m pc ls [.int v]) := by
  cases he
  exact hm_zret hexec hb hr hlocks hK hI hc hs hn hdg
theorem hm_lret_e {f0 h1 : hm_H} {v w : Int64} (he : some (v, h1) = some (w, h')) (hexec : p.tables.exec = Jvm.exec) (hb : c.code = cc) (hr : meth.sig.returnType = some .long) (hlocks : meth.locks = false) (hK : va_K D cl tys s) (hI : hm_I D cl kA (hm_A f0) s.heap h1 H locs) (hc : cells ≤ mc) (hs : slots ≤ ms) (hdg : decode cc pc = .ok (.lreturn, 1)) :
    W p l e R s m args below meth c H locs cells slots (MQ below (hm_Q D cl kA tys f0 (some (.long w)) h') args s mc ms (hm_A f0)) (F0 m pc ls [.long v]) := by
  cases he
  exact hm_lret hexec hb hr hlocks hK hI hc hs hdg
theorem hm_aret_e {f0 h1 : hm_H} {v w : Option Nat} {C : String} (he : some (v, h1) = some (w, h')) (hexec : p.tables.exec = Jvm.exec) (hb : c.code = cc) (hr : meth.sig.returnType = some (.object C)) (hlocks : meth.locks = false) (hK : va_K D cl tys s) (hI : hm_I D cl kA (hm_A f0) s.heap h1 H locs) (hc : cells ≤ mc) (hs : slots ≤ ms) (hdg : decode cc pc = .ok (.areturn, 1)) :
    W p l e R s m args below meth c H locs cells slots (MQ below (hm_Q D cl kA tys f0 (some (va_rf w)) h') args s mc ms (hm_A f0)) (F0 m pc ls [va_rf v]) := by
  cases he
  exact hm_aret hexec hb hr hlocks hK hI hc hs hdg
theorem hm_ti {x y : Int32} (he : y = x) (kk : W p l e R s m args below meth c H locs cells slots Q (F0 m pc ls (.int y :: rest))) : W p l e R s m args below meth c H locs cells slots Q (F0 m pc ls (.int x :: rest)) := by
  subst he
  exact kk
theorem hm_tj {x y : Int64} (he : y = x) (kk : W p l e R s m args below meth c H locs cells slots Q (F0 m pc ls (.long y :: rest))) : W p l e R s m args below meth c H locs cells slots Q (F0 m pc ls (.long x :: rest)) := by
  subst he
  exact kk
end HMC
theorem hm_nqo {C : String} {r : Option Nat} : narrow (.object C) (va_rf r) = va_rf r := by cases r <;> rfl
theorem hm_fqo {C : String} {r : Option Nat} : fits (.object C) (va_rf r) = true := by cases r <;> rfl
theorem hm_nqa {t : FieldType} {r : Option Nat} : narrow (.array t) (va_rf r) = va_rf r := by cases r <;> rfl
theorem hm_fqa {t : FieldType} {r : Option Nat} : fits (.array t) (va_rf r) = true := by cases r <;> rfl
theorem hm_neI {x y : Int32} (h : ¬ x = y) : x.toInt ≠ y.toInt := fun q => h (Int32.toInt_inj.mp q)
/-- a loop, by its fuel -/
def hm_loop {T : Type} (dead : T) (F : T → T) : Nat → T
  | 0 => dead
  | n + 1 => F (hm_loop dead F n)
theorem hm_loop_s {T : Type} (dead : T) (F : T → T) (n : Nat) : hm_loop dead F (n + 1) = F (hm_loop dead F n) := rfl
def hm_fu : Nat := 20000
end
section
-- ===== PART A: goes FIRST, ahead of the names: the tables' words, and 'selects' of the private methods out of them =====
/-- a private method of a class that the tables say can be made, by its rows of tables_1 -/
def lw_okq (q : MethodName × Nat) : Prop := (q.1.cls ≠ "java/lang/invoke/MethodHandle" ∧ q.1.cls ≠ "java/lang/invoke/VarHandle") ∧ Cond.instantiable q.1.cls q.2 ∈ tables_1 ∧ Cond.privateMethod q.1 ∈ tables_1 ∧ Cond.instanceMethod q.1 ∈ tables_1
theorem lw_p0 : lw_okq (⟨"BlitBoard", "surfaceAt", "(I)LBlitBoard$Surface;"⟩, 5) := ⟨⟨by decide +kernel, by decide +kernel⟩, List.mem_of_getElem? (i := 12) (by decide +kernel), List.mem_of_getElem? (i := 132) (by decide +kernel), List.mem_of_getElem? (i := 133) (by decide +kernel)⟩
theorem lw_p1 : lw_okq (⟨"BlitBoard", "putDots", "(LBlitBoard$Surface;LBlitBoard$Area;I)V"⟩, 5) := ⟨⟨by decide +kernel, by decide +kernel⟩, List.mem_of_getElem? (i := 12) (by decide +kernel), List.mem_of_getElem? (i := 191) (by decide +kernel), List.mem_of_getElem? (i := 192) (by decide +kernel)⟩
theorem lw_p2 : lw_okq (⟨"BlitBoard", "takeDots", "(LBlitBoard$Move;)V"⟩, 5) := ⟨⟨by decide +kernel, by decide +kernel⟩, List.mem_of_getElem? (i := 12) (by decide +kernel), List.mem_of_getElem? (i := 237) (by decide +kernel), List.mem_of_getElem? (i := 238) (by decide +kernel)⟩
theorem lw_p3 : lw_okq (⟨"BlitBoard", "dropKey", "(II)V"⟩, 5) := ⟨⟨by decide +kernel, by decide +kernel⟩, List.mem_of_getElem? (i := 12) (by decide +kernel), List.mem_of_getElem? (i := 248) (by decide +kernel), List.mem_of_getElem? (i := 249) (by decide +kernel)⟩
theorem lw_p4 : lw_okq (⟨"BlitBoard", "dropMasked", "(LBlitBoard$Area;LBlitBoard$Surface;)V"⟩, 5) := ⟨⟨by decide +kernel, by decide +kernel⟩, List.mem_of_getElem? (i := 12) (by decide +kernel), List.mem_of_getElem? (i := 256) (by decide +kernel), List.mem_of_getElem? (i := 257) (by decide +kernel)⟩
theorem lw_p5 : lw_okq (⟨"BlitBoard$Surface", "swapDots", "(II)V"⟩, 5) := ⟨⟨by decide +kernel, by decide +kernel⟩, List.mem_of_getElem? (i := 65) (by decide +kernel), List.mem_of_getElem? (i := 278) (by decide +kernel), List.mem_of_getElem? (i := 279) (by decide +kernel)⟩
theorem lw_p6 : lw_okq (⟨"BlitBoard", "spriteAt", "(I)LBlitBoard$Sprite;"⟩, 5) := ⟨⟨by decide +kernel, by decide +kernel⟩, List.mem_of_getElem? (i := 12) (by decide +kernel), List.mem_of_getElem? (i := 294) (by decide +kernel), List.mem_of_getElem? (i := 295) (by decide +kernel)⟩
theorem lw_p7 : lw_okq (⟨"BlitBoard$Teller", "addRow", "(I)V"⟩, 3) := ⟨⟨by decide +kernel, by decide +kernel⟩, List.mem_of_getElem? (i := 302) (by decide +kernel), List.mem_of_getElem? (i := 323) (by decide +kernel), List.mem_of_getElem? (i := 324) (by decide +kernel)⟩
theorem lw_p8 : lw_okq (⟨"BlitBoard$Teller", "toldEnd", "(I)I"⟩, 3) := ⟨⟨by decide +kernel, by decide +kernel⟩, List.mem_of_getElem? (i := 302) (by decide +kernel), List.mem_of_getElem? (i := 327) (by decide +kernel), List.mem_of_getElem? (i := 328) (by decide +kernel)⟩
theorem lw_p9 : lw_okq (⟨"BlitBoard$Teller", "kindAt", "(II)I"⟩, 3) := ⟨⟨by decide +kernel, by decide +kernel⟩, List.mem_of_getElem? (i := 302) (by decide +kernel), List.mem_of_getElem? (i := 331) (by decide +kernel), List.mem_of_getElem? (i := 332) (by decide +kernel)⟩
theorem lw_p10 : lw_okq (⟨"BlitBoard$Teller", "isThree", "(II)Z"⟩, 3) := ⟨⟨by decide +kernel, by decide +kernel⟩, List.mem_of_getElem? (i := 302) (by decide +kernel), List.mem_of_getElem? (i := 335) (by decide +kernel), List.mem_of_getElem? (i := 336) (by decide +kernel)⟩
theorem lw_p11 : lw_okq (⟨"BlitBoard$Teller", "addStretch", "(III)V"⟩, 3) := ⟨⟨by decide +kernel, by decide +kernel⟩, List.mem_of_getElem? (i := 302) (by decide +kernel), List.mem_of_getElem? (i := 339) (by decide +kernel), List.mem_of_getElem? (i := 340) (by decide +kernel)⟩
theorem lw_p12 : lw_okq (⟨"BlitBoardModel", "isSurface", "(I)Z"⟩, 16) := ⟨⟨by decide +kernel, by decide +kernel⟩, List.mem_of_getElem? (i := 400) (by decide +kernel), List.mem_of_getElem? (i := 465) (by decide +kernel), List.mem_of_getElem? (i := 466) (by decide +kernel)⟩
theorem lw_p13 : lw_okq (⟨"BlitBoardModel", "isPlace", "(IJJ)Z"⟩, 16) := ⟨⟨by decide +kernel, by decide +kernel⟩, List.mem_of_getElem? (i := 400) (by decide +kernel), List.mem_of_getElem? (i := 479) (by decide +kernel), List.mem_of_getElem? (i := 480) (by decide +kernel)⟩
theorem lw_p14 : lw_okq (⟨"BlitBoardModel", "fits", "(II)Z"⟩, 16) := ⟨⟨by decide +kernel, by decide +kernel⟩, List.mem_of_getElem? (i := 400) (by decide +kernel), List.mem_of_getElem? (i := 483) (by decide +kernel), List.mem_of_getElem? (i := 484) (by decide +kernel)⟩
theorem lw_p15 : lw_okq (⟨"BlitBoardModel", "dot", "(IJJ)I"⟩, 16) := ⟨⟨by decide +kernel, by decide +kernel⟩, List.mem_of_getElem? (i := 400) (by decide +kernel), List.mem_of_getElem? (i := 491) (by decide +kernel), List.mem_of_getElem? (i := 492) (by decide +kernel)⟩
def lw_privs_1 : List (MethodName × Nat) := [(⟨"BlitBoard", "surfaceAt", "(I)LBlitBoard$Surface;"⟩, 5), (⟨"BlitBoard", "putDots", "(LBlitBoard$Surface;LBlitBoard$Area;I)V"⟩, 5), (⟨"BlitBoard", "takeDots", "(LBlitBoard$Move;)V"⟩, 5), (⟨"BlitBoard", "dropKey", "(II)V"⟩, 5), (⟨"BlitBoard", "dropMasked", "(LBlitBoard$Area;LBlitBoard$Surface;)V"⟩, 5), (⟨"BlitBoard$Surface", "swapDots", "(II)V"⟩, 5), (⟨"BlitBoard", "spriteAt", "(I)LBlitBoard$Sprite;"⟩, 5), (⟨"BlitBoard$Teller", "addRow", "(I)V"⟩, 3), (⟨"BlitBoard$Teller", "toldEnd", "(I)I"⟩, 3), (⟨"BlitBoard$Teller", "kindAt", "(II)I"⟩, 3), (⟨"BlitBoard$Teller", "isThree", "(II)Z"⟩, 3), (⟨"BlitBoard$Teller", "addStretch", "(III)V"⟩, 3), (⟨"BlitBoardModel", "isSurface", "(I)Z"⟩, 16), (⟨"BlitBoardModel", "isPlace", "(IJJ)Z"⟩, 16), (⟨"BlitBoardModel", "fits", "(II)Z"⟩, 16), (⟨"BlitBoardModel", "dot", "(IJJ)I"⟩, 16)]
theorem lw_r1 : ∀ q ∈ lw_privs_1, lw_okq q := List.forall_mem_cons.mpr ⟨lw_p0, List.forall_mem_cons.mpr ⟨lw_p1, List.forall_mem_cons.mpr ⟨lw_p2, List.forall_mem_cons.mpr ⟨lw_p3, List.forall_mem_cons.mpr ⟨lw_p4, List.forall_mem_cons.mpr ⟨lw_p5, List.forall_mem_cons.mpr ⟨lw_p6, List.forall_mem_cons.mpr ⟨lw_p7, List.forall_mem_cons.mpr ⟨lw_p8, List.forall_mem_cons.mpr ⟨lw_p9, List.forall_mem_cons.mpr ⟨lw_p10, List.forall_mem_cons.mpr ⟨lw_p11, List.forall_mem_cons.mpr ⟨lw_p12, List.forall_mem_cons.mpr ⟨lw_p13, List.forall_mem_cons.mpr ⟨lw_p14, List.forall_mem_cons.mpr ⟨lw_p15, fun _ h => absurd h List.not_mem_nil⟩⟩⟩⟩⟩⟩⟩⟩⟩⟩⟩⟩⟩⟩⟩⟩
theorem lw_p16 : lw_okq (⟨"BlitBoardModel", "isInClip", "(IJJ)Z"⟩, 16) := ⟨⟨by decide +kernel, by decide +kernel⟩, List.mem_of_getElem? (i := 400) (by decide +kernel), List.mem_of_getElem? (i := 503) (by decide +kernel), List.mem_of_getElem? (i := 504) (by decide +kernel)⟩
theorem lw_p17 : lw_okq (⟨"BlitBoardModel", "fitted", "(II)I"⟩, 16) := ⟨⟨by decide +kernel, by decide +kernel⟩, List.mem_of_getElem? (i := 400) (by decide +kernel), List.mem_of_getElem? (i := 510) (by decide +kernel), List.mem_of_getElem? (i := 511) (by decide +kernel)⟩
theorem lw_p18 : lw_okq (⟨"BlitBoardModel", "areAlike", "(IIII)Z"⟩, 16) := ⟨⟨by decide +kernel, by decide +kernel⟩, List.mem_of_getElem? (i := 400) (by decide +kernel), List.mem_of_getElem? (i := 518) (by decide +kernel), List.mem_of_getElem? (i := 519) (by decide +kernel)⟩
theorem lw_p19 : lw_okq (⟨"BlitBoardModel", "bring", "(IIIIIIIIIII)I"⟩, 16) := ⟨⟨by decide +kernel, by decide +kernel⟩, List.mem_of_getElem? (i := 400) (by decide +kernel), List.mem_of_getElem? (i := 522) (by decide +kernel), List.mem_of_getElem? (i := 523) (by decide +kernel)⟩
theorem lw_p20 : lw_okq (⟨"BlitBoardModel", "isSprite", "(I)Z"⟩, 16) := ⟨⟨by decide +kernel, by decide +kernel⟩, List.mem_of_getElem? (i := 400) (by decide +kernel), List.mem_of_getElem? (i := 550) (by decide +kernel), List.mem_of_getElem? (i := 551) (by decide +kernel)⟩
theorem lw_p21 : lw_okq (⟨"BlitBoardModel", "tellRow", "(III)V"⟩, 16) := ⟨⟨by decide +kernel, by decide +kernel⟩, List.mem_of_getElem? (i := 400) (by decide +kernel), List.mem_of_getElem? (i := 554) (by decide +kernel), List.mem_of_getElem? (i := 555) (by decide +kernel)⟩
theorem lw_p22 : lw_okq (⟨"BlitBoardModel", "tellDrawn", "(IIII)V"⟩, 16) := ⟨⟨by decide +kernel, by decide +kernel⟩, List.mem_of_getElem? (i := 400) (by decide +kernel), List.mem_of_getElem? (i := 558) (by decide +kernel), List.mem_of_getElem? (i := 559) (by decide +kernel)⟩
theorem lw_p23 : lw_okq (⟨"BlitBoardModel", "alike", "(IIII)I"⟩, 16) := ⟨⟨by decide +kernel, by decide +kernel⟩, List.mem_of_getElem? (i := 400) (by decide +kernel), List.mem_of_getElem? (i := 562) (by decide +kernel), List.mem_of_getElem? (i := 563) (by decide +kernel)⟩
theorem lw_p24 : lw_okq (⟨"BlitBoardModel", "tellStretch", "(IIIII)V"⟩, 16) := ⟨⟨by decide +kernel, by decide +kernel⟩, List.mem_of_getElem? (i := 400) (by decide +kernel), List.mem_of_getElem? (i := 566) (by decide +kernel), List.mem_of_getElem? (i := 567) (by decide +kernel)⟩
theorem lw_p25 : lw_okq (⟨"BlitBoardModel", "put", "(I)V"⟩, 16) := ⟨⟨by decide +kernel, by decide +kernel⟩, List.mem_of_getElem? (i := 400) (by decide +kernel), List.mem_of_getElem? (i := 570) (by decide +kernel), List.mem_of_getElem? (i := 571) (by decide +kernel)⟩
theorem lw_p26 : lw_okq (⟨"BlitBoardModel", "readSprite", "(II)I"⟩, 16) := ⟨⟨by decide +kernel, by decide +kernel⟩, List.mem_of_getElem? (i := 400) (by decide +kernel), List.mem_of_getElem? (i := 590) (by decide +kernel), List.mem_of_getElem? (i := 591) (by decide +kernel)⟩
theorem lw_p27 : lw_okq (⟨"BlitBoardModel", "add", "(III)V"⟩, 16) := ⟨⟨by decide +kernel, by decide +kernel⟩, List.mem_of_getElem? (i := 400) (by decide +kernel), List.mem_of_getElem? (i := 594) (by decide +kernel), List.mem_of_getElem? (i := 595) (by decide +kernel)⟩
def lw_privs_2 : List (MethodName × Nat) := [(⟨"BlitBoardModel", "isInClip", "(IJJ)Z"⟩, 16), (⟨"BlitBoardModel", "fitted", "(II)I"⟩, 16), (⟨"BlitBoardModel", "areAlike", "(IIII)Z"⟩, 16), (⟨"BlitBoardModel", "bring", "(IIIIIIIIIII)I"⟩, 16), (⟨"BlitBoardModel", "isSprite", "(I)Z"⟩, 16), (⟨"BlitBoardModel", "tellRow", "(III)V"⟩, 16), (⟨"BlitBoardModel", "tellDrawn", "(IIII)V"⟩, 16), (⟨"BlitBoardModel", "alike", "(IIII)I"⟩, 16), (⟨"BlitBoardModel", "tellStretch", "(IIIII)V"⟩, 16), (⟨"BlitBoardModel", "put", "(I)V"⟩, 16), (⟨"BlitBoardModel", "readSprite", "(II)I"⟩, 16), (⟨"BlitBoardModel", "add", "(III)V"⟩, 16)]
theorem lw_r2 : ∀ q ∈ lw_privs_2, lw_okq q := List.forall_mem_cons.mpr ⟨lw_p16, List.forall_mem_cons.mpr ⟨lw_p17, List.forall_mem_cons.mpr ⟨lw_p18, List.forall_mem_cons.mpr ⟨lw_p19, List.forall_mem_cons.mpr ⟨lw_p20, List.forall_mem_cons.mpr ⟨lw_p21, List.forall_mem_cons.mpr ⟨lw_p22, List.forall_mem_cons.mpr ⟨lw_p23, List.forall_mem_cons.mpr ⟨lw_p24, List.forall_mem_cons.mpr ⟨lw_p25, List.forall_mem_cons.mpr ⟨lw_p26, List.forall_mem_cons.mpr ⟨lw_p27, fun _ h => absurd h List.not_mem_nil⟩⟩⟩⟩⟩⟩⟩⟩⟩⟩⟩⟩
def lw_privs : List (MethodName × Nat) := lw_privs_1 ++ (lw_privs_2)
def lw_tbl : List Cond := k2_sels lw_privs ++ tables_1
theorem lw_privs_ok : ∀ q ∈ lw_privs, lw_okq q := by
  show ∀ q ∈ lw_privs_1 ++ (lw_privs_2), lw_okq q
  exact List.forall_mem_append.mpr ⟨lw_r1, lw_r2⟩
end
section
/-! ===== BEGIN words of one list among another's, by their places ===== -/
theorem goodIn_r {big : List Cond} (ws : List Cond) (ps : List Nat) (hp : ws = ps.filterMap (fun i => big[i]?)) (h : ws.all goodWord = true) : GoodIn big ws := by
  intro w hw
  have h1 := List.all_eq_true.mp h w hw
  rw [hp] at hw
  obtain ⟨i, -, hi⟩ := List.mem_filterMap.mp hw
  have hm : w ∈ big := by first | exact List.mem_of_getElem? hi | exact List.getElem?_mem hi
  exact ⟨hm, good_of_word h1⟩
theorem goodIn_app {big a b : List Cond} (ha : GoodIn big a) (hb : GoodIn big b) : GoodIn big (a ++ b) := fun w h => (List.mem_append.mp h).elim (ha w) (hb w)
theorem goodIn_ca {big a b : List Cond} {c : Cond} (ha : GoodIn big (c :: a)) (hb : GoodIn big b) : GoodIn big (c :: (a ++ b)) := fun w h => (List.mem_cons.mp h).elim (fun e => ha w (List.mem_cons.mpr (Or.inl e))) (fun h => (List.mem_append.mp h).elim (fun h => ha w (List.mem_cons.mpr (Or.inr h))) (hb w))
theorem goodIn_sub {big ws : List Cond} (hm : ∀ w ∈ ws, w ∈ big) (h : ws.all goodWord = true) : GoodIn big ws := fun w hw => ⟨hm w hw, good_of_word (List.all_eq_true.mp h w hw)⟩
/-! ===== END ===== -/

/-! ===== BEGIN printed: names, fields, word lists, decode rows ===== -/
def RX0 : String := "BlitBoard$Area"
def TX0 : u_T := fun k => match k with
  | 0 => ("BlitBoard$Area", "left", "J", true)
  | 1 => ("BlitBoard$Area", "top", "J", true)
  | 2 => ("BlitBoard$Area", "wide", "I", true)
  | _ => ("BlitBoard$Area", "high", "I", true)
def tyX0 : Nat → FieldType := fun k => match k with
  | 0 => .long
  | 1 => .long
  | 2 => .int
  | _ => .int
abbrev wsX00 : List Cond := u_ws RX0 TX0 4
theorem nmX0 : ∀ a, a < 4 → ∀ b, b < 4 → a ≠ b → (TX0 a).2.1 ≠ (TX0 b).2.1 := by decide +kernel
theorem tyX0_ok : ∀ k, k < 4 → parseFieldDescriptor (TX0 k).2.2.1 = some (tyX0 k) := by decide +kernel
abbrev cX0_init : ByteArray := prog_2_method_1_code
def yX0_init : MethodName := ⟨RX0, "<init>", "(JJII)V"⟩
abbrev cX0_size : ByteArray := prog_2_method_2_code
def yX0_size : MethodName := ⟨RX0, "size", "()I"⟩
abbrev cX0_holds : ByteArray := prog_2_method_3_code
def yX0_holds : MethodName := ⟨RX0, "holds", "(JJ)Z"⟩
abbrev cX0_movedBy : ByteArray := prog_2_method_4_code
def yX0_movedBy : MethodName := ⟨RX0, "movedBy", "(JJ)LBlitBoard$Area;"⟩
abbrev cX0_shared : ByteArray := prog_2_method_5_code
def yX0_shared : MethodName := ⟨RX0, "shared", "(LBlitBoard$Area;)LBlitBoard$Area;"⟩
def RX1 : String := "BlitBoard$Move"
def TX1 : u_T := fun k => match k with
  | 0 => ("BlitBoard$Move", "from", "LBlitBoard$Surface;", true)
  | 1 => ("BlitBoard$Move", "to", "LBlitBoard$Surface;", true)
  | 2 => ("BlitBoard$Move", "source", "LBlitBoard$Area;", true)
  | _ => ("BlitBoard$Move", "target", "LBlitBoard$Area;", true)
def tyX1 : Nat → FieldType := fun k => match k with
  | 0 => .object "BlitBoard$Surface"
  | 1 => .object "BlitBoard$Surface"
  | 2 => .object "BlitBoard$Area"
  | _ => .object "BlitBoard$Area"
abbrev wsX10 : List Cond := u_ws RX1 TX1 4
theorem nmX1 : ∀ a, a < 4 → ∀ b, b < 4 → a ≠ b → (TX1 a).2.1 ≠ (TX1 b).2.1 := by decide +kernel
theorem tyX1_ok : ∀ k, k < 4 → parseFieldDescriptor (TX1 k).2.2.1 = some (tyX1 k) := by decide +kernel
abbrev cX1_init : ByteArray := prog_3_method_1_code
def yX1_init : MethodName := ⟨RX1, "<init>", "(LBlitBoard$Surface;LBlitBoard$Area;LBlitBoard$Surface;II)V"⟩
abbrev cX1_keepsDepth : ByteArray := prog_3_method_2_code
def yX1_keepsDepth : MethodName := ⟨RX1, "keepsDepth", "()Z"⟩
def RX2 : String := "BlitBoard$Sprite"
def TX2 : u_T := fun k => match k with
  | 0 => ("BlitBoard$Sprite", "bytes", "[I", true)
  | 1 => ("BlitBoard$Sprite", "size", "I", false)
  | _ => ("BlitBoard$Sprite", "spilled", "Z", false)
def tyX2 : Nat → FieldType := fun k => match k with
  | 0 => .array .int
  | 1 => .int
  | _ => .boolean
abbrev wsX20 : List Cond := u_ws RX2 TX2 3
theorem nmX2 : ∀ a, a < 3 → ∀ b, b < 3 → a ≠ b → (TX2 a).2.1 ≠ (TX2 b).2.1 := by decide +kernel
theorem tyX2_ok : ∀ k, k < 3 → parseFieldDescriptor (TX2 k).2.2.1 = some (tyX2 k) := by decide +kernel
abbrev cX2_init : ByteArray := prog_4_method_1_code
def yX2_init : MethodName := ⟨RX2, "<init>", "()V"⟩
abbrev cX2_empty : ByteArray := prog_4_method_2_code
def yX2_empty : MethodName := ⟨RX2, "empty", "()V"⟩
abbrev cX2_append : ByteArray := prog_4_method_3_code
def yX2_append : MethodName := ⟨RX2, "append", "(I)V"⟩
abbrev cX2_firstWrong : ByteArray := prog_4_method_4_code
def yX2_firstWrong : MethodName := ⟨RX2, "firstWrong", "(I)I"⟩
abbrev cX2_paint : ByteArray := prog_4_method_5_code
def yX2_paint : MethodName := ⟨RX2, "paint", "(LBlitBoard$Surface;II)V"⟩
abbrev cX2_paintDots : ByteArray := prog_4_method_6_code
def yX2_paintDots : MethodName := ⟨RX2, "paintDots", "(LBlitBoard$Surface;JJII)V"⟩
abbrev cX2_isStretch : ByteArray := prog_4_method_7_code
def yX2_isStretch : MethodName := ⟨RX2, "isStretch", "(I)Z"⟩
abbrev cX2_stretchLength : ByteArray := prog_4_method_8_code
def yX2_stretchLength : MethodName := ⟨RX2, "stretchLength", "(I)I"⟩
abbrev cX2_dotBytes : ByteArray := prog_4_method_9_code
def yX2_dotBytes : MethodName := ⟨RX2, "dotBytes", "(I)I"⟩
def RX3 : String := "BlitBoard$Surface"
def TX3 : u_T := fun k => match k with
  | 0 => ("BlitBoard$Surface", "depth", "I", true)
  | 1 => ("BlitBoard$Surface", "largest", "I", true)
  | 2 => ("BlitBoard$Surface", "whole", "LBlitBoard$Area;", true)
  | 3 => ("BlitBoard$Surface", "dots", "[I", true)
  | _ => ("BlitBoard$Surface", "clip", "LBlitBoard$Area;", false)
def tyX3 : Nat → FieldType := fun k => match k with
  | 0 => .int
  | 1 => .int
  | 2 => .object "BlitBoard$Area"
  | 3 => .array .int
  | _ => .object "BlitBoard$Area"
abbrev wsX30 : List Cond := u_ws RX3 TX3 5
theorem nmX3 : ∀ a, a < 5 → ∀ b, b < 5 → a ≠ b → (TX3 a).2.1 ≠ (TX3 b).2.1 := by decide +kernel
theorem tyX3_ok : ∀ k, k < 5 → parseFieldDescriptor (TX3 k).2.2.1 = some (tyX3 k) := by decide +kernel
abbrev cX3_init : ByteArray := prog_5_method_1_code
def yX3_init : MethodName := ⟨RX3, "<init>", "(III)V"⟩
abbrev cX3_fits : ByteArray := prog_5_method_2_code
def yX3_fits : MethodName := ⟨RX3, "fits", "(I)Z"⟩
abbrev cX3_indexOf : ByteArray := prog_5_method_3_code
def yX3_indexOf : MethodName := ⟨RX3, "indexOf", "(JJ)I"⟩
abbrev cX3_isOne : ByteArray := prog_5_method_4_code
def yX3_isOne : MethodName := ⟨RX3, "isOne", "(JJ)Z"⟩
abbrev cX3_putClipped : ByteArray := prog_5_method_5_code
def yX3_putClipped : MethodName := ⟨RX3, "putClipped", "(JJI)V"⟩
abbrev cX3_swapLeftAndRight : ByteArray := prog_5_method_6_code
def yX3_swapLeftAndRight : MethodName := ⟨RX3, "swapLeftAndRight", "()V"⟩
abbrev cX3_swapTopAndBottom : ByteArray := prog_5_method_7_code
def yX3_swapTopAndBottom : MethodName := ⟨RX3, "swapTopAndBottom", "()V"⟩
abbrev cX3_swapDots : ByteArray := prog_5_method_8_code
def yX3_swapDots : MethodName := ⟨RX3, "swapDots", "(II)V"⟩
abbrev cX3_isSound : ByteArray := prog_5_method_9_code
def yX3_isSound : MethodName := ⟨RX3, "isSound", "()Z"⟩
def RX4 : String := "BlitBoard$Teller"
def TX4 : u_T := fun k => match k with
  | 0 => ("BlitBoard$Teller", "of", "LBlitBoard$Surface;", true)
  | 1 => ("BlitBoard$Teller", "key", "I", true)
  | _ => ("BlitBoard$Teller", "into", "LBlitBoard$Sprite;", true)
def tyX4 : Nat → FieldType := fun k => match k with
  | 0 => .object "BlitBoard$Surface"
  | 1 => .int
  | _ => .object "BlitBoard$Sprite"
abbrev wsX40 : List Cond := u_ws RX4 TX4 3
theorem nmX4 : ∀ a, a < 3 → ∀ b, b < 3 → a ≠ b → (TX4 a).2.1 ≠ (TX4 b).2.1 := by decide +kernel
theorem tyX4_ok : ∀ k, k < 3 → parseFieldDescriptor (TX4 k).2.2.1 = some (tyX4 k) := by decide +kernel
abbrev cX4_init : ByteArray := prog_6_method_1_code
def yX4_init : MethodName := ⟨RX4, "<init>", "(LBlitBoard$Surface;ILBlitBoard$Sprite;)V"⟩
abbrev cX4_addRows : ByteArray := prog_6_method_2_code
def yX4_addRows : MethodName := ⟨RX4, "addRows", "()V"⟩
abbrev cX4_addRow : ByteArray := prog_6_method_3_code
def yX4_addRow : MethodName := ⟨RX4, "addRow", "(I)V"⟩
abbrev cX4_toldEnd : ByteArray := prog_6_method_4_code
def yX4_toldEnd : MethodName := ⟨RX4, "toldEnd", "(I)I"⟩
abbrev cX4_kindAt : ByteArray := prog_6_method_5_code
def yX4_kindAt : MethodName := ⟨RX4, "kindAt", "(II)I"⟩
abbrev cX4_isThree : ByteArray := prog_6_method_6_code
def yX4_isThree : MethodName := ⟨RX4, "isThree", "(II)Z"⟩
abbrev cX4_addStretch : ByteArray := prog_6_method_7_code
def yX4_addStretch : MethodName := ⟨RX4, "addStretch", "(III)V"⟩
def RX5 : String := "BlitBoard"
def TX5 : u_T := fun k => match k with
  | 0 => ("BlitBoard", "surfaces", "[LBlitBoard$Surface;", true)
  | 1 => ("BlitBoard", "surfaceCount", "I", false)
  | 2 => ("BlitBoard", "sprites", "[LBlitBoard$Sprite;", true)
  | 3 => ("BlitBoard", "spare", "LBlitBoard$Sprite;", false)
  | _ => ("BlitBoard", "taken", "[I", true)
def tyX5 : Nat → FieldType := fun k => match k with
  | 0 => .array (.object "BlitBoard$Surface")
  | 1 => .int
  | 2 => .array (.object "BlitBoard$Sprite")
  | 3 => .object "BlitBoard$Sprite"
  | _ => .array .int
abbrev wsX50 : List Cond := u_ws RX5 TX5 5
theorem nmX5 : ∀ a, a < 5 → ∀ b, b < 5 → a ≠ b → (TX5 a).2.1 ≠ (TX5 b).2.1 := by decide +kernel
theorem tyX5_ok : ∀ k, k < 5 → parseFieldDescriptor (TX5 k).2.2.1 = some (tyX5 k) := by decide +kernel
abbrev cX5_init : ByteArray := prog_1_method_1_code
def yX5_init : MethodName := ⟨RX5, "<init>", "()V"⟩
abbrev cX5_make : ByteArray := prog_1_method_2_code
def yX5_make : MethodName := ⟨RX5, "make", "(III)I"⟩
abbrev cX5_clip : ByteArray := prog_1_method_3_code
def yX5_clip : MethodName := ⟨RX5, "clip", "(IIIII)I"⟩
abbrev cX5_set : ByteArray := prog_1_method_4_code
def yX5_set : MethodName := ⟨RX5, "set", "(IIII)I"⟩
abbrev cX5_get : ByteArray := prog_1_method_5_code
def yX5_get : MethodName := ⟨RX5, "get", "(III)I"⟩
abbrev cX5_told : ByteArray := prog_1_method_6_code
def yX5_told : MethodName := ⟨RX5, "told", "(II)I"⟩
abbrev cX5_fill : ByteArray := prog_1_method_7_code
def yX5_fill : MethodName := ⟨RX5, "fill", "(IIIIIII)I"⟩
abbrev cX5_copy : ByteArray := prog_1_method_8_code
def yX5_copy : MethodName := ⟨RX5, "copy", "(IIIIIIIII)I"⟩
abbrev cX5_keyed : ByteArray := prog_1_method_9_code
def yX5_keyed : MethodName := ⟨RX5, "keyed", "(IIIIIIIII)I"⟩
abbrev cX5_masked : ByteArray := prog_1_method_10_code
def yX5_masked : MethodName := ⟨RX5, "masked", "(IIIIIIIII)I"⟩
abbrev cX5_spread : ByteArray := prog_1_method_11_code
def yX5_spread : MethodName := ⟨RX5, "spread", "(IIIIIIIIII)I"⟩
abbrev cX5_turn : ByteArray := prog_1_method_12_code
def yX5_turn : MethodName := ⟨RX5, "turn", "(II)I"⟩
abbrev cX5_count : ByteArray := prog_1_method_13_code
def yX5_count : MethodName := ⟨RX5, "count", "(II)I"⟩
abbrev cX5_tell : ByteArray := prog_1_method_14_code
def yX5_tell : MethodName := ⟨RX5, "tell", "(III)I"⟩
abbrev cX5_load : ByteArray := prog_1_method_15_code
def yX5_load : MethodName := ⟨RX5, "load", "(IJI)I"⟩
abbrev cX5_forget : ByteArray := prog_1_method_16_code
def yX5_forget : MethodName := ⟨RX5, "forget", "(I)I"⟩
abbrev cX5_part : ByteArray := prog_1_method_17_code
def yX5_part : MethodName := ⟨RX5, "part", "(II)I"⟩
abbrev cX5_draw : ByteArray := prog_1_method_18_code
def yX5_draw : MethodName := ⟨RX5, "draw", "(IIII)I"⟩
abbrev cX5_check : ByteArray := prog_1_method_19_code
def yX5_check : MethodName := ⟨RX5, "check", "()I"⟩
abbrev cX5_surfaceAt : ByteArray := prog_1_method_20_code
def yX5_surfaceAt : MethodName := ⟨RX5, "surfaceAt", "(I)LBlitBoard$Surface;"⟩
abbrev cX5_spriteAt : ByteArray := prog_1_method_21_code
def yX5_spriteAt : MethodName := ⟨RX5, "spriteAt", "(I)LBlitBoard$Sprite;"⟩
abbrev cX5_isSide : ByteArray := prog_1_method_22_code
def yX5_isSide : MethodName := ⟨RX5, "isSide", "(I)Z"⟩
abbrev cX5_isOperation : ByteArray := prog_1_method_23_code
def yX5_isOperation : MethodName := ⟨RX5, "isOperation", "(I)Z"⟩
abbrev cX5_moveOf : ByteArray := prog_1_method_24_code
def yX5_moveOf : MethodName := ⟨RX5, "moveOf", "(LBlitBoard$Surface;LBlitBoard$Area;LBlitBoard$Surface;II)LBlitBoard$Move;"⟩
abbrev cX5_takeDots : ByteArray := prog_1_method_25_code
def yX5_takeDots : MethodName := ⟨RX5, "takeDots", "(LBlitBoard$Move;)V"⟩
abbrev cX5_dropKey : ByteArray := prog_1_method_26_code
def yX5_dropKey : MethodName := ⟨RX5, "dropKey", "(II)V"⟩
abbrev cX5_dropMasked : ByteArray := prog_1_method_27_code
def yX5_dropMasked : MethodName := ⟨RX5, "dropMasked", "(LBlitBoard$Area;LBlitBoard$Surface;)V"⟩
abbrev cX5_putDots : ByteArray := prog_1_method_28_code
def yX5_putDots : MethodName := ⟨RX5, "putDots", "(LBlitBoard$Surface;LBlitBoard$Area;I)V"⟩
abbrev cX5_combined : ByteArray := prog_1_method_29_code
def yX5_combined : MethodName := ⟨RX5, "combined", "(III)I"⟩
def RX6 : String := "BlitBoardModel"
def TX6 : u_T := fun k => match k with
  | 0 => ("BlitBoardModel", "surfaces", "I", false)
  | 1 => ("BlitBoardModel", "depths", "[I", true)
  | 2 => ("BlitBoardModel", "wides", "[I", true)
  | 3 => ("BlitBoardModel", "highs", "[I", true)
  | 4 => ("BlitBoardModel", "clips", "[I", true)
  | 5 => ("BlitBoardModel", "dots", "[I", true)
  | 6 => ("BlitBoardModel", "fresh", "[I", true)
  | 7 => ("BlitBoardModel", "comes", "[Z", true)
  | 8 => ("BlitBoardModel", "sizes", "[I", true)
  | 9 => ("BlitBoardModel", "bytes", "[I", true)
  | 10 => ("BlitBoardModel", "made", "[I", true)
  | 11 => ("BlitBoardModel", "madeSize", "I", false)
  | 12 => ("BlitBoardModel", "drawn", "I", false)
  | 13 => ("BlitBoardModel", "columns", "[I", true)
  | 14 => ("BlitBoardModel", "rows", "[I", true)
  | _ => ("BlitBoardModel", "numbers", "[I", true)
def tyX6 : Nat → FieldType := fun k => match k with
  | 0 => .int
  | 1 => .array .int
  | 2 => .array .int
  | 3 => .array .int
  | 4 => .array .int
  | 5 => .array .int
  | 6 => .array .int
  | 7 => .array .boolean
  | 8 => .array .int
  | 9 => .array .int
  | 10 => .array .int
  | 11 => .int
  | 12 => .int
  | 13 => .array .int
  | 14 => .array .int
  | _ => .array .int
abbrev wsX60 : List Cond := u_ws RX6 TX6 16
theorem nmX6 : ∀ a, a < 16 → ∀ b, b < 16 → a ≠ b → (TX6 a).2.1 ≠ (TX6 b).2.1 := by decide +kernel
theorem tyX6_ok : ∀ k, k < 16 → parseFieldDescriptor (TX6 k).2.2.1 = some (tyX6 k) := by decide +kernel
abbrev cX6_init : ByteArray := prog_8_method_1_code
def yX6_init : MethodName := ⟨RX6, "<init>", "()V"⟩
abbrev cX6_isSurface : ByteArray := prog_8_method_2_code
def yX6_isSurface : MethodName := ⟨RX6, "isSurface", "(I)Z"⟩
abbrev cX6_isSpan : ByteArray := prog_8_method_3_code
def yX6_isSpan : MethodName := ⟨RX6, "isSpan", "(I)Z"⟩
abbrev cX6_isPlace : ByteArray := prog_8_method_4_code
def yX6_isPlace : MethodName := ⟨RX6, "isPlace", "(IJJ)Z"⟩
abbrev cX6_isInClip : ByteArray := prog_8_method_5_code
def yX6_isInClip : MethodName := ⟨RX6, "isInClip", "(IJJ)Z"⟩
abbrev cX6_fits : ByteArray := prog_8_method_6_code
def yX6_fits : MethodName := ⟨RX6, "fits", "(II)Z"⟩
abbrev cX6_dot : ByteArray := prog_8_method_7_code
def yX6_dot : MethodName := ⟨RX6, "dot", "(IJJ)I"⟩
abbrev cX6_make : ByteArray := prog_8_method_8_code
def yX6_make : MethodName := ⟨RX6, "make", "(III)I"⟩
abbrev cX6_lesser : ByteArray := prog_8_method_9_code
def yX6_lesser : MethodName := ⟨RX6, "lesser", "(JJ)J"⟩
abbrev cX6_clip : ByteArray := prog_8_method_10_code
def yX6_clip : MethodName := ⟨RX6, "clip", "(IIIII)I"⟩
abbrev cX6_set : ByteArray := prog_8_method_11_code
def yX6_set : MethodName := ⟨RX6, "set", "(IIII)I"⟩
abbrev cX6_get : ByteArray := prog_8_method_12_code
def yX6_get : MethodName := ⟨RX6, "get", "(III)I"⟩
abbrev cX6_told : ByteArray := prog_8_method_13_code
def yX6_told : MethodName := ⟨RX6, "told", "(II)I"⟩
abbrev cX6_combined : ByteArray := prog_8_method_14_code
def yX6_combined : MethodName := ⟨RX6, "combined", "(III)I"⟩
abbrev cX6_fitted : ByteArray := prog_8_method_15_code
def yX6_fitted : MethodName := ⟨RX6, "fitted", "(II)I"⟩
abbrev cX6_fill : ByteArray := prog_8_method_16_code
def yX6_fill : MethodName := ⟨RX6, "fill", "(IIIIIII)I"⟩
abbrev cX6_bring : ByteArray := prog_8_method_17_code
def yX6_bring : MethodName := ⟨RX6, "bring", "(IIIIIIIIIII)I"⟩
abbrev cX6_areAlike : ByteArray := prog_8_method_18_code
def yX6_areAlike : MethodName := ⟨RX6, "areAlike", "(IIII)Z"⟩
abbrev cX6_copy : ByteArray := prog_8_method_19_code
def yX6_copy : MethodName := ⟨RX6, "copy", "(IIIIIIIII)I"⟩
abbrev cX6_keyed : ByteArray := prog_8_method_20_code
def yX6_keyed : MethodName := ⟨RX6, "keyed", "(IIIIIIIII)I"⟩
abbrev cX6_masked : ByteArray := prog_8_method_21_code
def yX6_masked : MethodName := ⟨RX6, "masked", "(IIIIIIIII)I"⟩
abbrev cX6_spread : ByteArray := prog_8_method_22_code
def yX6_spread : MethodName := ⟨RX6, "spread", "(IIIIIIIIII)I"⟩
abbrev cX6_turn : ByteArray := prog_8_method_23_code
def yX6_turn : MethodName := ⟨RX6, "turn", "(II)I"⟩
abbrev cX6_count : ByteArray := prog_8_method_24_code
def yX6_count : MethodName := ⟨RX6, "count", "(II)I"⟩
abbrev cX6_isSprite : ByteArray := prog_8_method_25_code
def yX6_isSprite : MethodName := ⟨RX6, "isSprite", "(I)Z"⟩
abbrev cX6_put : ByteArray := prog_8_method_26_code
def yX6_put : MethodName := ⟨RX6, "put", "(I)V"⟩
abbrev cX6_tellStretch : ByteArray := prog_8_method_27_code
def yX6_tellStretch : MethodName := ⟨RX6, "tellStretch", "(IIIII)V"⟩
abbrev cX6_alike : ByteArray := prog_8_method_28_code
def yX6_alike : MethodName := ⟨RX6, "alike", "(IIII)I"⟩
abbrev cX6_tellDrawn : ByteArray := prog_8_method_29_code
def yX6_tellDrawn : MethodName := ⟨RX6, "tellDrawn", "(IIII)V"⟩
abbrev cX6_tellRow : ByteArray := prog_8_method_30_code
def yX6_tellRow : MethodName := ⟨RX6, "tellRow", "(III)V"⟩
abbrev cX6_tell : ByteArray := prog_8_method_31_code
def yX6_tell : MethodName := ⟨RX6, "tell", "(III)I"⟩
abbrev cX6_load : ByteArray := prog_8_method_32_code
def yX6_load : MethodName := ⟨RX6, "load", "(IJI)I"⟩
abbrev cX6_forget : ByteArray := prog_8_method_33_code
def yX6_forget : MethodName := ⟨RX6, "forget", "(I)I"⟩
abbrev cX6_part : ByteArray := prog_8_method_34_code
def yX6_part : MethodName := ⟨RX6, "part", "(II)I"⟩
abbrev cX6_add : ByteArray := prog_8_method_35_code
def yX6_add : MethodName := ⟨RX6, "add", "(III)V"⟩
abbrev cX6_readSprite : ByteArray := prog_8_method_36_code
def yX6_readSprite : MethodName := ⟨RX6, "readSprite", "(II)I"⟩
abbrev cX6_draw : ByteArray := prog_8_method_37_code
def yX6_draw : MethodName := ⟨RX6, "draw", "(IIII)I"⟩
abbrev cX6_check : ByteArray := prog_8_method_38_code
def yX6_check : MethodName := ⟨RX6, "check", "()I"⟩
def RJ9 : String := "java/lang/Math"
def TJ9 : u_T := fun k => match k with
  | _ => ("", "", "", false)
def tyJ9 : Nat → FieldType := fun k => match k with
  | _ => .int
abbrev wsJ90 : List Cond := u_ws RJ9 TJ9 0
theorem nmJ9 : ∀ a, a < 0 → ∀ b, b < 0 → a ≠ b → (TJ9 a).2.1 ≠ (TJ9 b).2.1 := by decide +kernel
theorem tyJ9_ok : ∀ k, k < 0 → parseFieldDescriptor (TJ9 k).2.2.1 = some (tyJ9 k) := by decide +kernel
abbrev cJ9_max_f86c9 : ByteArray := prog_9_method_66_code
def yJ9_max_f86c9 : MethodName := ⟨RJ9, "max", "(JJ)J"⟩
abbrev cJ9_min_7cf53 : ByteArray := prog_9_method_69_code
def yJ9_min_7cf53 : MethodName := ⟨RJ9, "min", "(II)I"⟩
abbrev cJ9_min_f86c9 : ByteArray := prog_9_method_70_code
def yJ9_min_f86c9 : MethodName := ⟨RJ9, "min", "(JJ)J"⟩
def RJ10 : String := "java/lang/System"
def TJ10 : u_T := fun k => match k with
  | _ => ("", "", "", false)
def tyJ10 : Nat → FieldType := fun k => match k with
  | _ => .int
abbrev wsJ100 : List Cond := u_ws RJ10 TJ10 0
theorem nmJ10 : ∀ a, a < 0 → ∀ b, b < 0 → a ≠ b → (TJ10 a).2.1 ≠ (TJ10 b).2.1 := by decide +kernel
theorem tyJ10_ok : ∀ k, k < 0 → parseFieldDescriptor (TJ10 k).2.2.1 = some (tyJ10 k) := by decide +kernel
def RJ7 : String := "java/util/Arrays"
def TJ7 : u_T := fun k => match k with
  | _ => ("", "", "", false)
def tyJ7 : Nat → FieldType := fun k => match k with
  | _ => .int
abbrev wsJ70 : List Cond := u_ws RJ7 TJ7 0
theorem nmJ7 : ∀ a, a < 0 → ∀ b, b < 0 → a ≠ b → (TJ7 a).2.1 ≠ (TJ7 b).2.1 := by decide +kernel
theorem tyJ7_ok : ∀ k, k < 0 → parseFieldDescriptor (TJ7 k).2.2.1 = some (tyJ7 k) := by decide +kernel
abbrev cJ7_rangeCheck_23922 : ByteArray := prog_11_method_30_code
def yJ7_rangeCheck_23922 : MethodName := ⟨RJ7, "rangeCheck", "(III)V"⟩
abbrev cJ7_fill_fda19 : ByteArray := prog_11_method_104_code
def yJ7_fill_fda19 : MethodName := ⟨RJ7, "fill", "([IIII)V"⟩
def RL : String := "BlitBoardLaw"
abbrev cL_law : ByteArray := code
def yL_law : MethodName := ⟨RL, "law", "([I)Z"⟩
def wsX0_init : List Cond := .code yX0_init cX0_init 7 none :: ([.methodLink RX0 1 objectInit, .instanceMethod objectInit, .code objectInit ⟨#[0xb1]⟩ 1 none, .fieldLink RX0 7 "BlitBoard$Area" "left" "J", .fieldLink RX0 13 "BlitBoard$Area" "top" "J", .fieldLink RX0 16 "BlitBoard$Area" "wide" "I", .fieldLink RX0 20 "BlitBoard$Area" "high" "I"] ++ wsX00)
def wsX0_size : List Cond := .code yX0_size cX0_size 1 (some .int) :: ([.fieldLink RX0 16 "BlitBoard$Area" "wide" "I", .fieldLink RX0 20 "BlitBoard$Area" "high" "I"] ++ wsX00)
def wsX0_holds : List Cond := .code yX0_holds cX0_holds 5 (some .boolean) :: ([.fieldLink RX0 7 "BlitBoard$Area" "left" "J", .fieldLink RX0 16 "BlitBoard$Area" "wide" "I", .fieldLink RX0 13 "BlitBoard$Area" "top" "J", .fieldLink RX0 20 "BlitBoard$Area" "high" "I"] ++ wsX00)
def wsX0_movedBy : List Cond := .code yX0_movedBy cX0_movedBy 5 (some (.object "BlitBoard$Area")) :: ([.classLink RX0 8 RX0, .instantiable RX0 4, .initialized RX0, .fieldLink RX0 7 "BlitBoard$Area" "left" "J", .fieldLink RX0 13 "BlitBoard$Area" "top" "J", .fieldLink RX0 16 "BlitBoard$Area" "wide" "I", .fieldLink RX0 20 "BlitBoard$Area" "high" "I", .methodLink RX0 23 yX0_init, .instanceMethod yX0_init, .code yX0_init cX0_init 7 none, .methodLink RX0 1 objectInit, .instanceMethod objectInit, .code objectInit ⟨#[0xb1]⟩ 1 none] ++ wsX00)
def wsX0_shared : List Cond := .code yX0_shared cX0_shared 10 (some (.object "BlitBoard$Area")) :: ([.fieldLink RX0 7 "BlitBoard$Area" "left" "J", .methodLink RX0 26 Lib.MathLoose.max_long.x, .static Lib.MathLoose.max_long.x, .initialized "java/lang/Math", .code Lib.MathLoose.max_long.x Lib.MathLoose.max_long.code 4 (some .long), .fieldLink RX0 13 "BlitBoard$Area" "top" "J", .fieldLink RX0 16 "BlitBoard$Area" "wide" "I", .methodLink RX0 32 Lib.MathLoose.min_long.x, .static Lib.MathLoose.min_long.x, .code Lib.MathLoose.min_long.x Lib.MathLoose.min_long.code 4 (some .long), .fieldLink RX0 20 "BlitBoard$Area" "high" "I", .classLink RX0 8 RX0, .instantiable RX0 4, .initialized RX0, .methodLink RX0 23 yX0_init, .instanceMethod yX0_init, .code yX0_init cX0_init 7 none, .methodLink RX0 1 objectInit, .instanceMethod objectInit, .code objectInit ⟨#[0xb1]⟩ 1 none] ++ wsX00)
def wsX1_init_r1 : List Cond := [Cond.methodLink RX1 1 objectInit, Cond.instanceMethod objectInit, Cond.code objectInit ⟨#[0xb1]⟩ 1 none, Cond.fieldLink RX1 7 "BlitBoard$Area" "left" "J", Cond.fieldLink RX1 13 "BlitBoard$Area" "top" "J", Cond.fieldLink RX1 16 "BlitBoard$Move" "from" "LBlitBoard$Surface;", Cond.fieldLink RX1 22 "BlitBoard$Move" "to" "LBlitBoard$Surface;", Cond.fieldLink RX1 25 "BlitBoard$Surface" "whole" "LBlitBoard$Area;", Cond.fieldLink RX1 39 "BlitBoard$Surface" "clip" "LBlitBoard$Area;", Cond.fieldLink RX1 42 "BlitBoard$Move" "target" "LBlitBoard$Area;", Cond.fieldLink RX1 45 "BlitBoard$Move" "source" "LBlitBoard$Area;", Cond.methodLink RX1 31 yX0_shared, Cond.instanceMethod yX0_shared, Cond.selects RX0 yX0_shared yX0_shared, Cond.initialized RX0, Cond.code yX0_shared cX0_shared 10 (some (.object "BlitBoard$Area")), Cond.fieldLink RX0 7 "BlitBoard$Area" "left" "J", Cond.methodLink RX0 26 Lib.MathLoose.max_long.x, Cond.static Lib.MathLoose.max_long.x, Cond.initialized "java/lang/Math", Cond.code Lib.MathLoose.max_long.x Lib.MathLoose.max_long.code 4 (some .long), Cond.fieldLink RX0 13 "BlitBoard$Area" "top" "J", Cond.fieldLink RX0 16 "BlitBoard$Area" "wide" "I", Cond.methodLink RX0 32 Lib.MathLoose.min_long.x]
def wsX1_init_r2 : List Cond := [Cond.static Lib.MathLoose.min_long.x, Cond.code Lib.MathLoose.min_long.x Lib.MathLoose.min_long.code 4 (some .long), Cond.fieldLink RX0 20 "BlitBoard$Area" "high" "I", Cond.classLink RX0 8 RX0, Cond.instantiable RX0 4, Cond.methodLink RX0 23 yX0_init, Cond.instanceMethod yX0_init, Cond.code yX0_init cX0_init 7 none, Cond.methodLink RX0 1 objectInit, Cond.methodLink RX1 35 yX0_movedBy, Cond.instanceMethod yX0_movedBy, Cond.selects RX0 yX0_movedBy yX0_movedBy, Cond.code yX0_movedBy cX0_movedBy 5 (some (.object "BlitBoard$Area"))]
def wsX1_init : List Cond := .code yX1_init cX1_init 10 none :: ((wsX1_init_r1 ++ wsX1_init_r2) ++ wsX00 ++ wsX10 ++ wsX30)
def wsX1_keepsDepth : List Cond := .code yX1_keepsDepth cX1_keepsDepth 1 (some .boolean) :: ([.fieldLink RX1 16 "BlitBoard$Move" "from" "LBlitBoard$Surface;", .fieldLink RX1 48 "BlitBoard$Surface" "depth" "I", .fieldLink RX1 22 "BlitBoard$Move" "to" "LBlitBoard$Surface;"] ++ wsX10 ++ wsX30)
def wsX2_init : List Cond := .code yX2_init cX2_init 1 none :: ([.methodLink RX2 3 objectInit, .instanceMethod objectInit, .code objectInit ⟨#[0xb1]⟩ 1 none, .arrayClass .int, .fieldLink RX2 9 "BlitBoard$Sprite" "bytes" "[I", .fieldLink RX2 15 "BlitBoard$Sprite" "size" "I", .fieldLink RX2 19 "BlitBoard$Sprite" "spilled" "Z"] ++ wsX20)
def wsX2_empty : List Cond := .code yX2_empty cX2_empty 1 none :: ([.fieldLink RX2 15 "BlitBoard$Sprite" "size" "I", .fieldLink RX2 19 "BlitBoard$Sprite" "spilled" "Z"] ++ wsX20)
def wsX2_append : List Cond := .code yX2_append cX2_append 2 none :: ([.fieldLink RX2 15 "BlitBoard$Sprite" "size" "I", .fieldLink RX2 19 "BlitBoard$Sprite" "spilled" "Z", .fieldLink RX2 9 "BlitBoard$Sprite" "bytes" "[I"] ++ wsX20)
def wsX2_stretchLength : List Cond := .code yX2_stretchLength cX2_stretchLength 1 (some .int) :: ([])
def wsX2_isStretch : List Cond := .code yX2_isStretch cX2_isStretch 1 (some .boolean) :: ([.methodLink RX2 23 yX2_stretchLength, .static yX2_stretchLength, .initialized RX2, .code yX2_stretchLength cX2_stretchLength 1 (some .int)])
def wsX2_dotBytes : List Cond := .code yX2_dotBytes cX2_dotBytes 1 (some .int) :: ([.methodLink RX2 23 yX2_stretchLength, .static yX2_stretchLength, .initialized RX2, .code yX2_stretchLength cX2_stretchLength 1 (some .int)])
def wsX2_firstWrong : List Cond := .code yX2_firstWrong cX2_firstWrong 8 (some .int) :: ([.fieldLink RX2 15 "BlitBoard$Sprite" "size" "I", .fieldLink RX2 9 "BlitBoard$Sprite" "bytes" "[I", .methodLink RX2 23 yX2_stretchLength, .static yX2_stretchLength, .initialized RX2, .code yX2_stretchLength cX2_stretchLength 1 (some .int), .methodLink RX2 27 yX2_isStretch, .static yX2_isStretch, .code yX2_isStretch cX2_isStretch 1 (some .boolean), .methodLink RX2 31 yX2_dotBytes, .static yX2_dotBytes, .code yX2_dotBytes cX2_dotBytes 1 (some .int)] ++ wsX20)
def wsX3_indexOf : List Cond := .code yX3_indexOf cX3_indexOf 5 (some .int) :: ([.fieldLink RX3 21 "BlitBoard$Surface" "whole" "LBlitBoard$Area;", .fieldLink RX3 32 "BlitBoard$Area" "wide" "I"] ++ wsX30 ++ wsX00)
def wsX3_putClipped : List Cond := .code yX3_putClipped cX3_putClipped 6 none :: ([.fieldLink RX3 29 "BlitBoard$Surface" "clip" "LBlitBoard$Area;", .fieldLink RX3 25 "BlitBoard$Surface" "dots" "[I", .methodLink RX3 35 yX0_holds, .instanceMethod yX0_holds, .selects RX0 yX0_holds yX0_holds, .initialized RX0, .code yX0_holds cX0_holds 5 (some .boolean), .fieldLink RX0 7 "BlitBoard$Area" "left" "J", .fieldLink RX0 16 "BlitBoard$Area" "wide" "I", .fieldLink RX0 13 "BlitBoard$Area" "top" "J", .fieldLink RX0 20 "BlitBoard$Area" "high" "I", .methodLink RX3 39 yX3_indexOf, .instanceMethod yX3_indexOf, .selects RX3 yX3_indexOf yX3_indexOf, .initialized RX3, .code yX3_indexOf cX3_indexOf 5 (some .int), .fieldLink RX3 21 "BlitBoard$Surface" "whole" "LBlitBoard$Area;", .fieldLink RX3 32 "BlitBoard$Area" "wide" "I"] ++ wsX30 ++ wsX00)
def wsX2_paintDots : List Cond := .code yX2_paintDots cX2_paintDots 8 none :: ([.methodLink RX2 38 yX3_putClipped, .instanceMethod yX3_putClipped, .selects RX3 yX3_putClipped yX3_putClipped, .initialized RX3, .code yX3_putClipped cX3_putClipped 6 none, .fieldLink RX3 29 "BlitBoard$Surface" "clip" "LBlitBoard$Area;", .fieldLink RX3 25 "BlitBoard$Surface" "dots" "[I", .methodLink RX3 35 yX0_holds, .instanceMethod yX0_holds, .selects RX0 yX0_holds yX0_holds, .initialized RX0, .code yX0_holds cX0_holds 5 (some .boolean), .fieldLink RX0 7 "BlitBoard$Area" "left" "J", .fieldLink RX0 16 "BlitBoard$Area" "wide" "I", .fieldLink RX0 13 "BlitBoard$Area" "top" "J", .fieldLink RX0 20 "BlitBoard$Area" "high" "I", .methodLink RX3 39 yX3_indexOf, .instanceMethod yX3_indexOf, .selects RX3 yX3_indexOf yX3_indexOf, .code yX3_indexOf cX3_indexOf 5 (some .int), .fieldLink RX3 21 "BlitBoard$Surface" "whole" "LBlitBoard$Area;", .fieldLink RX3 32 "BlitBoard$Area" "wide" "I"] ++ wsX30 ++ wsX00)
def wsX2_paint_r1 : List Cond := [Cond.fieldLink RX2 15 "BlitBoard$Sprite" "size" "I", Cond.fieldLink RX2 9 "BlitBoard$Sprite" "bytes" "[I", Cond.methodLink RX2 34 yX2_paintDots, Cond.static yX2_paintDots, Cond.initialized RX2, Cond.code yX2_paintDots cX2_paintDots 8 none, Cond.methodLink RX2 38 yX3_putClipped, Cond.instanceMethod yX3_putClipped, Cond.selects RX3 yX3_putClipped yX3_putClipped, Cond.initialized RX3, Cond.code yX3_putClipped cX3_putClipped 6 none, Cond.fieldLink RX3 29 "BlitBoard$Surface" "clip" "LBlitBoard$Area;", Cond.fieldLink RX3 25 "BlitBoard$Surface" "dots" "[I", Cond.methodLink RX3 35 yX0_holds, Cond.instanceMethod yX0_holds, Cond.selects RX0 yX0_holds yX0_holds, Cond.initialized RX0, Cond.code yX0_holds cX0_holds 5 (some .boolean), Cond.fieldLink RX0 7 "BlitBoard$Area" "left" "J", Cond.fieldLink RX0 16 "BlitBoard$Area" "wide" "I", Cond.fieldLink RX0 13 "BlitBoard$Area" "top" "J", Cond.fieldLink RX0 20 "BlitBoard$Area" "high" "I", Cond.methodLink RX3 39 yX3_indexOf, Cond.instanceMethod yX3_indexOf]
def wsX2_paint_r2 : List Cond := [Cond.selects RX3 yX3_indexOf yX3_indexOf, Cond.code yX3_indexOf cX3_indexOf 5 (some .int), Cond.fieldLink RX3 21 "BlitBoard$Surface" "whole" "LBlitBoard$Area;", Cond.fieldLink RX3 32 "BlitBoard$Area" "wide" "I", Cond.methodLink RX2 31 yX2_dotBytes, Cond.static yX2_dotBytes, Cond.code yX2_dotBytes cX2_dotBytes 1 (some .int), Cond.methodLink RX2 23 yX2_stretchLength, Cond.static yX2_stretchLength, Cond.code yX2_stretchLength cX2_stretchLength 1 (some .int)]
def wsX2_paint : List Cond := .code yX2_paint cX2_paint 10 none :: ((wsX2_paint_r1 ++ wsX2_paint_r2) ++ wsX20 ++ wsX30 ++ wsX00)
def wsX3_init : List Cond := .code yX3_init cX3_init 4 none :: ([.methodLink RX3 1 objectInit, .instanceMethod objectInit, .code objectInit ⟨#[0xb1]⟩ 1 none, .fieldLink RX3 7 "BlitBoard$Surface" "depth" "I", .fieldLink RX3 13 "BlitBoard$Surface" "largest" "I", .classLink RX3 16 RX0, .instantiable RX0 4, .initialized RX0, .fieldLink RX3 21 "BlitBoard$Surface" "whole" "LBlitBoard$Area;", .arrayClass .int, .fieldLink RX3 25 "BlitBoard$Surface" "dots" "[I", .fieldLink RX3 29 "BlitBoard$Surface" "clip" "LBlitBoard$Area;", .methodLink RX3 18 yX0_init, .instanceMethod yX0_init, .code yX0_init cX0_init 7 none, .methodLink RX0 1 objectInit, .fieldLink RX0 7 "BlitBoard$Area" "left" "J", .fieldLink RX0 13 "BlitBoard$Area" "top" "J", .fieldLink RX0 16 "BlitBoard$Area" "wide" "I", .fieldLink RX0 20 "BlitBoard$Area" "high" "I"] ++ wsX30 ++ wsX00)
def wsX3_fits : List Cond := .code yX3_fits cX3_fits 2 (some .boolean) :: ([.fieldLink RX3 13 "BlitBoard$Surface" "largest" "I"] ++ wsX30)
def wsX3_isOne : List Cond := .code yX3_isOne cX3_isOne 5 (some .boolean) :: ([.fieldLink RX3 21 "BlitBoard$Surface" "whole" "LBlitBoard$Area;", .fieldLink RX3 25 "BlitBoard$Surface" "dots" "[I", .methodLink RX3 35 yX0_holds, .instanceMethod yX0_holds, .selects RX0 yX0_holds yX0_holds, .initialized RX0, .code yX0_holds cX0_holds 5 (some .boolean), .fieldLink RX0 7 "BlitBoard$Area" "left" "J", .fieldLink RX0 16 "BlitBoard$Area" "wide" "I", .fieldLink RX0 13 "BlitBoard$Area" "top" "J", .fieldLink RX0 20 "BlitBoard$Area" "high" "I", .methodLink RX3 39 yX3_indexOf, .instanceMethod yX3_indexOf, .selects RX3 yX3_indexOf yX3_indexOf, .initialized RX3, .code yX3_indexOf cX3_indexOf 5 (some .int), .fieldLink RX3 32 "BlitBoard$Area" "wide" "I"] ++ wsX30 ++ wsX00)
def wsX3_swapDots : List Cond := .code yX3_swapDots cX3_swapDots 4 none :: ([.fieldLink RX3 25 "BlitBoard$Surface" "dots" "[I"] ++ wsX30)
def wsX3_swapLeftAndRight : List Cond := .code yX3_swapLeftAndRight cX3_swapLeftAndRight 3 none :: ([.fieldLink RX3 21 "BlitBoard$Surface" "whole" "LBlitBoard$Area;", .fieldLink RX3 43 "BlitBoard$Area" "high" "I", .fieldLink RX3 32 "BlitBoard$Area" "wide" "I", .methodLink RX3 39 yX3_indexOf, .instanceMethod yX3_indexOf, .selects RX3 yX3_indexOf yX3_indexOf, .initialized RX3, .code yX3_indexOf cX3_indexOf 5 (some .int), .methodLink RX3 46 yX3_swapDots, .instanceMethod yX3_swapDots, .selects RX3 yX3_swapDots yX3_swapDots, .code yX3_swapDots cX3_swapDots 4 none, .fieldLink RX3 25 "BlitBoard$Surface" "dots" "[I"] ++ wsX30 ++ wsX00)
def wsX3_swapTopAndBottom : List Cond := .code yX3_swapTopAndBottom cX3_swapTopAndBottom 3 none :: ([.fieldLink RX3 21 "BlitBoard$Surface" "whole" "LBlitBoard$Area;", .fieldLink RX3 43 "BlitBoard$Area" "high" "I", .fieldLink RX3 32 "BlitBoard$Area" "wide" "I", .methodLink RX3 39 yX3_indexOf, .instanceMethod yX3_indexOf, .selects RX3 yX3_indexOf yX3_indexOf, .initialized RX3, .code yX3_indexOf cX3_indexOf 5 (some .int), .methodLink RX3 46 yX3_swapDots, .instanceMethod yX3_swapDots, .selects RX3 yX3_swapDots yX3_swapDots, .code yX3_swapDots cX3_swapDots 4 none, .fieldLink RX3 25 "BlitBoard$Surface" "dots" "[I"] ++ wsX30 ++ wsX00)
def wsX3_isSound : List Cond := .code yX3_isSound cX3_isSound 5 (some .boolean) :: ([.fieldLink RX3 25 "BlitBoard$Surface" "dots" "[I", .fieldLink RX3 29 "BlitBoard$Surface" "clip" "LBlitBoard$Area;", .fieldLink RX3 54 "BlitBoard$Area" "left" "J", .fieldLink RX3 58 "BlitBoard$Area" "top" "J", .fieldLink RX3 32 "BlitBoard$Area" "wide" "I", .fieldLink RX3 21 "BlitBoard$Surface" "whole" "LBlitBoard$Area;", .fieldLink RX3 43 "BlitBoard$Area" "high" "I", .methodLink RX3 50 yX3_fits, .instanceMethod yX3_fits, .selects RX3 yX3_fits yX3_fits, .initialized RX3, .code yX3_fits cX3_fits 2 (some .boolean), .fieldLink RX3 13 "BlitBoard$Surface" "largest" "I"] ++ wsX30 ++ wsX00)
def wsX4_init : List Cond := .code yX4_init cX4_init 4 none :: ([.methodLink RX4 3 objectInit, .instanceMethod objectInit, .code objectInit ⟨#[0xb1]⟩ 1 none, .fieldLink RX4 9 "BlitBoard$Teller" "of" "LBlitBoard$Surface;", .fieldLink RX4 15 "BlitBoard$Teller" "key" "I", .fieldLink RX4 19 "BlitBoard$Teller" "into" "LBlitBoard$Sprite;"] ++ wsX40)
def wsX4_toldEnd : List Cond := .code yX4_toldEnd cX4_toldEnd 4 (some .int) :: ([.fieldLink RX4 9 "BlitBoard$Teller" "of" "LBlitBoard$Surface;", .fieldLink RX4 23 "BlitBoard$Surface" "whole" "LBlitBoard$Area;", .fieldLink RX4 63 "BlitBoard$Area" "wide" "I", .fieldLink RX4 55 "BlitBoard$Surface" "dots" "[I", .fieldLink RX4 15 "BlitBoard$Teller" "key" "I"] ++ wsX40 ++ wsX30 ++ wsX00)
def wsX4_isThree : List Cond := .code yX4_isThree cX4_isThree 3 (some .boolean) :: ([.fieldLink RX4 9 "BlitBoard$Teller" "of" "LBlitBoard$Surface;", .fieldLink RX4 23 "BlitBoard$Surface" "whole" "LBlitBoard$Area;", .fieldLink RX4 63 "BlitBoard$Area" "wide" "I", .fieldLink RX4 55 "BlitBoard$Surface" "dots" "[I"] ++ wsX40 ++ wsX30 ++ wsX00)
def wsX4_kindAt : List Cond := .code yX4_kindAt cX4_kindAt 4 (some .int) :: ([.fieldLink RX4 9 "BlitBoard$Teller" "of" "LBlitBoard$Surface;", .fieldLink RX4 55 "BlitBoard$Surface" "dots" "[I", .fieldLink RX4 15 "BlitBoard$Teller" "key" "I", .methodLink RX4 66 yX4_isThree, .instanceMethod yX4_isThree, .selects RX4 yX4_isThree yX4_isThree, .initialized RX4, .code yX4_isThree cX4_isThree 3 (some .boolean), .fieldLink RX4 23 "BlitBoard$Surface" "whole" "LBlitBoard$Area;", .fieldLink RX4 63 "BlitBoard$Area" "wide" "I"] ++ wsX40 ++ wsX30 ++ wsX00)
def wsX4_addStretch : List Cond := .code yX4_addStretch cX4_addStretch 8 none :: ([.methodLink RX4 70 Lib.Math.min.name, .static Lib.Math.min.name, .initialized "java/lang/Math", .code Lib.Math.min.name Lib.Math.min.code 2 (some .int), .fieldLink RX4 19 "BlitBoard$Teller" "into" "LBlitBoard$Sprite;", .fieldLink RX4 9 "BlitBoard$Teller" "of" "LBlitBoard$Surface;", .fieldLink RX4 55 "BlitBoard$Surface" "dots" "[I", .methodLink RX4 42 yX2_append, .instanceMethod yX2_append, .selects RX2 yX2_append yX2_append, .initialized RX2, .code yX2_append cX2_append 2 none, .fieldLink RX2 15 "BlitBoard$Sprite" "size" "I", .fieldLink RX2 19 "BlitBoard$Sprite" "spilled" "Z", .fieldLink RX2 9 "BlitBoard$Sprite" "bytes" "[I"] ++ wsX40 ++ wsX30 ++ wsX20)
def wsX4_addRow_r1 : List Cond := [Cond.fieldLink RX4 9 "BlitBoard$Teller" "of" "LBlitBoard$Surface;", Cond.fieldLink RX4 55 "BlitBoard$Surface" "dots" "[I", Cond.methodLink RX4 47 yX4_toldEnd, Cond.instanceMethod yX4_toldEnd, Cond.selects RX4 yX4_toldEnd yX4_toldEnd, Cond.initialized RX4, Cond.code yX4_toldEnd cX4_toldEnd 4 (some .int), Cond.fieldLink RX4 23 "BlitBoard$Surface" "whole" "LBlitBoard$Area;", Cond.fieldLink RX4 63 "BlitBoard$Area" "wide" "I", Cond.fieldLink RX4 15 "BlitBoard$Teller" "key" "I", Cond.methodLink RX4 51 yX4_kindAt, Cond.instanceMethod yX4_kindAt, Cond.selects RX4 yX4_kindAt yX4_kindAt, Cond.code yX4_kindAt cX4_kindAt 4 (some .int), Cond.methodLink RX4 66 yX4_isThree, Cond.instanceMethod yX4_isThree, Cond.selects RX4 yX4_isThree yX4_isThree, Cond.code yX4_isThree cX4_isThree 3 (some .boolean), Cond.methodLink RX4 59 yX4_addStretch, Cond.instanceMethod yX4_addStretch, Cond.selects RX4 yX4_addStretch yX4_addStretch, Cond.code yX4_addStretch cX4_addStretch 8 none, Cond.methodLink RX4 70 Lib.Math.min.name, Cond.static Lib.Math.min.name]
def wsX4_addRow_r2 : List Cond := [Cond.initialized "java/lang/Math", Cond.code Lib.Math.min.name Lib.Math.min.code 2 (some .int), Cond.fieldLink RX4 19 "BlitBoard$Teller" "into" "LBlitBoard$Sprite;", Cond.methodLink RX4 42 yX2_append, Cond.instanceMethod yX2_append, Cond.selects RX2 yX2_append yX2_append, Cond.initialized RX2, Cond.code yX2_append cX2_append 2 none, Cond.fieldLink RX2 15 "BlitBoard$Sprite" "size" "I", Cond.fieldLink RX2 19 "BlitBoard$Sprite" "spilled" "Z", Cond.fieldLink RX2 9 "BlitBoard$Sprite" "bytes" "[I"]
def wsX4_addRow : List Cond := .code yX4_addRow cX4_addRow 7 none :: ((wsX4_addRow_r1 ++ wsX4_addRow_r2) ++ wsX40 ++ wsX30 ++ wsX00 ++ wsX20)
def wsX4_addRows_r1 : List Cond := [Cond.fieldLink RX4 9 "BlitBoard$Teller" "of" "LBlitBoard$Surface;", Cond.fieldLink RX4 23 "BlitBoard$Surface" "whole" "LBlitBoard$Area;", Cond.fieldLink RX4 29 "BlitBoard$Area" "high" "I", Cond.fieldLink RX4 19 "BlitBoard$Teller" "into" "LBlitBoard$Sprite;", Cond.methodLink RX4 34 yX3_indexOf, Cond.instanceMethod yX3_indexOf, Cond.selects RX3 yX3_indexOf yX3_indexOf, Cond.initialized RX3, Cond.code yX3_indexOf cX3_indexOf 5 (some .int), Cond.fieldLink RX3 21 "BlitBoard$Surface" "whole" "LBlitBoard$Area;", Cond.fieldLink RX3 32 "BlitBoard$Area" "wide" "I", Cond.methodLink RX4 38 yX4_addRow, Cond.instanceMethod yX4_addRow, Cond.selects RX4 yX4_addRow yX4_addRow, Cond.initialized RX4, Cond.code yX4_addRow cX4_addRow 7 none, Cond.fieldLink RX4 55 "BlitBoard$Surface" "dots" "[I", Cond.methodLink RX4 47 yX4_toldEnd, Cond.instanceMethod yX4_toldEnd, Cond.selects RX4 yX4_toldEnd yX4_toldEnd, Cond.code yX4_toldEnd cX4_toldEnd 4 (some .int), Cond.fieldLink RX4 63 "BlitBoard$Area" "wide" "I", Cond.fieldLink RX4 15 "BlitBoard$Teller" "key" "I", Cond.methodLink RX4 51 yX4_kindAt]
def wsX4_addRows_r2 : List Cond := [Cond.instanceMethod yX4_kindAt, Cond.selects RX4 yX4_kindAt yX4_kindAt, Cond.code yX4_kindAt cX4_kindAt 4 (some .int), Cond.methodLink RX4 66 yX4_isThree, Cond.instanceMethod yX4_isThree, Cond.selects RX4 yX4_isThree yX4_isThree, Cond.code yX4_isThree cX4_isThree 3 (some .boolean), Cond.methodLink RX4 59 yX4_addStretch, Cond.instanceMethod yX4_addStretch, Cond.selects RX4 yX4_addStretch yX4_addStretch, Cond.code yX4_addStretch cX4_addStretch 8 none, Cond.methodLink RX4 70 Lib.Math.min.name, Cond.static Lib.Math.min.name, Cond.initialized "java/lang/Math", Cond.code Lib.Math.min.name Lib.Math.min.code 2 (some .int), Cond.methodLink RX4 42 yX2_append, Cond.instanceMethod yX2_append, Cond.selects RX2 yX2_append yX2_append, Cond.initialized RX2, Cond.code yX2_append cX2_append 2 none, Cond.fieldLink RX2 15 "BlitBoard$Sprite" "size" "I", Cond.fieldLink RX2 19 "BlitBoard$Sprite" "spilled" "Z", Cond.fieldLink RX2 9 "BlitBoard$Sprite" "bytes" "[I"]
def wsX4_addRows : List Cond := .code yX4_addRows cX4_addRows 2 none :: ((wsX4_addRows_r1 ++ wsX4_addRows_r2) ++ wsX40 ++ wsX30 ++ wsX00 ++ wsX20)
def wsX5_init : List Cond := .code yX5_init cX5_init 2 none :: ([.methodLink RX5 1 objectInit, .instanceMethod objectInit, .code objectInit ⟨#[0xb1]⟩ 1 none, .classLink RX5 9 RX3, .fieldLink RX5 11 "BlitBoard" "surfaces" "[LBlitBoard$Surface;", .fieldLink RX5 15 "BlitBoard" "surfaceCount" "I", .classLink RX5 19 RX2, .fieldLink RX5 21 "BlitBoard" "sprites" "[LBlitBoard$Sprite;", .instantiable RX2 3, .initialized RX2, .fieldLink RX5 26 "BlitBoard" "spare" "LBlitBoard$Sprite;", .arrayClass .int, .fieldLink RX5 30 "BlitBoard" "taken" "[I", .methodLink RX5 25 yX2_init, .instanceMethod yX2_init, .code yX2_init cX2_init 1 none, .methodLink RX2 3 objectInit, .fieldLink RX2 9 "BlitBoard$Sprite" "bytes" "[I", .fieldLink RX2 15 "BlitBoard$Sprite" "size" "I", .fieldLink RX2 19 "BlitBoard$Sprite" "spilled" "Z"] ++ wsX50 ++ wsX20)
def wsX5_isSide : List Cond := .code yX5_isSide cX5_isSide 1 (some .boolean) :: ([])
def wsX5_make_r1 : List Cond := [Cond.fieldLink RX5 15 "BlitBoard" "surfaceCount" "I", Cond.fieldLink RX5 11 "BlitBoard" "surfaces" "[LBlitBoard$Surface;", Cond.classLink RX5 9 RX3, Cond.instantiable RX3 5, Cond.initialized RX3, Cond.methodLink RX5 34 yX5_isSide, Cond.static yX5_isSide, Cond.initialized RX5, Cond.code yX5_isSide cX5_isSide 1 (some .boolean), Cond.methodLink RX5 38 yX3_init, Cond.instanceMethod yX3_init, Cond.code yX3_init cX3_init 4 none, Cond.methodLink RX3 1 objectInit, Cond.instanceMethod objectInit, Cond.code objectInit ⟨#[0xb1]⟩ 1 none, Cond.fieldLink RX3 7 "BlitBoard$Surface" "depth" "I", Cond.fieldLink RX3 13 "BlitBoard$Surface" "largest" "I", Cond.classLink RX3 16 RX0, Cond.instantiable RX0 4, Cond.initialized RX0, Cond.fieldLink RX3 21 "BlitBoard$Surface" "whole" "LBlitBoard$Area;", Cond.arrayClass .int, Cond.fieldLink RX3 25 "BlitBoard$Surface" "dots" "[I", Cond.fieldLink RX3 29 "BlitBoard$Surface" "clip" "LBlitBoard$Area;"]
def wsX5_make_r2 : List Cond := [Cond.methodLink RX3 18 yX0_init, Cond.instanceMethod yX0_init, Cond.code yX0_init cX0_init 7 none, Cond.methodLink RX0 1 objectInit, Cond.fieldLink RX0 7 "BlitBoard$Area" "left" "J", Cond.fieldLink RX0 13 "BlitBoard$Area" "top" "J", Cond.fieldLink RX0 16 "BlitBoard$Area" "wide" "I", Cond.fieldLink RX0 20 "BlitBoard$Area" "high" "I"]
def wsX5_make : List Cond := .code yX5_make cX5_make 6 (some .int) :: ((wsX5_make_r1 ++ wsX5_make_r2) ++ wsX50 ++ wsX30 ++ wsX00)
def wsX5_surfaceAt : List Cond := .code yX5_surfaceAt cX5_surfaceAt 2 (some (.object "BlitBoard$Surface")) :: ([.fieldLink RX5 15 "BlitBoard" "surfaceCount" "I", .fieldLink RX5 11 "BlitBoard" "surfaces" "[LBlitBoard$Surface;"] ++ wsX50)
def wsX5_clip_r1 : List Cond := [Cond.fieldLink RX5 45 "BlitBoard$Surface" "whole" "LBlitBoard$Area;", Cond.classLink RX5 49 RX0, Cond.instantiable RX0 4, Cond.initialized RX0, Cond.fieldLink RX5 58 "BlitBoard$Surface" "clip" "LBlitBoard$Area;", Cond.methodLink RX5 41 yX5_surfaceAt, Cond.instanceMethod yX5_surfaceAt, Cond.selects RX5 yX5_surfaceAt yX5_surfaceAt, Cond.initialized RX5, Cond.code yX5_surfaceAt cX5_surfaceAt 2 (some (.object "BlitBoard$Surface")), Cond.fieldLink RX5 15 "BlitBoard" "surfaceCount" "I", Cond.fieldLink RX5 11 "BlitBoard" "surfaces" "[LBlitBoard$Surface;", Cond.methodLink RX5 34 yX5_isSide, Cond.static yX5_isSide, Cond.code yX5_isSide cX5_isSide 1 (some .boolean), Cond.methodLink RX5 51 yX0_init, Cond.instanceMethod yX0_init, Cond.code yX0_init cX0_init 7 none, Cond.methodLink RX0 1 objectInit, Cond.instanceMethod objectInit, Cond.code objectInit ⟨#[0xb1]⟩ 1 none, Cond.fieldLink RX0 7 "BlitBoard$Area" "left" "J", Cond.fieldLink RX0 13 "BlitBoard$Area" "top" "J", Cond.fieldLink RX0 16 "BlitBoard$Area" "wide" "I"]
def wsX5_clip_r2 : List Cond := [Cond.fieldLink RX0 20 "BlitBoard$Area" "high" "I", Cond.methodLink RX5 54 yX0_shared, Cond.instanceMethod yX0_shared, Cond.selects RX0 yX0_shared yX0_shared, Cond.code yX0_shared cX0_shared 10 (some (.object "BlitBoard$Area")), Cond.methodLink RX0 26 Lib.MathLoose.max_long.x, Cond.static Lib.MathLoose.max_long.x, Cond.initialized "java/lang/Math", Cond.code Lib.MathLoose.max_long.x Lib.MathLoose.max_long.code 4 (some .long), Cond.methodLink RX0 32 Lib.MathLoose.min_long.x, Cond.static Lib.MathLoose.min_long.x, Cond.code Lib.MathLoose.min_long.x Lib.MathLoose.min_long.code 4 (some .long), Cond.classLink RX0 8 RX0, Cond.methodLink RX0 23 yX0_init, Cond.methodLink RX5 61 yX0_size, Cond.instanceMethod yX0_size, Cond.selects RX0 yX0_size yX0_size, Cond.code yX0_size cX0_size 1 (some .int)]
def wsX5_clip : List Cond := .code yX5_clip cX5_clip 7 (some .int) :: ((wsX5_clip_r1 ++ wsX5_clip_r2) ++ wsX30 ++ wsX00 ++ wsX50)
def wsX5_set_r1 : List Cond := [Cond.fieldLink RX5 45 "BlitBoard$Surface" "whole" "LBlitBoard$Area;", Cond.fieldLink RX5 72 "BlitBoard$Surface" "dots" "[I", Cond.methodLink RX5 41 yX5_surfaceAt, Cond.instanceMethod yX5_surfaceAt, Cond.selects RX5 yX5_surfaceAt yX5_surfaceAt, Cond.initialized RX5, Cond.code yX5_surfaceAt cX5_surfaceAt 2 (some (.object "BlitBoard$Surface")), Cond.fieldLink RX5 15 "BlitBoard" "surfaceCount" "I", Cond.fieldLink RX5 11 "BlitBoard" "surfaces" "[LBlitBoard$Surface;", Cond.methodLink RX5 65 yX0_holds, Cond.instanceMethod yX0_holds, Cond.selects RX0 yX0_holds yX0_holds, Cond.initialized RX0, Cond.code yX0_holds cX0_holds 5 (some .boolean), Cond.fieldLink RX0 7 "BlitBoard$Area" "left" "J", Cond.fieldLink RX0 16 "BlitBoard$Area" "wide" "I", Cond.fieldLink RX0 13 "BlitBoard$Area" "top" "J", Cond.fieldLink RX0 20 "BlitBoard$Area" "high" "I", Cond.methodLink RX5 69 yX3_fits, Cond.instanceMethod yX3_fits, Cond.selects RX3 yX3_fits yX3_fits, Cond.initialized RX3, Cond.code yX3_fits cX3_fits 2 (some .boolean), Cond.fieldLink RX3 13 "BlitBoard$Surface" "largest" "I"]
def wsX5_set_r2 : List Cond := [Cond.methodLink RX5 75 yX3_indexOf, Cond.instanceMethod yX3_indexOf, Cond.selects RX3 yX3_indexOf yX3_indexOf, Cond.code yX3_indexOf cX3_indexOf 5 (some .int), Cond.fieldLink RX3 21 "BlitBoard$Surface" "whole" "LBlitBoard$Area;", Cond.fieldLink RX3 32 "BlitBoard$Area" "wide" "I"]
def wsX5_set : List Cond := .code yX5_set cX5_set 6 (some .int) :: ((wsX5_set_r1 ++ wsX5_set_r2) ++ wsX30 ++ wsX50 ++ wsX00)
def wsX5_get_r1 : List Cond := [Cond.fieldLink RX5 45 "BlitBoard$Surface" "whole" "LBlitBoard$Area;", Cond.fieldLink RX5 72 "BlitBoard$Surface" "dots" "[I", Cond.methodLink RX5 41 yX5_surfaceAt, Cond.instanceMethod yX5_surfaceAt, Cond.selects RX5 yX5_surfaceAt yX5_surfaceAt, Cond.initialized RX5, Cond.code yX5_surfaceAt cX5_surfaceAt 2 (some (.object "BlitBoard$Surface")), Cond.fieldLink RX5 15 "BlitBoard" "surfaceCount" "I", Cond.fieldLink RX5 11 "BlitBoard" "surfaces" "[LBlitBoard$Surface;", Cond.methodLink RX5 65 yX0_holds, Cond.instanceMethod yX0_holds, Cond.selects RX0 yX0_holds yX0_holds, Cond.initialized RX0, Cond.code yX0_holds cX0_holds 5 (some .boolean), Cond.fieldLink RX0 7 "BlitBoard$Area" "left" "J", Cond.fieldLink RX0 16 "BlitBoard$Area" "wide" "I", Cond.fieldLink RX0 13 "BlitBoard$Area" "top" "J", Cond.fieldLink RX0 20 "BlitBoard$Area" "high" "I", Cond.methodLink RX5 75 yX3_indexOf, Cond.instanceMethod yX3_indexOf, Cond.selects RX3 yX3_indexOf yX3_indexOf, Cond.initialized RX3, Cond.code yX3_indexOf cX3_indexOf 5 (some .int), Cond.fieldLink RX3 21 "BlitBoard$Surface" "whole" "LBlitBoard$Area;"]
def wsX5_get_r2 : List Cond := [Cond.fieldLink RX3 32 "BlitBoard$Area" "wide" "I"]
def wsX5_get : List Cond := .code yX5_get cX5_get 5 (some .int) :: ((wsX5_get_r1 ++ wsX5_get_r2) ++ wsX30 ++ wsX50 ++ wsX00)
def wsX5_told : List Cond := .code yX5_told cX5_told 4 (some .int) :: ([.fieldLink RX5 79 "BlitBoard$Surface" "depth" "I", .fieldLink RX5 45 "BlitBoard$Surface" "whole" "LBlitBoard$Area;", .fieldLink RX5 82 "BlitBoard$Area" "wide" "I", .fieldLink RX5 85 "BlitBoard$Area" "high" "I", .fieldLink RX5 58 "BlitBoard$Surface" "clip" "LBlitBoard$Area;", .fieldLink RX5 88 "BlitBoard$Area" "left" "J", .fieldLink RX5 92 "BlitBoard$Area" "top" "J", .methodLink RX5 41 yX5_surfaceAt, .instanceMethod yX5_surfaceAt, .selects RX5 yX5_surfaceAt yX5_surfaceAt, .initialized RX5, .code yX5_surfaceAt cX5_surfaceAt 2 (some (.object "BlitBoard$Surface")), .fieldLink RX5 15 "BlitBoard" "surfaceCount" "I", .fieldLink RX5 11 "BlitBoard" "surfaces" "[LBlitBoard$Surface;"] ++ wsX30 ++ wsX00 ++ wsX50)
def wsX5_isOperation : List Cond := .code yX5_isOperation cX5_isOperation 1 (some .boolean) :: ([])
def wsJ7_rangeCheck_23922 : List Cond := .code yJ7_rangeCheck_23922 cJ7_rangeCheck_23922 3 none :: ([])
def wsJ7_fill_fda19 : List Cond := .code yJ7_fill_fda19 cJ7_fill_fda19 5 none :: ([.methodLink RJ7 13 yJ7_rangeCheck_23922, .static yJ7_rangeCheck_23922, .initialized RJ7, .code yJ7_rangeCheck_23922 cJ7_rangeCheck_23922 3 none])
def wsX5_combined : List Cond := .code yX5_combined cX5_combined 4 (some .int) :: ([])
def wsX5_putDots : List Cond := .code yX5_putDots cX5_putDots 9 none :: ([.fieldLink RX5 85 "BlitBoard$Area" "high" "I", .fieldLink RX5 88 "BlitBoard$Area" "left" "J", .fieldLink RX5 92 "BlitBoard$Area" "top" "J", .fieldLink RX5 82 "BlitBoard$Area" "wide" "I", .fieldLink RX5 30 "BlitBoard" "taken" "[I", .fieldLink RX5 72 "BlitBoard$Surface" "dots" "[I", .fieldLink RX5 177 "BlitBoard$Surface" "largest" "I", .methodLink RX5 75 yX3_indexOf, .instanceMethod yX3_indexOf, .selects RX3 yX3_indexOf yX3_indexOf, .initialized RX3, .code yX3_indexOf cX3_indexOf 5 (some .int), .fieldLink RX3 21 "BlitBoard$Surface" "whole" "LBlitBoard$Area;", .fieldLink RX3 32 "BlitBoard$Area" "wide" "I", .methodLink RX5 203 yX5_combined, .static yX5_combined, .initialized RX5, .code yX5_combined cX5_combined 4 (some .int)] ++ wsX00 ++ wsX50 ++ wsX30)
def wsX5_fill_r1 : List Cond := [Cond.fieldLink RX5 58 "BlitBoard$Surface" "clip" "LBlitBoard$Area;", Cond.classLink RX5 49 RX0, Cond.instantiable RX0 4, Cond.initialized RX0, Cond.fieldLink RX5 30 "BlitBoard" "taken" "[I", Cond.methodLink RX5 41 yX5_surfaceAt, Cond.instanceMethod yX5_surfaceAt, Cond.selects RX5 yX5_surfaceAt yX5_surfaceAt, Cond.initialized RX5, Cond.code yX5_surfaceAt cX5_surfaceAt 2 (some (.object "BlitBoard$Surface")), Cond.fieldLink RX5 15 "BlitBoard" "surfaceCount" "I", Cond.fieldLink RX5 11 "BlitBoard" "surfaces" "[LBlitBoard$Surface;", Cond.methodLink RX5 69 yX3_fits, Cond.instanceMethod yX3_fits, Cond.selects RX3 yX3_fits yX3_fits, Cond.initialized RX3, Cond.code yX3_fits cX3_fits 2 (some .boolean), Cond.fieldLink RX3 13 "BlitBoard$Surface" "largest" "I", Cond.methodLink RX5 95 yX5_isOperation, Cond.static yX5_isOperation, Cond.code yX5_isOperation cX5_isOperation 1 (some .boolean), Cond.methodLink RX5 34 yX5_isSide, Cond.static yX5_isSide, Cond.code yX5_isSide cX5_isSide 1 (some .boolean)]
def wsX5_fill_r2 : List Cond := [Cond.methodLink RX5 51 yX0_init, Cond.instanceMethod yX0_init, Cond.code yX0_init cX0_init 7 none, Cond.methodLink RX0 1 objectInit, Cond.instanceMethod objectInit, Cond.code objectInit ⟨#[0xb1]⟩ 1 none, Cond.fieldLink RX0 7 "BlitBoard$Area" "left" "J", Cond.fieldLink RX0 13 "BlitBoard$Area" "top" "J", Cond.fieldLink RX0 16 "BlitBoard$Area" "wide" "I", Cond.fieldLink RX0 20 "BlitBoard$Area" "high" "I", Cond.methodLink RX5 54 yX0_shared, Cond.instanceMethod yX0_shared, Cond.selects RX0 yX0_shared yX0_shared, Cond.code yX0_shared cX0_shared 10 (some (.object "BlitBoard$Area")), Cond.methodLink RX0 26 Lib.MathLoose.max_long.x, Cond.static Lib.MathLoose.max_long.x, Cond.initialized "java/lang/Math", Cond.code Lib.MathLoose.max_long.x Lib.MathLoose.max_long.code 4 (some .long), Cond.methodLink RX0 32 Lib.MathLoose.min_long.x, Cond.static Lib.MathLoose.min_long.x, Cond.code Lib.MathLoose.min_long.x Lib.MathLoose.min_long.code 4 (some .long), Cond.classLink RX0 8 RX0, Cond.methodLink RX0 23 yX0_init, Cond.methodLink RX5 61 yX0_size]
def wsX5_fill_r3 : List Cond := [Cond.instanceMethod yX0_size, Cond.selects RX0 yX0_size yX0_size, Cond.code yX0_size cX0_size 1 (some .int), Cond.methodLink RX5 98 yJ7_fill_fda19, Cond.static yJ7_fill_fda19, Cond.initialized RJ7, Cond.code yJ7_fill_fda19 cJ7_fill_fda19 5 none, Cond.methodLink RJ7 13 yJ7_rangeCheck_23922, Cond.static yJ7_rangeCheck_23922, Cond.code yJ7_rangeCheck_23922 cJ7_rangeCheck_23922 3 none, Cond.methodLink RX5 104 yX5_putDots, Cond.instanceMethod yX5_putDots, Cond.selects RX5 yX5_putDots yX5_putDots, Cond.code yX5_putDots cX5_putDots 9 none, Cond.fieldLink RX5 85 "BlitBoard$Area" "high" "I", Cond.fieldLink RX5 88 "BlitBoard$Area" "left" "J", Cond.fieldLink RX5 92 "BlitBoard$Area" "top" "J", Cond.fieldLink RX5 82 "BlitBoard$Area" "wide" "I", Cond.fieldLink RX5 72 "BlitBoard$Surface" "dots" "[I", Cond.fieldLink RX5 177 "BlitBoard$Surface" "largest" "I", Cond.methodLink RX5 75 yX3_indexOf, Cond.instanceMethod yX3_indexOf, Cond.selects RX3 yX3_indexOf yX3_indexOf, Cond.code yX3_indexOf cX3_indexOf 5 (some .int)]
def wsX5_fill_r4 : List Cond := [Cond.fieldLink RX3 21 "BlitBoard$Surface" "whole" "LBlitBoard$Area;", Cond.fieldLink RX3 32 "BlitBoard$Area" "wide" "I", Cond.methodLink RX5 203 yX5_combined, Cond.static yX5_combined, Cond.code yX5_combined cX5_combined 4 (some .int)]
def wsX5_fill : List Cond := .code yX5_fill cX5_fill 10 (some .int) :: ((wsX5_fill_r1 ++ (wsX5_fill_r2 ++ (wsX5_fill_r3 ++ wsX5_fill_r4))) ++ wsX30 ++ wsX00 ++ wsX50)
def wsX5_moveOf_r1 : List Cond := [Cond.fieldLink RX5 82 "BlitBoard$Area" "wide" "I", Cond.fieldLink RX5 85 "BlitBoard$Area" "high" "I", Cond.classLink RX5 113 RX1, Cond.instantiable RX1 4, Cond.initialized RX1, Cond.methodLink RX5 34 yX5_isSide, Cond.static yX5_isSide, Cond.initialized RX5, Cond.code yX5_isSide cX5_isSide 1 (some .boolean), Cond.methodLink RX5 191 yX1_init, Cond.instanceMethod yX1_init, Cond.code yX1_init cX1_init 10 none, Cond.methodLink RX1 1 objectInit, Cond.instanceMethod objectInit, Cond.code objectInit ⟨#[0xb1]⟩ 1 none, Cond.fieldLink RX1 7 "BlitBoard$Area" "left" "J", Cond.fieldLink RX1 13 "BlitBoard$Area" "top" "J", Cond.fieldLink RX1 16 "BlitBoard$Move" "from" "LBlitBoard$Surface;", Cond.fieldLink RX1 22 "BlitBoard$Move" "to" "LBlitBoard$Surface;", Cond.fieldLink RX1 25 "BlitBoard$Surface" "whole" "LBlitBoard$Area;", Cond.fieldLink RX1 39 "BlitBoard$Surface" "clip" "LBlitBoard$Area;", Cond.fieldLink RX1 42 "BlitBoard$Move" "target" "LBlitBoard$Area;", Cond.fieldLink RX1 45 "BlitBoard$Move" "source" "LBlitBoard$Area;", Cond.methodLink RX1 31 yX0_shared]
def wsX5_moveOf_r2 : List Cond := [Cond.instanceMethod yX0_shared, Cond.selects RX0 yX0_shared yX0_shared, Cond.initialized RX0, Cond.code yX0_shared cX0_shared 10 (some (.object "BlitBoard$Area")), Cond.fieldLink RX0 7 "BlitBoard$Area" "left" "J", Cond.methodLink RX0 26 Lib.MathLoose.max_long.x, Cond.static Lib.MathLoose.max_long.x, Cond.initialized "java/lang/Math", Cond.code Lib.MathLoose.max_long.x Lib.MathLoose.max_long.code 4 (some .long), Cond.fieldLink RX0 13 "BlitBoard$Area" "top" "J", Cond.fieldLink RX0 16 "BlitBoard$Area" "wide" "I", Cond.methodLink RX0 32 Lib.MathLoose.min_long.x, Cond.static Lib.MathLoose.min_long.x, Cond.code Lib.MathLoose.min_long.x Lib.MathLoose.min_long.code 4 (some .long), Cond.fieldLink RX0 20 "BlitBoard$Area" "high" "I", Cond.classLink RX0 8 RX0, Cond.instantiable RX0 4, Cond.methodLink RX0 23 yX0_init, Cond.instanceMethod yX0_init, Cond.code yX0_init cX0_init 7 none, Cond.methodLink RX0 1 objectInit, Cond.methodLink RX1 35 yX0_movedBy, Cond.instanceMethod yX0_movedBy, Cond.selects RX0 yX0_movedBy yX0_movedBy]
def wsX5_moveOf_r3 : List Cond := [Cond.code yX0_movedBy cX0_movedBy 5 (some (.object "BlitBoard$Area"))]
def wsX5_moveOf : List Cond := .code yX5_moveOf cX5_moveOf 5 (some (.object "BlitBoard$Move")) :: ((wsX5_moveOf_r1 ++ (wsX5_moveOf_r2 ++ wsX5_moveOf_r3)) ++ wsX00 ++ wsX10 ++ wsX30)
def wsX5_takeDots : List Cond := .code yX5_takeDots cX5_takeDots 5 none :: ([.fieldLink RX5 133 "BlitBoard$Move" "source" "LBlitBoard$Area;", .fieldLink RX5 85 "BlitBoard$Area" "high" "I", .fieldLink RX5 140 "BlitBoard$Move" "from" "LBlitBoard$Surface;", .fieldLink RX5 88 "BlitBoard$Area" "left" "J", .fieldLink RX5 92 "BlitBoard$Area" "top" "J", .fieldLink RX5 72 "BlitBoard$Surface" "dots" "[I", .fieldLink RX5 30 "BlitBoard" "taken" "[I", .fieldLink RX5 82 "BlitBoard$Area" "wide" "I", .methodLink RX5 194 arraycopyName, .native arraycopyName, .static arraycopyName, .initialized "java/lang/System", .methodLink RX5 75 yX3_indexOf, .instanceMethod yX3_indexOf, .selects RX3 yX3_indexOf yX3_indexOf, .initialized RX3, .code yX3_indexOf cX3_indexOf 5 (some .int), .fieldLink RX3 21 "BlitBoard$Surface" "whole" "LBlitBoard$Area;", .fieldLink RX3 32 "BlitBoard$Area" "wide" "I"] ++ wsX10 ++ wsX00 ++ wsX30 ++ wsX50)
def wsX5_copy_r1 : List Cond := [Cond.classLink RX5 49 RX0, Cond.instantiable RX0 4, Cond.initialized RX0, Cond.fieldLink RX5 122 "BlitBoard$Move" "to" "LBlitBoard$Surface;", Cond.fieldLink RX5 126 "BlitBoard$Move" "target" "LBlitBoard$Area;", Cond.methodLink RX5 41 yX5_surfaceAt, Cond.instanceMethod yX5_surfaceAt, Cond.selects RX5 yX5_surfaceAt yX5_surfaceAt, Cond.initialized RX5, Cond.code yX5_surfaceAt cX5_surfaceAt 2 (some (.object "BlitBoard$Surface")), Cond.fieldLink RX5 15 "BlitBoard" "surfaceCount" "I", Cond.fieldLink RX5 11 "BlitBoard" "surfaces" "[LBlitBoard$Surface;", Cond.methodLink RX5 51 yX0_init, Cond.instanceMethod yX0_init, Cond.code yX0_init cX0_init 7 none, Cond.methodLink RX0 1 objectInit, Cond.instanceMethod objectInit, Cond.code objectInit ⟨#[0xb1]⟩ 1 none, Cond.fieldLink RX0 7 "BlitBoard$Area" "left" "J", Cond.fieldLink RX0 13 "BlitBoard$Area" "top" "J", Cond.fieldLink RX0 16 "BlitBoard$Area" "wide" "I", Cond.fieldLink RX0 20 "BlitBoard$Area" "high" "I", Cond.methodLink RX5 108 yX5_moveOf, Cond.static yX5_moveOf]
def wsX5_copy_r2 : List Cond := [Cond.code yX5_moveOf cX5_moveOf 5 (some (.object "BlitBoard$Move")), Cond.fieldLink RX5 82 "BlitBoard$Area" "wide" "I", Cond.fieldLink RX5 85 "BlitBoard$Area" "high" "I", Cond.classLink RX5 113 RX1, Cond.instantiable RX1 4, Cond.initialized RX1, Cond.methodLink RX5 34 yX5_isSide, Cond.static yX5_isSide, Cond.code yX5_isSide cX5_isSide 1 (some .boolean), Cond.methodLink RX5 191 yX1_init, Cond.instanceMethod yX1_init, Cond.code yX1_init cX1_init 10 none, Cond.methodLink RX1 1 objectInit, Cond.fieldLink RX1 7 "BlitBoard$Area" "left" "J", Cond.fieldLink RX1 13 "BlitBoard$Area" "top" "J", Cond.fieldLink RX1 16 "BlitBoard$Move" "from" "LBlitBoard$Surface;", Cond.fieldLink RX1 22 "BlitBoard$Move" "to" "LBlitBoard$Surface;", Cond.fieldLink RX1 25 "BlitBoard$Surface" "whole" "LBlitBoard$Area;", Cond.fieldLink RX1 39 "BlitBoard$Surface" "clip" "LBlitBoard$Area;", Cond.fieldLink RX1 42 "BlitBoard$Move" "target" "LBlitBoard$Area;", Cond.fieldLink RX1 45 "BlitBoard$Move" "source" "LBlitBoard$Area;", Cond.methodLink RX1 31 yX0_shared, Cond.instanceMethod yX0_shared, Cond.selects RX0 yX0_shared yX0_shared]
def wsX5_copy_r3 : List Cond := [Cond.code yX0_shared cX0_shared 10 (some (.object "BlitBoard$Area")), Cond.methodLink RX0 26 Lib.MathLoose.max_long.x, Cond.static Lib.MathLoose.max_long.x, Cond.initialized "java/lang/Math", Cond.code Lib.MathLoose.max_long.x Lib.MathLoose.max_long.code 4 (some .long), Cond.methodLink RX0 32 Lib.MathLoose.min_long.x, Cond.static Lib.MathLoose.min_long.x, Cond.code Lib.MathLoose.min_long.x Lib.MathLoose.min_long.code 4 (some .long), Cond.classLink RX0 8 RX0, Cond.methodLink RX0 23 yX0_init, Cond.methodLink RX1 35 yX0_movedBy, Cond.instanceMethod yX0_movedBy, Cond.selects RX0 yX0_movedBy yX0_movedBy, Cond.code yX0_movedBy cX0_movedBy 5 (some (.object "BlitBoard$Area")), Cond.methodLink RX5 112 yX1_keepsDepth, Cond.instanceMethod yX1_keepsDepth, Cond.selects RX1 yX1_keepsDepth yX1_keepsDepth, Cond.code yX1_keepsDepth cX1_keepsDepth 1 (some .boolean), Cond.fieldLink RX1 48 "BlitBoard$Surface" "depth" "I", Cond.methodLink RX5 95 yX5_isOperation, Cond.static yX5_isOperation, Cond.code yX5_isOperation cX5_isOperation 1 (some .boolean), Cond.methodLink RX5 118 yX5_takeDots, Cond.instanceMethod yX5_takeDots]
def wsX5_copy_r4 : List Cond := [Cond.selects RX5 yX5_takeDots yX5_takeDots, Cond.code yX5_takeDots cX5_takeDots 5 none, Cond.fieldLink RX5 133 "BlitBoard$Move" "source" "LBlitBoard$Area;", Cond.fieldLink RX5 140 "BlitBoard$Move" "from" "LBlitBoard$Surface;", Cond.fieldLink RX5 88 "BlitBoard$Area" "left" "J", Cond.fieldLink RX5 92 "BlitBoard$Area" "top" "J", Cond.fieldLink RX5 72 "BlitBoard$Surface" "dots" "[I", Cond.fieldLink RX5 30 "BlitBoard" "taken" "[I", Cond.methodLink RX5 194 arraycopyName, Cond.native arraycopyName, Cond.static arraycopyName, Cond.initialized "java/lang/System", Cond.methodLink RX5 75 yX3_indexOf, Cond.instanceMethod yX3_indexOf, Cond.selects RX3 yX3_indexOf yX3_indexOf, Cond.initialized RX3, Cond.code yX3_indexOf cX3_indexOf 5 (some .int), Cond.fieldLink RX3 21 "BlitBoard$Surface" "whole" "LBlitBoard$Area;", Cond.fieldLink RX3 32 "BlitBoard$Area" "wide" "I", Cond.methodLink RX5 104 yX5_putDots, Cond.instanceMethod yX5_putDots, Cond.selects RX5 yX5_putDots yX5_putDots, Cond.code yX5_putDots cX5_putDots 9 none, Cond.fieldLink RX5 177 "BlitBoard$Surface" "largest" "I"]
def wsX5_copy_r5 : List Cond := [Cond.methodLink RX5 203 yX5_combined, Cond.static yX5_combined, Cond.code yX5_combined cX5_combined 4 (some .int), Cond.methodLink RX5 61 yX0_size, Cond.instanceMethod yX0_size, Cond.selects RX0 yX0_size yX0_size, Cond.code yX0_size cX0_size 1 (some .int)]
def wsX5_copy : List Cond := .code yX5_copy cX5_copy 11 (some .int) :: ((wsX5_copy_r1 ++ (wsX5_copy_r2 ++ (wsX5_copy_r3 ++ (wsX5_copy_r4 ++ wsX5_copy_r5)))) ++ wsX00 ++ wsX10 ++ wsX50 ++ wsX30)
def wsX5_dropKey : List Cond := .code yX5_dropKey cX5_dropKey 4 none :: ([.fieldLink RX5 30 "BlitBoard" "taken" "[I"] ++ wsX50)
def wsX5_keyed_r1 : List Cond := [Cond.classLink RX5 49 RX0, Cond.instantiable RX0 4, Cond.initialized RX0, Cond.fieldLink RX5 122 "BlitBoard$Move" "to" "LBlitBoard$Surface;", Cond.fieldLink RX5 126 "BlitBoard$Move" "target" "LBlitBoard$Area;", Cond.methodLink RX5 41 yX5_surfaceAt, Cond.instanceMethod yX5_surfaceAt, Cond.selects RX5 yX5_surfaceAt yX5_surfaceAt, Cond.initialized RX5, Cond.code yX5_surfaceAt cX5_surfaceAt 2 (some (.object "BlitBoard$Surface")), Cond.fieldLink RX5 15 "BlitBoard" "surfaceCount" "I", Cond.fieldLink RX5 11 "BlitBoard" "surfaces" "[LBlitBoard$Surface;", Cond.methodLink RX5 51 yX0_init, Cond.instanceMethod yX0_init, Cond.code yX0_init cX0_init 7 none, Cond.methodLink RX0 1 objectInit, Cond.instanceMethod objectInit, Cond.code objectInit ⟨#[0xb1]⟩ 1 none, Cond.fieldLink RX0 7 "BlitBoard$Area" "left" "J", Cond.fieldLink RX0 13 "BlitBoard$Area" "top" "J", Cond.fieldLink RX0 16 "BlitBoard$Area" "wide" "I", Cond.fieldLink RX0 20 "BlitBoard$Area" "high" "I", Cond.methodLink RX5 108 yX5_moveOf, Cond.static yX5_moveOf]
def wsX5_keyed_r2 : List Cond := [Cond.code yX5_moveOf cX5_moveOf 5 (some (.object "BlitBoard$Move")), Cond.fieldLink RX5 82 "BlitBoard$Area" "wide" "I", Cond.fieldLink RX5 85 "BlitBoard$Area" "high" "I", Cond.classLink RX5 113 RX1, Cond.instantiable RX1 4, Cond.initialized RX1, Cond.methodLink RX5 34 yX5_isSide, Cond.static yX5_isSide, Cond.code yX5_isSide cX5_isSide 1 (some .boolean), Cond.methodLink RX5 191 yX1_init, Cond.instanceMethod yX1_init, Cond.code yX1_init cX1_init 10 none, Cond.methodLink RX1 1 objectInit, Cond.fieldLink RX1 7 "BlitBoard$Area" "left" "J", Cond.fieldLink RX1 13 "BlitBoard$Area" "top" "J", Cond.fieldLink RX1 16 "BlitBoard$Move" "from" "LBlitBoard$Surface;", Cond.fieldLink RX1 22 "BlitBoard$Move" "to" "LBlitBoard$Surface;", Cond.fieldLink RX1 25 "BlitBoard$Surface" "whole" "LBlitBoard$Area;", Cond.fieldLink RX1 39 "BlitBoard$Surface" "clip" "LBlitBoard$Area;", Cond.fieldLink RX1 42 "BlitBoard$Move" "target" "LBlitBoard$Area;", Cond.fieldLink RX1 45 "BlitBoard$Move" "source" "LBlitBoard$Area;", Cond.methodLink RX1 31 yX0_shared, Cond.instanceMethod yX0_shared, Cond.selects RX0 yX0_shared yX0_shared]
def wsX5_keyed_r3 : List Cond := [Cond.code yX0_shared cX0_shared 10 (some (.object "BlitBoard$Area")), Cond.methodLink RX0 26 Lib.MathLoose.max_long.x, Cond.static Lib.MathLoose.max_long.x, Cond.initialized "java/lang/Math", Cond.code Lib.MathLoose.max_long.x Lib.MathLoose.max_long.code 4 (some .long), Cond.methodLink RX0 32 Lib.MathLoose.min_long.x, Cond.static Lib.MathLoose.min_long.x, Cond.code Lib.MathLoose.min_long.x Lib.MathLoose.min_long.code 4 (some .long), Cond.classLink RX0 8 RX0, Cond.methodLink RX0 23 yX0_init, Cond.methodLink RX1 35 yX0_movedBy, Cond.instanceMethod yX0_movedBy, Cond.selects RX0 yX0_movedBy yX0_movedBy, Cond.code yX0_movedBy cX0_movedBy 5 (some (.object "BlitBoard$Area")), Cond.methodLink RX5 112 yX1_keepsDepth, Cond.instanceMethod yX1_keepsDepth, Cond.selects RX1 yX1_keepsDepth yX1_keepsDepth, Cond.code yX1_keepsDepth cX1_keepsDepth 1 (some .boolean), Cond.fieldLink RX1 48 "BlitBoard$Surface" "depth" "I", Cond.methodLink RX5 69 yX3_fits, Cond.instanceMethod yX3_fits, Cond.selects RX3 yX3_fits yX3_fits, Cond.initialized RX3, Cond.code yX3_fits cX3_fits 2 (some .boolean)]
def wsX5_keyed_r4 : List Cond := [Cond.fieldLink RX3 13 "BlitBoard$Surface" "largest" "I", Cond.methodLink RX5 118 yX5_takeDots, Cond.instanceMethod yX5_takeDots, Cond.selects RX5 yX5_takeDots yX5_takeDots, Cond.code yX5_takeDots cX5_takeDots 5 none, Cond.fieldLink RX5 133 "BlitBoard$Move" "source" "LBlitBoard$Area;", Cond.fieldLink RX5 140 "BlitBoard$Move" "from" "LBlitBoard$Surface;", Cond.fieldLink RX5 88 "BlitBoard$Area" "left" "J", Cond.fieldLink RX5 92 "BlitBoard$Area" "top" "J", Cond.fieldLink RX5 72 "BlitBoard$Surface" "dots" "[I", Cond.fieldLink RX5 30 "BlitBoard" "taken" "[I", Cond.methodLink RX5 194 arraycopyName, Cond.native arraycopyName, Cond.static arraycopyName, Cond.initialized "java/lang/System", Cond.methodLink RX5 75 yX3_indexOf, Cond.instanceMethod yX3_indexOf, Cond.selects RX3 yX3_indexOf yX3_indexOf, Cond.code yX3_indexOf cX3_indexOf 5 (some .int), Cond.fieldLink RX3 21 "BlitBoard$Surface" "whole" "LBlitBoard$Area;", Cond.fieldLink RX3 32 "BlitBoard$Area" "wide" "I", Cond.methodLink RX5 61 yX0_size, Cond.instanceMethod yX0_size, Cond.selects RX0 yX0_size yX0_size]
def wsX5_keyed_r5 : List Cond := [Cond.code yX0_size cX0_size 1 (some .int), Cond.methodLink RX5 129 yX5_dropKey, Cond.instanceMethod yX5_dropKey, Cond.selects RX5 yX5_dropKey yX5_dropKey, Cond.code yX5_dropKey cX5_dropKey 4 none, Cond.methodLink RX5 104 yX5_putDots, Cond.instanceMethod yX5_putDots, Cond.selects RX5 yX5_putDots yX5_putDots, Cond.code yX5_putDots cX5_putDots 9 none, Cond.fieldLink RX5 177 "BlitBoard$Surface" "largest" "I", Cond.methodLink RX5 203 yX5_combined, Cond.static yX5_combined, Cond.code yX5_combined cX5_combined 4 (some .int)]
def wsX5_keyed : List Cond := .code yX5_keyed cX5_keyed 11 (some .int) :: ((wsX5_keyed_r1 ++ (wsX5_keyed_r2 ++ (wsX5_keyed_r3 ++ (wsX5_keyed_r4 ++ wsX5_keyed_r5)))) ++ wsX00 ++ wsX10 ++ wsX50 ++ wsX30)
def wsX5_dropMasked_r1 : List Cond := [Cond.fieldLink RX5 85 "BlitBoard$Area" "high" "I", Cond.fieldLink RX5 82 "BlitBoard$Area" "wide" "I", Cond.fieldLink RX5 88 "BlitBoard$Area" "left" "J", Cond.fieldLink RX5 92 "BlitBoard$Area" "top" "J", Cond.fieldLink RX5 30 "BlitBoard" "taken" "[I", Cond.methodLink RX5 200 yX3_isOne, Cond.instanceMethod yX3_isOne, Cond.selects RX3 yX3_isOne yX3_isOne, Cond.initialized RX3, Cond.code yX3_isOne cX3_isOne 5 (some .boolean), Cond.fieldLink RX3 21 "BlitBoard$Surface" "whole" "LBlitBoard$Area;", Cond.fieldLink RX3 25 "BlitBoard$Surface" "dots" "[I", Cond.methodLink RX3 35 yX0_holds, Cond.instanceMethod yX0_holds, Cond.selects RX0 yX0_holds yX0_holds, Cond.initialized RX0, Cond.code yX0_holds cX0_holds 5 (some .boolean), Cond.fieldLink RX0 7 "BlitBoard$Area" "left" "J", Cond.fieldLink RX0 16 "BlitBoard$Area" "wide" "I", Cond.fieldLink RX0 13 "BlitBoard$Area" "top" "J", Cond.fieldLink RX0 20 "BlitBoard$Area" "high" "I", Cond.methodLink RX3 39 yX3_indexOf, Cond.instanceMethod yX3_indexOf, Cond.selects RX3 yX3_indexOf yX3_indexOf]
def wsX5_dropMasked_r2 : List Cond := [Cond.code yX3_indexOf cX3_indexOf 5 (some .int), Cond.fieldLink RX3 32 "BlitBoard$Area" "wide" "I"]
def wsX5_dropMasked : List Cond := .code yX5_dropMasked cX5_dropMasked 5 none :: ((wsX5_dropMasked_r1 ++ wsX5_dropMasked_r2) ++ wsX00 ++ wsX50 ++ wsX30)
def wsX5_masked_r1 : List Cond := [Cond.classLink RX5 49 RX0, Cond.instantiable RX0 4, Cond.initialized RX0, Cond.fieldLink RX5 79 "BlitBoard$Surface" "depth" "I", Cond.fieldLink RX5 133 "BlitBoard$Move" "source" "LBlitBoard$Area;", Cond.fieldLink RX5 122 "BlitBoard$Move" "to" "LBlitBoard$Surface;", Cond.fieldLink RX5 126 "BlitBoard$Move" "target" "LBlitBoard$Area;", Cond.methodLink RX5 41 yX5_surfaceAt, Cond.instanceMethod yX5_surfaceAt, Cond.selects RX5 yX5_surfaceAt yX5_surfaceAt, Cond.initialized RX5, Cond.code yX5_surfaceAt cX5_surfaceAt 2 (some (.object "BlitBoard$Surface")), Cond.fieldLink RX5 15 "BlitBoard" "surfaceCount" "I", Cond.fieldLink RX5 11 "BlitBoard" "surfaces" "[LBlitBoard$Surface;", Cond.methodLink RX5 51 yX0_init, Cond.instanceMethod yX0_init, Cond.code yX0_init cX0_init 7 none, Cond.methodLink RX0 1 objectInit, Cond.instanceMethod objectInit, Cond.code objectInit ⟨#[0xb1]⟩ 1 none, Cond.fieldLink RX0 7 "BlitBoard$Area" "left" "J", Cond.fieldLink RX0 13 "BlitBoard$Area" "top" "J", Cond.fieldLink RX0 16 "BlitBoard$Area" "wide" "I", Cond.fieldLink RX0 20 "BlitBoard$Area" "high" "I"]
def wsX5_masked_r2 : List Cond := [Cond.methodLink RX5 108 yX5_moveOf, Cond.static yX5_moveOf, Cond.code yX5_moveOf cX5_moveOf 5 (some (.object "BlitBoard$Move")), Cond.fieldLink RX5 82 "BlitBoard$Area" "wide" "I", Cond.fieldLink RX5 85 "BlitBoard$Area" "high" "I", Cond.classLink RX5 113 RX1, Cond.instantiable RX1 4, Cond.initialized RX1, Cond.methodLink RX5 34 yX5_isSide, Cond.static yX5_isSide, Cond.code yX5_isSide cX5_isSide 1 (some .boolean), Cond.methodLink RX5 191 yX1_init, Cond.instanceMethod yX1_init, Cond.code yX1_init cX1_init 10 none, Cond.methodLink RX1 1 objectInit, Cond.fieldLink RX1 7 "BlitBoard$Area" "left" "J", Cond.fieldLink RX1 13 "BlitBoard$Area" "top" "J", Cond.fieldLink RX1 16 "BlitBoard$Move" "from" "LBlitBoard$Surface;", Cond.fieldLink RX1 22 "BlitBoard$Move" "to" "LBlitBoard$Surface;", Cond.fieldLink RX1 25 "BlitBoard$Surface" "whole" "LBlitBoard$Area;", Cond.fieldLink RX1 39 "BlitBoard$Surface" "clip" "LBlitBoard$Area;", Cond.fieldLink RX1 42 "BlitBoard$Move" "target" "LBlitBoard$Area;", Cond.fieldLink RX1 45 "BlitBoard$Move" "source" "LBlitBoard$Area;", Cond.methodLink RX1 31 yX0_shared]
def wsX5_masked_r3 : List Cond := [Cond.instanceMethod yX0_shared, Cond.selects RX0 yX0_shared yX0_shared, Cond.code yX0_shared cX0_shared 10 (some (.object "BlitBoard$Area")), Cond.methodLink RX0 26 Lib.MathLoose.max_long.x, Cond.static Lib.MathLoose.max_long.x, Cond.initialized "java/lang/Math", Cond.code Lib.MathLoose.max_long.x Lib.MathLoose.max_long.code 4 (some .long), Cond.methodLink RX0 32 Lib.MathLoose.min_long.x, Cond.static Lib.MathLoose.min_long.x, Cond.code Lib.MathLoose.min_long.x Lib.MathLoose.min_long.code 4 (some .long), Cond.classLink RX0 8 RX0, Cond.methodLink RX0 23 yX0_init, Cond.methodLink RX1 35 yX0_movedBy, Cond.instanceMethod yX0_movedBy, Cond.selects RX0 yX0_movedBy yX0_movedBy, Cond.code yX0_movedBy cX0_movedBy 5 (some (.object "BlitBoard$Area")), Cond.methodLink RX5 112 yX1_keepsDepth, Cond.instanceMethod yX1_keepsDepth, Cond.selects RX1 yX1_keepsDepth yX1_keepsDepth, Cond.code yX1_keepsDepth cX1_keepsDepth 1 (some .boolean), Cond.fieldLink RX1 48 "BlitBoard$Surface" "depth" "I", Cond.methodLink RX5 118 yX5_takeDots, Cond.instanceMethod yX5_takeDots, Cond.selects RX5 yX5_takeDots yX5_takeDots]
def wsX5_masked_r4 : List Cond := [Cond.code yX5_takeDots cX5_takeDots 5 none, Cond.fieldLink RX5 140 "BlitBoard$Move" "from" "LBlitBoard$Surface;", Cond.fieldLink RX5 88 "BlitBoard$Area" "left" "J", Cond.fieldLink RX5 92 "BlitBoard$Area" "top" "J", Cond.fieldLink RX5 72 "BlitBoard$Surface" "dots" "[I", Cond.fieldLink RX5 30 "BlitBoard" "taken" "[I", Cond.methodLink RX5 194 arraycopyName, Cond.native arraycopyName, Cond.static arraycopyName, Cond.initialized "java/lang/System", Cond.methodLink RX5 75 yX3_indexOf, Cond.instanceMethod yX3_indexOf, Cond.selects RX3 yX3_indexOf yX3_indexOf, Cond.initialized RX3, Cond.code yX3_indexOf cX3_indexOf 5 (some .int), Cond.fieldLink RX3 21 "BlitBoard$Surface" "whole" "LBlitBoard$Area;", Cond.fieldLink RX3 32 "BlitBoard$Area" "wide" "I", Cond.methodLink RX5 136 yX5_dropMasked, Cond.instanceMethod yX5_dropMasked, Cond.selects RX5 yX5_dropMasked yX5_dropMasked, Cond.code yX5_dropMasked cX5_dropMasked 5 none, Cond.methodLink RX5 200 yX3_isOne, Cond.instanceMethod yX3_isOne, Cond.selects RX3 yX3_isOne yX3_isOne]
def wsX5_masked_r5 : List Cond := [Cond.code yX3_isOne cX3_isOne 5 (some .boolean), Cond.fieldLink RX3 25 "BlitBoard$Surface" "dots" "[I", Cond.methodLink RX3 35 yX0_holds, Cond.instanceMethod yX0_holds, Cond.selects RX0 yX0_holds yX0_holds, Cond.code yX0_holds cX0_holds 5 (some .boolean), Cond.methodLink RX3 39 yX3_indexOf, Cond.methodLink RX5 104 yX5_putDots, Cond.instanceMethod yX5_putDots, Cond.selects RX5 yX5_putDots yX5_putDots, Cond.code yX5_putDots cX5_putDots 9 none, Cond.fieldLink RX5 177 "BlitBoard$Surface" "largest" "I", Cond.methodLink RX5 203 yX5_combined, Cond.static yX5_combined, Cond.code yX5_combined cX5_combined 4 (some .int), Cond.methodLink RX5 61 yX0_size, Cond.instanceMethod yX0_size, Cond.selects RX0 yX0_size yX0_size, Cond.code yX0_size cX0_size 1 (some .int)]
def wsX5_masked : List Cond := .code yX5_masked cX5_masked 12 (some .int) :: ((wsX5_masked_r1 ++ (wsX5_masked_r2 ++ (wsX5_masked_r3 ++ (wsX5_masked_r4 ++ wsX5_masked_r5)))) ++ wsX00 ++ wsX30 ++ wsX10 ++ wsX50)
def wsX5_spread_r1 : List Cond := [Cond.classLink RX5 49 RX0, Cond.instantiable RX0 4, Cond.initialized RX0, Cond.fieldLink RX5 140 "BlitBoard$Move" "from" "LBlitBoard$Surface;", Cond.fieldLink RX5 79 "BlitBoard$Surface" "depth" "I", Cond.fieldLink RX5 122 "BlitBoard$Move" "to" "LBlitBoard$Surface;", Cond.fieldLink RX5 126 "BlitBoard$Move" "target" "LBlitBoard$Area;", Cond.fieldLink RX5 30 "BlitBoard" "taken" "[I", Cond.methodLink RX5 41 yX5_surfaceAt, Cond.instanceMethod yX5_surfaceAt, Cond.selects RX5 yX5_surfaceAt yX5_surfaceAt, Cond.initialized RX5, Cond.code yX5_surfaceAt cX5_surfaceAt 2 (some (.object "BlitBoard$Surface")), Cond.fieldLink RX5 15 "BlitBoard" "surfaceCount" "I", Cond.fieldLink RX5 11 "BlitBoard" "surfaces" "[LBlitBoard$Surface;", Cond.methodLink RX5 51 yX0_init, Cond.instanceMethod yX0_init, Cond.code yX0_init cX0_init 7 none, Cond.methodLink RX0 1 objectInit, Cond.instanceMethod objectInit, Cond.code objectInit ⟨#[0xb1]⟩ 1 none, Cond.fieldLink RX0 7 "BlitBoard$Area" "left" "J", Cond.fieldLink RX0 13 "BlitBoard$Area" "top" "J", Cond.fieldLink RX0 16 "BlitBoard$Area" "wide" "I"]
def wsX5_spread_r2 : List Cond := [Cond.fieldLink RX0 20 "BlitBoard$Area" "high" "I", Cond.methodLink RX5 108 yX5_moveOf, Cond.static yX5_moveOf, Cond.code yX5_moveOf cX5_moveOf 5 (some (.object "BlitBoard$Move")), Cond.fieldLink RX5 82 "BlitBoard$Area" "wide" "I", Cond.fieldLink RX5 85 "BlitBoard$Area" "high" "I", Cond.classLink RX5 113 RX1, Cond.instantiable RX1 4, Cond.initialized RX1, Cond.methodLink RX5 34 yX5_isSide, Cond.static yX5_isSide, Cond.code yX5_isSide cX5_isSide 1 (some .boolean), Cond.methodLink RX5 191 yX1_init, Cond.instanceMethod yX1_init, Cond.code yX1_init cX1_init 10 none, Cond.methodLink RX1 1 objectInit, Cond.fieldLink RX1 7 "BlitBoard$Area" "left" "J", Cond.fieldLink RX1 13 "BlitBoard$Area" "top" "J", Cond.fieldLink RX1 16 "BlitBoard$Move" "from" "LBlitBoard$Surface;", Cond.fieldLink RX1 22 "BlitBoard$Move" "to" "LBlitBoard$Surface;", Cond.fieldLink RX1 25 "BlitBoard$Surface" "whole" "LBlitBoard$Area;", Cond.fieldLink RX1 39 "BlitBoard$Surface" "clip" "LBlitBoard$Area;", Cond.fieldLink RX1 42 "BlitBoard$Move" "target" "LBlitBoard$Area;", Cond.fieldLink RX1 45 "BlitBoard$Move" "source" "LBlitBoard$Area;"]
def wsX5_spread_r3 : List Cond := [Cond.methodLink RX1 31 yX0_shared, Cond.instanceMethod yX0_shared, Cond.selects RX0 yX0_shared yX0_shared, Cond.code yX0_shared cX0_shared 10 (some (.object "BlitBoard$Area")), Cond.methodLink RX0 26 Lib.MathLoose.max_long.x, Cond.static Lib.MathLoose.max_long.x, Cond.initialized "java/lang/Math", Cond.code Lib.MathLoose.max_long.x Lib.MathLoose.max_long.code 4 (some .long), Cond.methodLink RX0 32 Lib.MathLoose.min_long.x, Cond.static Lib.MathLoose.min_long.x, Cond.code Lib.MathLoose.min_long.x Lib.MathLoose.min_long.code 4 (some .long), Cond.classLink RX0 8 RX0, Cond.methodLink RX0 23 yX0_init, Cond.methodLink RX1 35 yX0_movedBy, Cond.instanceMethod yX0_movedBy, Cond.selects RX0 yX0_movedBy yX0_movedBy, Cond.code yX0_movedBy cX0_movedBy 5 (some (.object "BlitBoard$Area")), Cond.methodLink RX5 69 yX3_fits, Cond.instanceMethod yX3_fits, Cond.selects RX3 yX3_fits yX3_fits, Cond.initialized RX3, Cond.code yX3_fits cX3_fits 2 (some .boolean), Cond.fieldLink RX3 13 "BlitBoard$Surface" "largest" "I", Cond.methodLink RX5 118 yX5_takeDots]
def wsX5_spread_r4 : List Cond := [Cond.instanceMethod yX5_takeDots, Cond.selects RX5 yX5_takeDots yX5_takeDots, Cond.code yX5_takeDots cX5_takeDots 5 none, Cond.fieldLink RX5 133 "BlitBoard$Move" "source" "LBlitBoard$Area;", Cond.fieldLink RX5 88 "BlitBoard$Area" "left" "J", Cond.fieldLink RX5 92 "BlitBoard$Area" "top" "J", Cond.fieldLink RX5 72 "BlitBoard$Surface" "dots" "[I", Cond.methodLink RX5 194 arraycopyName, Cond.native arraycopyName, Cond.static arraycopyName, Cond.initialized "java/lang/System", Cond.methodLink RX5 75 yX3_indexOf, Cond.instanceMethod yX3_indexOf, Cond.selects RX3 yX3_indexOf yX3_indexOf, Cond.code yX3_indexOf cX3_indexOf 5 (some .int), Cond.fieldLink RX3 21 "BlitBoard$Surface" "whole" "LBlitBoard$Area;", Cond.fieldLink RX3 32 "BlitBoard$Area" "wide" "I", Cond.methodLink RX5 61 yX0_size, Cond.instanceMethod yX0_size, Cond.selects RX0 yX0_size yX0_size, Cond.code yX0_size cX0_size 1 (some .int), Cond.methodLink RX5 104 yX5_putDots, Cond.instanceMethod yX5_putDots, Cond.selects RX5 yX5_putDots yX5_putDots]
def wsX5_spread_r5 : List Cond := [Cond.code yX5_putDots cX5_putDots 9 none, Cond.fieldLink RX5 177 "BlitBoard$Surface" "largest" "I", Cond.methodLink RX5 203 yX5_combined, Cond.static yX5_combined, Cond.code yX5_combined cX5_combined 4 (some .int)]
def wsX5_spread : List Cond := .code yX5_spread cX5_spread 13 (some .int) :: ((wsX5_spread_r1 ++ (wsX5_spread_r2 ++ (wsX5_spread_r3 ++ (wsX5_spread_r4 ++ wsX5_spread_r5)))) ++ wsX00 ++ wsX10 ++ wsX30 ++ wsX50)
def wsX5_turn_r1 : List Cond := [Cond.methodLink RX5 41 yX5_surfaceAt, Cond.instanceMethod yX5_surfaceAt, Cond.selects RX5 yX5_surfaceAt yX5_surfaceAt, Cond.initialized RX5, Cond.code yX5_surfaceAt cX5_surfaceAt 2 (some (.object "BlitBoard$Surface")), Cond.fieldLink RX5 15 "BlitBoard" "surfaceCount" "I", Cond.fieldLink RX5 11 "BlitBoard" "surfaces" "[LBlitBoard$Surface;", Cond.methodLink RX5 143 yX3_swapLeftAndRight, Cond.instanceMethod yX3_swapLeftAndRight, Cond.selects RX3 yX3_swapLeftAndRight yX3_swapLeftAndRight, Cond.initialized RX3, Cond.code yX3_swapLeftAndRight cX3_swapLeftAndRight 3 none, Cond.fieldLink RX3 21 "BlitBoard$Surface" "whole" "LBlitBoard$Area;", Cond.fieldLink RX3 43 "BlitBoard$Area" "high" "I", Cond.fieldLink RX3 32 "BlitBoard$Area" "wide" "I", Cond.methodLink RX3 39 yX3_indexOf, Cond.instanceMethod yX3_indexOf, Cond.selects RX3 yX3_indexOf yX3_indexOf, Cond.code yX3_indexOf cX3_indexOf 5 (some .int), Cond.methodLink RX3 46 yX3_swapDots, Cond.instanceMethod yX3_swapDots, Cond.selects RX3 yX3_swapDots yX3_swapDots, Cond.code yX3_swapDots cX3_swapDots 4 none, Cond.fieldLink RX3 25 "BlitBoard$Surface" "dots" "[I"]
def wsX5_turn_r2 : List Cond := [Cond.methodLink RX5 146 yX3_swapTopAndBottom, Cond.instanceMethod yX3_swapTopAndBottom, Cond.selects RX3 yX3_swapTopAndBottom yX3_swapTopAndBottom, Cond.code yX3_swapTopAndBottom cX3_swapTopAndBottom 3 none]
def wsX5_turn : List Cond := .code yX5_turn cX5_turn 4 (some .int) :: ((wsX5_turn_r1 ++ wsX5_turn_r2) ++ wsX50 ++ wsX30 ++ wsX00)
def wsX5_count : List Cond := .code yX5_count cX5_count 9 (some .int) :: ([.fieldLink RX5 72 "BlitBoard$Surface" "dots" "[I", .methodLink RX5 41 yX5_surfaceAt, .instanceMethod yX5_surfaceAt, .selects RX5 yX5_surfaceAt yX5_surfaceAt, .initialized RX5, .code yX5_surfaceAt cX5_surfaceAt 2 (some (.object "BlitBoard$Surface")), .fieldLink RX5 15 "BlitBoard" "surfaceCount" "I", .fieldLink RX5 11 "BlitBoard" "surfaces" "[LBlitBoard$Surface;"] ++ wsX30 ++ wsX50)
def wsX5_spriteAt : List Cond := .code yX5_spriteAt cX5_spriteAt 2 (some (.object "BlitBoard$Sprite")) :: ([.fieldLink RX5 21 "BlitBoard" "sprites" "[LBlitBoard$Sprite;"] ++ wsX50)
def wsX5_tell_r1 : List Cond := [Cond.fieldLink RX5 26 "BlitBoard" "spare" "LBlitBoard$Sprite;", Cond.classLink RX5 156 RX4, Cond.instantiable RX4 3, Cond.initialized RX4, Cond.fieldLink RX5 164 "BlitBoard$Sprite" "spilled" "Z", Cond.fieldLink RX5 21 "BlitBoard" "sprites" "[LBlitBoard$Sprite;", Cond.fieldLink RX5 168 "BlitBoard$Sprite" "size" "I", Cond.methodLink RX5 149 yX5_spriteAt, Cond.instanceMethod yX5_spriteAt, Cond.selects RX5 yX5_spriteAt yX5_spriteAt, Cond.initialized RX5, Cond.code yX5_spriteAt cX5_spriteAt 2 (some (.object "BlitBoard$Sprite")), Cond.methodLink RX5 41 yX5_surfaceAt, Cond.instanceMethod yX5_surfaceAt, Cond.selects RX5 yX5_surfaceAt yX5_surfaceAt, Cond.code yX5_surfaceAt cX5_surfaceAt 2 (some (.object "BlitBoard$Surface")), Cond.fieldLink RX5 15 "BlitBoard" "surfaceCount" "I", Cond.fieldLink RX5 11 "BlitBoard" "surfaces" "[LBlitBoard$Surface;", Cond.methodLink RX5 153 yX2_empty, Cond.instanceMethod yX2_empty, Cond.selects RX2 yX2_empty yX2_empty, Cond.initialized RX2, Cond.code yX2_empty cX2_empty 1 none, Cond.fieldLink RX2 15 "BlitBoard$Sprite" "size" "I"]
def wsX5_tell_r2 : List Cond := [Cond.fieldLink RX2 19 "BlitBoard$Sprite" "spilled" "Z", Cond.methodLink RX5 158 yX4_init, Cond.instanceMethod yX4_init, Cond.code yX4_init cX4_init 4 none, Cond.methodLink RX4 3 objectInit, Cond.instanceMethod objectInit, Cond.code objectInit ⟨#[0xb1]⟩ 1 none, Cond.fieldLink RX4 9 "BlitBoard$Teller" "of" "LBlitBoard$Surface;", Cond.fieldLink RX4 15 "BlitBoard$Teller" "key" "I", Cond.fieldLink RX4 19 "BlitBoard$Teller" "into" "LBlitBoard$Sprite;", Cond.methodLink RX5 161 yX4_addRows, Cond.instanceMethod yX4_addRows, Cond.selects RX4 yX4_addRows yX4_addRows, Cond.code yX4_addRows cX4_addRows 2 none, Cond.fieldLink RX4 23 "BlitBoard$Surface" "whole" "LBlitBoard$Area;", Cond.fieldLink RX4 29 "BlitBoard$Area" "high" "I", Cond.methodLink RX4 34 yX3_indexOf, Cond.instanceMethod yX3_indexOf, Cond.selects RX3 yX3_indexOf yX3_indexOf, Cond.initialized RX3, Cond.code yX3_indexOf cX3_indexOf 5 (some .int), Cond.fieldLink RX3 21 "BlitBoard$Surface" "whole" "LBlitBoard$Area;", Cond.fieldLink RX3 32 "BlitBoard$Area" "wide" "I", Cond.methodLink RX4 38 yX4_addRow]
def wsX5_tell_r3 : List Cond := [Cond.instanceMethod yX4_addRow, Cond.selects RX4 yX4_addRow yX4_addRow, Cond.code yX4_addRow cX4_addRow 7 none, Cond.fieldLink RX4 55 "BlitBoard$Surface" "dots" "[I", Cond.methodLink RX4 47 yX4_toldEnd, Cond.instanceMethod yX4_toldEnd, Cond.selects RX4 yX4_toldEnd yX4_toldEnd, Cond.code yX4_toldEnd cX4_toldEnd 4 (some .int), Cond.fieldLink RX4 63 "BlitBoard$Area" "wide" "I", Cond.methodLink RX4 51 yX4_kindAt, Cond.instanceMethod yX4_kindAt, Cond.selects RX4 yX4_kindAt yX4_kindAt, Cond.code yX4_kindAt cX4_kindAt 4 (some .int), Cond.methodLink RX4 66 yX4_isThree, Cond.instanceMethod yX4_isThree, Cond.selects RX4 yX4_isThree yX4_isThree, Cond.code yX4_isThree cX4_isThree 3 (some .boolean), Cond.methodLink RX4 59 yX4_addStretch, Cond.instanceMethod yX4_addStretch, Cond.selects RX4 yX4_addStretch yX4_addStretch, Cond.code yX4_addStretch cX4_addStretch 8 none, Cond.methodLink RX4 70 Lib.Math.min.name, Cond.static Lib.Math.min.name, Cond.initialized "java/lang/Math"]
def wsX5_tell_r4 : List Cond := [Cond.code Lib.Math.min.name Lib.Math.min.code 2 (some .int), Cond.methodLink RX4 42 yX2_append, Cond.instanceMethod yX2_append, Cond.selects RX2 yX2_append yX2_append, Cond.code yX2_append cX2_append 2 none, Cond.fieldLink RX2 9 "BlitBoard$Sprite" "bytes" "[I"]
def wsX5_tell : List Cond := .code yX5_tell cX5_tell 6 (some .int) :: ((wsX5_tell_r1 ++ (wsX5_tell_r2 ++ (wsX5_tell_r3 ++ wsX5_tell_r4))) ++ wsX50 ++ wsX40 ++ wsX20 ++ wsX30 ++ wsX00)
def wsX5_load : List Cond := .code yX5_load cX5_load 7 (some .int) :: ([.fieldLink RX5 168 "BlitBoard$Sprite" "size" "I", .methodLink RX5 149 yX5_spriteAt, .instanceMethod yX5_spriteAt, .selects RX5 yX5_spriteAt yX5_spriteAt, .initialized RX5, .code yX5_spriteAt cX5_spriteAt 2 (some (.object "BlitBoard$Sprite")), .fieldLink RX5 21 "BlitBoard" "sprites" "[LBlitBoard$Sprite;", .methodLink RX5 170 yX2_append, .instanceMethod yX2_append, .selects RX2 yX2_append yX2_append, .initialized RX2, .code yX2_append cX2_append 2 none, .fieldLink RX2 15 "BlitBoard$Sprite" "size" "I", .fieldLink RX2 19 "BlitBoard$Sprite" "spilled" "Z", .fieldLink RX2 9 "BlitBoard$Sprite" "bytes" "[I"] ++ wsX20 ++ wsX50)
def wsX5_forget : List Cond := .code yX5_forget cX5_forget 4 (some .int) :: ([.fieldLink RX5 168 "BlitBoard$Sprite" "size" "I", .methodLink RX5 149 yX5_spriteAt, .instanceMethod yX5_spriteAt, .selects RX5 yX5_spriteAt yX5_spriteAt, .initialized RX5, .code yX5_spriteAt cX5_spriteAt 2 (some (.object "BlitBoard$Sprite")), .fieldLink RX5 21 "BlitBoard" "sprites" "[LBlitBoard$Sprite;", .methodLink RX5 153 yX2_empty, .instanceMethod yX2_empty, .selects RX2 yX2_empty yX2_empty, .initialized RX2, .code yX2_empty cX2_empty 1 none, .fieldLink RX2 15 "BlitBoard$Sprite" "size" "I", .fieldLink RX2 19 "BlitBoard$Sprite" "spilled" "Z"] ++ wsX20 ++ wsX50)
def wsX5_part : List Cond := .code yX5_part cX5_part 4 (some .int) :: ([.fieldLink RX5 168 "BlitBoard$Sprite" "size" "I", .fieldLink RX5 174 "BlitBoard$Sprite" "bytes" "[I", .methodLink RX5 149 yX5_spriteAt, .instanceMethod yX5_spriteAt, .selects RX5 yX5_spriteAt yX5_spriteAt, .initialized RX5, .code yX5_spriteAt cX5_spriteAt 2 (some (.object "BlitBoard$Sprite")), .fieldLink RX5 21 "BlitBoard" "sprites" "[LBlitBoard$Sprite;"] ++ wsX20 ++ wsX50)
def wsX5_draw_r1 : List Cond := [Cond.fieldLink RX5 177 "BlitBoard$Surface" "largest" "I", Cond.methodLink RX5 149 yX5_spriteAt, Cond.instanceMethod yX5_spriteAt, Cond.selects RX5 yX5_spriteAt yX5_spriteAt, Cond.initialized RX5, Cond.code yX5_spriteAt cX5_spriteAt 2 (some (.object "BlitBoard$Sprite")), Cond.fieldLink RX5 21 "BlitBoard" "sprites" "[LBlitBoard$Sprite;", Cond.methodLink RX5 41 yX5_surfaceAt, Cond.instanceMethod yX5_surfaceAt, Cond.selects RX5 yX5_surfaceAt yX5_surfaceAt, Cond.code yX5_surfaceAt cX5_surfaceAt 2 (some (.object "BlitBoard$Surface")), Cond.fieldLink RX5 15 "BlitBoard" "surfaceCount" "I", Cond.fieldLink RX5 11 "BlitBoard" "surfaces" "[LBlitBoard$Surface;", Cond.methodLink RX5 180 yX2_firstWrong, Cond.instanceMethod yX2_firstWrong, Cond.selects RX2 yX2_firstWrong yX2_firstWrong, Cond.initialized RX2, Cond.code yX2_firstWrong cX2_firstWrong 8 (some .int), Cond.fieldLink RX2 15 "BlitBoard$Sprite" "size" "I", Cond.fieldLink RX2 9 "BlitBoard$Sprite" "bytes" "[I", Cond.methodLink RX2 23 yX2_stretchLength, Cond.static yX2_stretchLength, Cond.code yX2_stretchLength cX2_stretchLength 1 (some .int), Cond.methodLink RX2 27 yX2_isStretch]
def wsX5_draw_r2 : List Cond := [Cond.static yX2_isStretch, Cond.code yX2_isStretch cX2_isStretch 1 (some .boolean), Cond.methodLink RX2 31 yX2_dotBytes, Cond.static yX2_dotBytes, Cond.code yX2_dotBytes cX2_dotBytes 1 (some .int), Cond.methodLink RX5 184 yX2_paint, Cond.instanceMethod yX2_paint, Cond.selects RX2 yX2_paint yX2_paint, Cond.code yX2_paint cX2_paint 10 none, Cond.methodLink RX2 34 yX2_paintDots, Cond.static yX2_paintDots, Cond.code yX2_paintDots cX2_paintDots 8 none, Cond.methodLink RX2 38 yX3_putClipped, Cond.instanceMethod yX3_putClipped, Cond.selects RX3 yX3_putClipped yX3_putClipped, Cond.initialized RX3, Cond.code yX3_putClipped cX3_putClipped 6 none, Cond.fieldLink RX3 29 "BlitBoard$Surface" "clip" "LBlitBoard$Area;", Cond.fieldLink RX3 25 "BlitBoard$Surface" "dots" "[I", Cond.methodLink RX3 35 yX0_holds, Cond.instanceMethod yX0_holds, Cond.selects RX0 yX0_holds yX0_holds, Cond.initialized RX0, Cond.code yX0_holds cX0_holds 5 (some .boolean)]
def wsX5_draw_r3 : List Cond := [Cond.fieldLink RX0 7 "BlitBoard$Area" "left" "J", Cond.fieldLink RX0 16 "BlitBoard$Area" "wide" "I", Cond.fieldLink RX0 13 "BlitBoard$Area" "top" "J", Cond.fieldLink RX0 20 "BlitBoard$Area" "high" "I", Cond.methodLink RX3 39 yX3_indexOf, Cond.instanceMethod yX3_indexOf, Cond.selects RX3 yX3_indexOf yX3_indexOf, Cond.code yX3_indexOf cX3_indexOf 5 (some .int), Cond.fieldLink RX3 21 "BlitBoard$Surface" "whole" "LBlitBoard$Area;", Cond.fieldLink RX3 32 "BlitBoard$Area" "wide" "I"]
def wsX5_draw : List Cond := .code yX5_draw cX5_draw 8 (some .int) :: ((wsX5_draw_r1 ++ (wsX5_draw_r2 ++ wsX5_draw_r3)) ++ wsX30 ++ wsX50 ++ wsX20 ++ wsX00)
def wsX5_check : List Cond := .code yX5_check cX5_check 2 (some .int) :: ([.fieldLink RX5 15 "BlitBoard" "surfaceCount" "I", .fieldLink RX5 11 "BlitBoard" "surfaces" "[LBlitBoard$Surface;", .methodLink RX5 188 yX3_isSound, .instanceMethod yX3_isSound, .selects RX3 yX3_isSound yX3_isSound, .initialized RX3, .code yX3_isSound cX3_isSound 5 (some .boolean), .fieldLink RX3 25 "BlitBoard$Surface" "dots" "[I", .fieldLink RX3 29 "BlitBoard$Surface" "clip" "LBlitBoard$Area;", .fieldLink RX3 54 "BlitBoard$Area" "left" "J", .fieldLink RX3 58 "BlitBoard$Area" "top" "J", .fieldLink RX3 32 "BlitBoard$Area" "wide" "I", .fieldLink RX3 21 "BlitBoard$Surface" "whole" "LBlitBoard$Area;", .fieldLink RX3 43 "BlitBoard$Area" "high" "I", .methodLink RX3 50 yX3_fits, .instanceMethod yX3_fits, .selects RX3 yX3_fits yX3_fits, .code yX3_fits cX3_fits 2 (some .boolean), .fieldLink RX3 13 "BlitBoard$Surface" "largest" "I"] ++ wsX50 ++ wsX30 ++ wsX00)
def wsX6_init : List Cond := .code yX6_init cX6_init 1 none :: ([.methodLink RX6 1 objectInit, .instanceMethod objectInit, .code objectInit ⟨#[0xb1]⟩ 1 none, .arrayClass .int, .fieldLink RX6 7 "BlitBoardModel" "depths" "[I", .fieldLink RX6 13 "BlitBoardModel" "wides" "[I", .fieldLink RX6 16 "BlitBoardModel" "highs" "[I", .fieldLink RX6 19 "BlitBoardModel" "clips" "[I", .constant RX6 22 (32768), .fieldLink RX6 23 "BlitBoardModel" "dots" "[I", .fieldLink RX6 26 "BlitBoardModel" "fresh" "[I", .arrayClass .boolean, .fieldLink RX6 29 "BlitBoardModel" "comes" "[Z", .fieldLink RX6 33 "BlitBoardModel" "sizes" "[I", .fieldLink RX6 36 "BlitBoardModel" "bytes" "[I", .fieldLink RX6 39 "BlitBoardModel" "made" "[I", .fieldLink RX6 42 "BlitBoardModel" "columns" "[I", .fieldLink RX6 45 "BlitBoardModel" "rows" "[I", .fieldLink RX6 48 "BlitBoardModel" "numbers" "[I"] ++ wsX60)
def wsX6_isSurface : List Cond := .code yX6_isSurface cX6_isSurface 2 (some .boolean) :: ([.fieldLink RX6 51 "BlitBoardModel" "surfaces" "I"] ++ wsX60)
def wsX6_isSpan : List Cond := .code yX6_isSpan cX6_isSpan 1 (some .boolean) :: ([])
def wsX6_isPlace : List Cond := .code yX6_isPlace cX6_isPlace 6 (some .boolean) :: ([.fieldLink RX6 13 "BlitBoardModel" "wides" "[I", .fieldLink RX6 16 "BlitBoardModel" "highs" "[I"] ++ wsX60)
def wsX6_isInClip : List Cond := .code yX6_isInClip cX6_isInClip 7 (some .boolean) :: ([.fieldLink RX6 19 "BlitBoardModel" "clips" "[I"] ++ wsX60)
def wsX6_fits : List Cond := .code yX6_fits cX6_fits 3 (some .boolean) :: ([.fieldLink RX6 7 "BlitBoardModel" "depths" "[I"] ++ wsX60)
def wsX6_dot : List Cond := .code yX6_dot cX6_dot 6 (some .int) :: ([.fieldLink RX6 23 "BlitBoardModel" "dots" "[I", .methodLink RX6 55 yX6_isPlace, .instanceMethod yX6_isPlace, .selects RX6 yX6_isPlace yX6_isPlace, .initialized RX6, .code yX6_isPlace cX6_isPlace 6 (some .boolean), .fieldLink RX6 13 "BlitBoardModel" "wides" "[I", .fieldLink RX6 16 "BlitBoardModel" "highs" "[I"] ++ wsX60)
def wsX6_make : List Cond := .code yX6_make cX6_make 5 (some .int) :: ([.fieldLink RX6 51 "BlitBoardModel" "surfaces" "I", .fieldLink RX6 7 "BlitBoardModel" "depths" "[I", .fieldLink RX6 13 "BlitBoardModel" "wides" "[I", .fieldLink RX6 16 "BlitBoardModel" "highs" "[I", .fieldLink RX6 19 "BlitBoardModel" "clips" "[I"] ++ wsX60)
def wsX6_lesser : List Cond := .code yX6_lesser cX6_lesser 4 (some .long) :: ([])
def wsX6_clip : List Cond := .code yX6_clip cX6_clip 15 (some .int) :: ([.fieldLink RX6 13 "BlitBoardModel" "wides" "[I", .fieldLink RX6 16 "BlitBoardModel" "highs" "[I", .fieldLink RX6 19 "BlitBoardModel" "clips" "[I", .methodLink RX6 59 yX6_isSurface, .instanceMethod yX6_isSurface, .selects RX6 yX6_isSurface yX6_isSurface, .initialized RX6, .code yX6_isSurface cX6_isSurface 2 (some .boolean), .fieldLink RX6 51 "BlitBoardModel" "surfaces" "I", .methodLink RX6 63 yX6_isSpan, .static yX6_isSpan, .code yX6_isSpan cX6_isSpan 1 (some .boolean), .methodLink RX6 66 yX6_lesser, .static yX6_lesser, .code yX6_lesser cX6_lesser 4 (some .long)] ++ wsX60)
def wsX6_set : List Cond := .code yX6_set cX6_set 5 (some .int) :: ([.fieldLink RX6 23 "BlitBoardModel" "dots" "[I", .methodLink RX6 59 yX6_isSurface, .instanceMethod yX6_isSurface, .selects RX6 yX6_isSurface yX6_isSurface, .initialized RX6, .code yX6_isSurface cX6_isSurface 2 (some .boolean), .fieldLink RX6 51 "BlitBoardModel" "surfaces" "I", .methodLink RX6 55 yX6_isPlace, .instanceMethod yX6_isPlace, .selects RX6 yX6_isPlace yX6_isPlace, .code yX6_isPlace cX6_isPlace 6 (some .boolean), .fieldLink RX6 13 "BlitBoardModel" "wides" "[I", .fieldLink RX6 16 "BlitBoardModel" "highs" "[I", .methodLink RX6 70 yX6_fits, .instanceMethod yX6_fits, .selects RX6 yX6_fits yX6_fits, .code yX6_fits cX6_fits 3 (some .boolean), .fieldLink RX6 7 "BlitBoardModel" "depths" "[I"] ++ wsX60)
def wsX6_get : List Cond := .code yX6_get cX6_get 4 (some .int) :: ([.methodLink RX6 59 yX6_isSurface, .instanceMethod yX6_isSurface, .selects RX6 yX6_isSurface yX6_isSurface, .initialized RX6, .code yX6_isSurface cX6_isSurface 2 (some .boolean), .fieldLink RX6 51 "BlitBoardModel" "surfaces" "I", .methodLink RX6 55 yX6_isPlace, .instanceMethod yX6_isPlace, .selects RX6 yX6_isPlace yX6_isPlace, .code yX6_isPlace cX6_isPlace 6 (some .boolean), .fieldLink RX6 13 "BlitBoardModel" "wides" "[I", .fieldLink RX6 16 "BlitBoardModel" "highs" "[I", .methodLink RX6 74 yX6_dot, .instanceMethod yX6_dot, .selects RX6 yX6_dot yX6_dot, .code yX6_dot cX6_dot 6 (some .int), .fieldLink RX6 23 "BlitBoardModel" "dots" "[I"] ++ wsX60)
def wsX6_told : List Cond := .code yX6_told cX6_told 3 (some .int) :: ([.fieldLink RX6 7 "BlitBoardModel" "depths" "[I", .fieldLink RX6 13 "BlitBoardModel" "wides" "[I", .fieldLink RX6 16 "BlitBoardModel" "highs" "[I", .fieldLink RX6 19 "BlitBoardModel" "clips" "[I", .methodLink RX6 59 yX6_isSurface, .instanceMethod yX6_isSurface, .selects RX6 yX6_isSurface yX6_isSurface, .initialized RX6, .code yX6_isSurface cX6_isSurface 2 (some .boolean), .fieldLink RX6 51 "BlitBoardModel" "surfaces" "I"] ++ wsX60)
def wsX6_combined : List Cond := .code yX6_combined cX6_combined 6 (some .int) :: ([])
def wsX6_fitted : List Cond := .code yX6_fitted cX6_fitted 3 (some .int) :: ([.fieldLink RX6 7 "BlitBoardModel" "depths" "[I"] ++ wsX60)
def wsX6_fill_r1 : List Cond := [Cond.fieldLink RX6 23 "BlitBoardModel" "dots" "[I", Cond.methodLink RX6 59 yX6_isSurface, Cond.instanceMethod yX6_isSurface, Cond.selects RX6 yX6_isSurface yX6_isSurface, Cond.initialized RX6, Cond.code yX6_isSurface cX6_isSurface 2 (some .boolean), Cond.fieldLink RX6 51 "BlitBoardModel" "surfaces" "I", Cond.methodLink RX6 63 yX6_isSpan, Cond.static yX6_isSpan, Cond.code yX6_isSpan cX6_isSpan 1 (some .boolean), Cond.methodLink RX6 70 yX6_fits, Cond.instanceMethod yX6_fits, Cond.selects RX6 yX6_fits yX6_fits, Cond.code yX6_fits cX6_fits 3 (some .boolean), Cond.fieldLink RX6 7 "BlitBoardModel" "depths" "[I", Cond.methodLink RX6 78 yX6_isInClip, Cond.instanceMethod yX6_isInClip, Cond.selects RX6 yX6_isInClip yX6_isInClip, Cond.code yX6_isInClip cX6_isInClip 7 (some .boolean), Cond.fieldLink RX6 19 "BlitBoardModel" "clips" "[I", Cond.methodLink RX6 81 yX6_combined, Cond.static yX6_combined, Cond.code yX6_combined cX6_combined 6 (some .int), Cond.methodLink RX6 85 yX6_fitted]
def wsX6_fill_r2 : List Cond := [Cond.instanceMethod yX6_fitted, Cond.selects RX6 yX6_fitted yX6_fitted, Cond.code yX6_fitted cX6_fitted 3 (some .int)]
def wsX6_fill : List Cond := .code yX6_fill cX6_fill 16 (some .int) :: ((wsX6_fill_r1 ++ wsX6_fill_r2) ++ wsX60)
def wsX6_bring_r1 : List Cond := [Cond.fieldLink RX6 29 "BlitBoardModel" "comes" "[Z", Cond.fieldLink RX6 23 "BlitBoardModel" "dots" "[I", Cond.fieldLink RX6 26 "BlitBoardModel" "fresh" "[I", Cond.methodLink RX6 55 yX6_isPlace, Cond.instanceMethod yX6_isPlace, Cond.selects RX6 yX6_isPlace yX6_isPlace, Cond.initialized RX6, Cond.code yX6_isPlace cX6_isPlace 6 (some .boolean), Cond.fieldLink RX6 13 "BlitBoardModel" "wides" "[I", Cond.fieldLink RX6 16 "BlitBoardModel" "highs" "[I", Cond.methodLink RX6 78 yX6_isInClip, Cond.instanceMethod yX6_isInClip, Cond.selects RX6 yX6_isInClip yX6_isInClip, Cond.code yX6_isInClip cX6_isInClip 7 (some .boolean), Cond.fieldLink RX6 19 "BlitBoardModel" "clips" "[I", Cond.methodLink RX6 74 yX6_dot, Cond.instanceMethod yX6_dot, Cond.selects RX6 yX6_dot yX6_dot, Cond.code yX6_dot cX6_dot 6 (some .int), Cond.methodLink RX6 81 yX6_combined, Cond.static yX6_combined, Cond.code yX6_combined cX6_combined 6 (some .int), Cond.methodLink RX6 85 yX6_fitted, Cond.instanceMethod yX6_fitted]
def wsX6_bring_r2 : List Cond := [Cond.selects RX6 yX6_fitted yX6_fitted, Cond.code yX6_fitted cX6_fitted 3 (some .int), Cond.fieldLink RX6 7 "BlitBoardModel" "depths" "[I"]
def wsX6_bring : List Cond := .code yX6_bring cX6_bring 26 (some .int) :: ((wsX6_bring_r1 ++ wsX6_bring_r2) ++ wsX60)
def wsX6_areAlike : List Cond := .code yX6_areAlike cX6_areAlike 5 (some .boolean) :: ([.fieldLink RX6 7 "BlitBoardModel" "depths" "[I", .methodLink RX6 59 yX6_isSurface, .instanceMethod yX6_isSurface, .selects RX6 yX6_isSurface yX6_isSurface, .initialized RX6, .code yX6_isSurface cX6_isSurface 2 (some .boolean), .fieldLink RX6 51 "BlitBoardModel" "surfaces" "I", .methodLink RX6 63 yX6_isSpan, .static yX6_isSpan, .code yX6_isSpan cX6_isSpan 1 (some .boolean)] ++ wsX60)
def wsX6_copy_r1 : List Cond := [Cond.methodLink RX6 89 yX6_areAlike, Cond.instanceMethod yX6_areAlike, Cond.selects RX6 yX6_areAlike yX6_areAlike, Cond.initialized RX6, Cond.code yX6_areAlike cX6_areAlike 5 (some .boolean), Cond.fieldLink RX6 7 "BlitBoardModel" "depths" "[I", Cond.methodLink RX6 59 yX6_isSurface, Cond.instanceMethod yX6_isSurface, Cond.selects RX6 yX6_isSurface yX6_isSurface, Cond.code yX6_isSurface cX6_isSurface 2 (some .boolean), Cond.fieldLink RX6 51 "BlitBoardModel" "surfaces" "I", Cond.methodLink RX6 63 yX6_isSpan, Cond.static yX6_isSpan, Cond.code yX6_isSpan cX6_isSpan 1 (some .boolean), Cond.methodLink RX6 93 yX6_bring, Cond.instanceMethod yX6_bring, Cond.selects RX6 yX6_bring yX6_bring, Cond.code yX6_bring cX6_bring 26 (some .int), Cond.fieldLink RX6 29 "BlitBoardModel" "comes" "[Z", Cond.fieldLink RX6 23 "BlitBoardModel" "dots" "[I", Cond.fieldLink RX6 26 "BlitBoardModel" "fresh" "[I", Cond.methodLink RX6 55 yX6_isPlace, Cond.instanceMethod yX6_isPlace, Cond.selects RX6 yX6_isPlace yX6_isPlace]
def wsX6_copy_r2 : List Cond := [Cond.code yX6_isPlace cX6_isPlace 6 (some .boolean), Cond.fieldLink RX6 13 "BlitBoardModel" "wides" "[I", Cond.fieldLink RX6 16 "BlitBoardModel" "highs" "[I", Cond.methodLink RX6 78 yX6_isInClip, Cond.instanceMethod yX6_isInClip, Cond.selects RX6 yX6_isInClip yX6_isInClip, Cond.code yX6_isInClip cX6_isInClip 7 (some .boolean), Cond.fieldLink RX6 19 "BlitBoardModel" "clips" "[I", Cond.methodLink RX6 74 yX6_dot, Cond.instanceMethod yX6_dot, Cond.selects RX6 yX6_dot yX6_dot, Cond.code yX6_dot cX6_dot 6 (some .int), Cond.methodLink RX6 81 yX6_combined, Cond.static yX6_combined, Cond.code yX6_combined cX6_combined 6 (some .int), Cond.methodLink RX6 85 yX6_fitted, Cond.instanceMethod yX6_fitted, Cond.selects RX6 yX6_fitted yX6_fitted, Cond.code yX6_fitted cX6_fitted 3 (some .int)]
def wsX6_copy : List Cond := .code yX6_copy cX6_copy 11 (some .int) :: ((wsX6_copy_r1 ++ wsX6_copy_r2) ++ wsX60)
def wsX6_keyed_r1 : List Cond := [Cond.methodLink RX6 89 yX6_areAlike, Cond.instanceMethod yX6_areAlike, Cond.selects RX6 yX6_areAlike yX6_areAlike, Cond.initialized RX6, Cond.code yX6_areAlike cX6_areAlike 5 (some .boolean), Cond.fieldLink RX6 7 "BlitBoardModel" "depths" "[I", Cond.methodLink RX6 59 yX6_isSurface, Cond.instanceMethod yX6_isSurface, Cond.selects RX6 yX6_isSurface yX6_isSurface, Cond.code yX6_isSurface cX6_isSurface 2 (some .boolean), Cond.fieldLink RX6 51 "BlitBoardModel" "surfaces" "I", Cond.methodLink RX6 63 yX6_isSpan, Cond.static yX6_isSpan, Cond.code yX6_isSpan cX6_isSpan 1 (some .boolean), Cond.methodLink RX6 70 yX6_fits, Cond.instanceMethod yX6_fits, Cond.selects RX6 yX6_fits yX6_fits, Cond.code yX6_fits cX6_fits 3 (some .boolean), Cond.methodLink RX6 93 yX6_bring, Cond.instanceMethod yX6_bring, Cond.selects RX6 yX6_bring yX6_bring, Cond.code yX6_bring cX6_bring 26 (some .int), Cond.fieldLink RX6 29 "BlitBoardModel" "comes" "[Z", Cond.fieldLink RX6 23 "BlitBoardModel" "dots" "[I"]
def wsX6_keyed_r2 : List Cond := [Cond.fieldLink RX6 26 "BlitBoardModel" "fresh" "[I", Cond.methodLink RX6 55 yX6_isPlace, Cond.instanceMethod yX6_isPlace, Cond.selects RX6 yX6_isPlace yX6_isPlace, Cond.code yX6_isPlace cX6_isPlace 6 (some .boolean), Cond.fieldLink RX6 13 "BlitBoardModel" "wides" "[I", Cond.fieldLink RX6 16 "BlitBoardModel" "highs" "[I", Cond.methodLink RX6 78 yX6_isInClip, Cond.instanceMethod yX6_isInClip, Cond.selects RX6 yX6_isInClip yX6_isInClip, Cond.code yX6_isInClip cX6_isInClip 7 (some .boolean), Cond.fieldLink RX6 19 "BlitBoardModel" "clips" "[I", Cond.methodLink RX6 74 yX6_dot, Cond.instanceMethod yX6_dot, Cond.selects RX6 yX6_dot yX6_dot, Cond.code yX6_dot cX6_dot 6 (some .int), Cond.methodLink RX6 81 yX6_combined, Cond.static yX6_combined, Cond.code yX6_combined cX6_combined 6 (some .int), Cond.methodLink RX6 85 yX6_fitted, Cond.instanceMethod yX6_fitted, Cond.selects RX6 yX6_fitted yX6_fitted, Cond.code yX6_fitted cX6_fitted 3 (some .int)]
def wsX6_keyed : List Cond := .code yX6_keyed cX6_keyed 11 (some .int) :: ((wsX6_keyed_r1 ++ wsX6_keyed_r2) ++ wsX60)
def wsX6_masked_r1 : List Cond := [Cond.fieldLink RX6 7 "BlitBoardModel" "depths" "[I", Cond.methodLink RX6 89 yX6_areAlike, Cond.instanceMethod yX6_areAlike, Cond.selects RX6 yX6_areAlike yX6_areAlike, Cond.initialized RX6, Cond.code yX6_areAlike cX6_areAlike 5 (some .boolean), Cond.methodLink RX6 59 yX6_isSurface, Cond.instanceMethod yX6_isSurface, Cond.selects RX6 yX6_isSurface yX6_isSurface, Cond.code yX6_isSurface cX6_isSurface 2 (some .boolean), Cond.fieldLink RX6 51 "BlitBoardModel" "surfaces" "I", Cond.methodLink RX6 63 yX6_isSpan, Cond.static yX6_isSpan, Cond.code yX6_isSpan cX6_isSpan 1 (some .boolean), Cond.methodLink RX6 93 yX6_bring, Cond.instanceMethod yX6_bring, Cond.selects RX6 yX6_bring yX6_bring, Cond.code yX6_bring cX6_bring 26 (some .int), Cond.fieldLink RX6 29 "BlitBoardModel" "comes" "[Z", Cond.fieldLink RX6 23 "BlitBoardModel" "dots" "[I", Cond.fieldLink RX6 26 "BlitBoardModel" "fresh" "[I", Cond.methodLink RX6 55 yX6_isPlace, Cond.instanceMethod yX6_isPlace, Cond.selects RX6 yX6_isPlace yX6_isPlace]
def wsX6_masked_r2 : List Cond := [Cond.code yX6_isPlace cX6_isPlace 6 (some .boolean), Cond.fieldLink RX6 13 "BlitBoardModel" "wides" "[I", Cond.fieldLink RX6 16 "BlitBoardModel" "highs" "[I", Cond.methodLink RX6 78 yX6_isInClip, Cond.instanceMethod yX6_isInClip, Cond.selects RX6 yX6_isInClip yX6_isInClip, Cond.code yX6_isInClip cX6_isInClip 7 (some .boolean), Cond.fieldLink RX6 19 "BlitBoardModel" "clips" "[I", Cond.methodLink RX6 74 yX6_dot, Cond.instanceMethod yX6_dot, Cond.selects RX6 yX6_dot yX6_dot, Cond.code yX6_dot cX6_dot 6 (some .int), Cond.methodLink RX6 81 yX6_combined, Cond.static yX6_combined, Cond.code yX6_combined cX6_combined 6 (some .int), Cond.methodLink RX6 85 yX6_fitted, Cond.instanceMethod yX6_fitted, Cond.selects RX6 yX6_fitted yX6_fitted, Cond.code yX6_fitted cX6_fitted 3 (some .int)]
def wsX6_masked : List Cond := .code yX6_masked cX6_masked 11 (some .int) :: ((wsX6_masked_r1 ++ wsX6_masked_r2) ++ wsX60)
def wsX6_spread_r1 : List Cond := [Cond.fieldLink RX6 7 "BlitBoardModel" "depths" "[I", Cond.methodLink RX6 59 yX6_isSurface, Cond.instanceMethod yX6_isSurface, Cond.selects RX6 yX6_isSurface yX6_isSurface, Cond.initialized RX6, Cond.code yX6_isSurface cX6_isSurface 2 (some .boolean), Cond.fieldLink RX6 51 "BlitBoardModel" "surfaces" "I", Cond.methodLink RX6 63 yX6_isSpan, Cond.static yX6_isSpan, Cond.code yX6_isSpan cX6_isSpan 1 (some .boolean), Cond.methodLink RX6 70 yX6_fits, Cond.instanceMethod yX6_fits, Cond.selects RX6 yX6_fits yX6_fits, Cond.code yX6_fits cX6_fits 3 (some .boolean), Cond.methodLink RX6 93 yX6_bring, Cond.instanceMethod yX6_bring, Cond.selects RX6 yX6_bring yX6_bring, Cond.code yX6_bring cX6_bring 26 (some .int), Cond.fieldLink RX6 29 "BlitBoardModel" "comes" "[Z", Cond.fieldLink RX6 23 "BlitBoardModel" "dots" "[I", Cond.fieldLink RX6 26 "BlitBoardModel" "fresh" "[I", Cond.methodLink RX6 55 yX6_isPlace, Cond.instanceMethod yX6_isPlace, Cond.selects RX6 yX6_isPlace yX6_isPlace]
def wsX6_spread_r2 : List Cond := [Cond.code yX6_isPlace cX6_isPlace 6 (some .boolean), Cond.fieldLink RX6 13 "BlitBoardModel" "wides" "[I", Cond.fieldLink RX6 16 "BlitBoardModel" "highs" "[I", Cond.methodLink RX6 78 yX6_isInClip, Cond.instanceMethod yX6_isInClip, Cond.selects RX6 yX6_isInClip yX6_isInClip, Cond.code yX6_isInClip cX6_isInClip 7 (some .boolean), Cond.fieldLink RX6 19 "BlitBoardModel" "clips" "[I", Cond.methodLink RX6 74 yX6_dot, Cond.instanceMethod yX6_dot, Cond.selects RX6 yX6_dot yX6_dot, Cond.code yX6_dot cX6_dot 6 (some .int), Cond.methodLink RX6 81 yX6_combined, Cond.static yX6_combined, Cond.code yX6_combined cX6_combined 6 (some .int), Cond.methodLink RX6 85 yX6_fitted, Cond.instanceMethod yX6_fitted, Cond.selects RX6 yX6_fitted yX6_fitted, Cond.code yX6_fitted cX6_fitted 3 (some .int)]
def wsX6_spread : List Cond := .code yX6_spread cX6_spread 12 (some .int) :: ((wsX6_spread_r1 ++ wsX6_spread_r2) ++ wsX60)
def wsX6_turn : List Cond := .code yX6_turn cX6_turn 5 (some .int) :: ([.fieldLink RX6 16 "BlitBoardModel" "highs" "[I", .fieldLink RX6 13 "BlitBoardModel" "wides" "[I", .fieldLink RX6 26 "BlitBoardModel" "fresh" "[I", .fieldLink RX6 23 "BlitBoardModel" "dots" "[I", .methodLink RX6 59 yX6_isSurface, .instanceMethod yX6_isSurface, .selects RX6 yX6_isSurface yX6_isSurface, .initialized RX6, .code yX6_isSurface cX6_isSurface 2 (some .boolean), .fieldLink RX6 51 "BlitBoardModel" "surfaces" "I", .methodLink RX6 74 yX6_dot, .instanceMethod yX6_dot, .selects RX6 yX6_dot yX6_dot, .code yX6_dot cX6_dot 6 (some .int), .methodLink RX6 55 yX6_isPlace, .instanceMethod yX6_isPlace, .selects RX6 yX6_isPlace yX6_isPlace, .code yX6_isPlace cX6_isPlace 6 (some .boolean)] ++ wsX60)
def wsX6_count : List Cond := .code yX6_count cX6_count 6 (some .int) :: ([.fieldLink RX6 16 "BlitBoardModel" "highs" "[I", .fieldLink RX6 13 "BlitBoardModel" "wides" "[I", .methodLink RX6 59 yX6_isSurface, .instanceMethod yX6_isSurface, .selects RX6 yX6_isSurface yX6_isSurface, .initialized RX6, .code yX6_isSurface cX6_isSurface 2 (some .boolean), .fieldLink RX6 51 "BlitBoardModel" "surfaces" "I", .methodLink RX6 74 yX6_dot, .instanceMethod yX6_dot, .selects RX6 yX6_dot yX6_dot, .code yX6_dot cX6_dot 6 (some .int), .fieldLink RX6 23 "BlitBoardModel" "dots" "[I", .methodLink RX6 55 yX6_isPlace, .instanceMethod yX6_isPlace, .selects RX6 yX6_isPlace yX6_isPlace, .code yX6_isPlace cX6_isPlace 6 (some .boolean)] ++ wsX60)
def wsX6_isSprite : List Cond := .code yX6_isSprite cX6_isSprite 2 (some .boolean) :: ([])
def wsX6_put : List Cond := .code yX6_put cX6_put 2 none :: ([.fieldLink RX6 39 "BlitBoardModel" "made" "[I", .fieldLink RX6 97 "BlitBoardModel" "madeSize" "I"] ++ wsX60)
def wsX6_tellStretch : List Cond := .code yX6_tellStretch cX6_tellStretch 9 none :: ([.methodLink RX6 100 yX6_put, .instanceMethod yX6_put, .selects RX6 yX6_put yX6_put, .initialized RX6, .code yX6_put cX6_put 2 none, .fieldLink RX6 39 "BlitBoardModel" "made" "[I", .fieldLink RX6 97 "BlitBoardModel" "madeSize" "I", .methodLink RX6 74 yX6_dot, .instanceMethod yX6_dot, .selects RX6 yX6_dot yX6_dot, .code yX6_dot cX6_dot 6 (some .int), .fieldLink RX6 23 "BlitBoardModel" "dots" "[I", .methodLink RX6 55 yX6_isPlace, .instanceMethod yX6_isPlace, .selects RX6 yX6_isPlace yX6_isPlace, .code yX6_isPlace cX6_isPlace 6 (some .boolean), .fieldLink RX6 13 "BlitBoardModel" "wides" "[I", .fieldLink RX6 16 "BlitBoardModel" "highs" "[I"] ++ wsX60)
def wsX6_alike : List Cond := .code yX6_alike cX6_alike 6 (some .int) :: ([.methodLink RX6 74 yX6_dot, .instanceMethod yX6_dot, .selects RX6 yX6_dot yX6_dot, .initialized RX6, .code yX6_dot cX6_dot 6 (some .int), .fieldLink RX6 23 "BlitBoardModel" "dots" "[I", .methodLink RX6 55 yX6_isPlace, .instanceMethod yX6_isPlace, .selects RX6 yX6_isPlace yX6_isPlace, .code yX6_isPlace cX6_isPlace 6 (some .boolean), .fieldLink RX6 13 "BlitBoardModel" "wides" "[I", .fieldLink RX6 16 "BlitBoardModel" "highs" "[I"] ++ wsX60)
def wsX6_tellDrawn_r1 : List Cond := [Cond.methodLink RX6 104 yX6_alike, Cond.instanceMethod yX6_alike, Cond.selects RX6 yX6_alike yX6_alike, Cond.initialized RX6, Cond.code yX6_alike cX6_alike 6 (some .int), Cond.methodLink RX6 74 yX6_dot, Cond.instanceMethod yX6_dot, Cond.selects RX6 yX6_dot yX6_dot, Cond.code yX6_dot cX6_dot 6 (some .int), Cond.fieldLink RX6 23 "BlitBoardModel" "dots" "[I", Cond.methodLink RX6 55 yX6_isPlace, Cond.instanceMethod yX6_isPlace, Cond.selects RX6 yX6_isPlace yX6_isPlace, Cond.code yX6_isPlace cX6_isPlace 6 (some .boolean), Cond.fieldLink RX6 13 "BlitBoardModel" "wides" "[I", Cond.fieldLink RX6 16 "BlitBoardModel" "highs" "[I", Cond.methodLink RX6 108 yX6_tellStretch, Cond.instanceMethod yX6_tellStretch, Cond.selects RX6 yX6_tellStretch yX6_tellStretch, Cond.code yX6_tellStretch cX6_tellStretch 9 none, Cond.methodLink RX6 100 yX6_put, Cond.instanceMethod yX6_put, Cond.selects RX6 yX6_put yX6_put, Cond.code yX6_put cX6_put 2 none]
def wsX6_tellDrawn_r2 : List Cond := [Cond.fieldLink RX6 39 "BlitBoardModel" "made" "[I", Cond.fieldLink RX6 97 "BlitBoardModel" "madeSize" "I"]
def wsX6_tellDrawn : List Cond := .code yX6_tellDrawn cX6_tellDrawn 8 none :: ((wsX6_tellDrawn_r1 ++ wsX6_tellDrawn_r2) ++ wsX60)
def wsX6_tellRow_r1 : List Cond := [Cond.fieldLink RX6 13 "BlitBoardModel" "wides" "[I", Cond.methodLink RX6 74 yX6_dot, Cond.instanceMethod yX6_dot, Cond.selects RX6 yX6_dot yX6_dot, Cond.initialized RX6, Cond.code yX6_dot cX6_dot 6 (some .int), Cond.fieldLink RX6 23 "BlitBoardModel" "dots" "[I", Cond.methodLink RX6 55 yX6_isPlace, Cond.instanceMethod yX6_isPlace, Cond.selects RX6 yX6_isPlace yX6_isPlace, Cond.code yX6_isPlace cX6_isPlace 6 (some .boolean), Cond.fieldLink RX6 16 "BlitBoardModel" "highs" "[I", Cond.methodLink RX6 112 yX6_tellDrawn, Cond.instanceMethod yX6_tellDrawn, Cond.selects RX6 yX6_tellDrawn yX6_tellDrawn, Cond.code yX6_tellDrawn cX6_tellDrawn 8 none, Cond.methodLink RX6 104 yX6_alike, Cond.instanceMethod yX6_alike, Cond.selects RX6 yX6_alike yX6_alike, Cond.code yX6_alike cX6_alike 6 (some .int), Cond.methodLink RX6 108 yX6_tellStretch, Cond.instanceMethod yX6_tellStretch, Cond.selects RX6 yX6_tellStretch yX6_tellStretch, Cond.code yX6_tellStretch cX6_tellStretch 9 none]
def wsX6_tellRow_r2 : List Cond := [Cond.methodLink RX6 100 yX6_put, Cond.instanceMethod yX6_put, Cond.selects RX6 yX6_put yX6_put, Cond.code yX6_put cX6_put 2 none, Cond.fieldLink RX6 39 "BlitBoardModel" "made" "[I", Cond.fieldLink RX6 97 "BlitBoardModel" "madeSize" "I"]
def wsX6_tellRow : List Cond := .code yX6_tellRow cX6_tellRow 7 none :: ((wsX6_tellRow_r1 ++ wsX6_tellRow_r2) ++ wsX60)
def wsX6_tell_r1 : List Cond := [Cond.fieldLink RX6 97 "BlitBoardModel" "madeSize" "I", Cond.fieldLink RX6 16 "BlitBoardModel" "highs" "[I", Cond.fieldLink RX6 33 "BlitBoardModel" "sizes" "[I", Cond.fieldLink RX6 36 "BlitBoardModel" "bytes" "[I", Cond.fieldLink RX6 39 "BlitBoardModel" "made" "[I", Cond.methodLink RX6 116 yX6_isSprite, Cond.instanceMethod yX6_isSprite, Cond.selects RX6 yX6_isSprite yX6_isSprite, Cond.initialized RX6, Cond.code yX6_isSprite cX6_isSprite 2 (some .boolean), Cond.methodLink RX6 59 yX6_isSurface, Cond.instanceMethod yX6_isSurface, Cond.selects RX6 yX6_isSurface yX6_isSurface, Cond.code yX6_isSurface cX6_isSurface 2 (some .boolean), Cond.fieldLink RX6 51 "BlitBoardModel" "surfaces" "I", Cond.methodLink RX6 119 yX6_tellRow, Cond.instanceMethod yX6_tellRow, Cond.selects RX6 yX6_tellRow yX6_tellRow, Cond.code yX6_tellRow cX6_tellRow 7 none, Cond.fieldLink RX6 13 "BlitBoardModel" "wides" "[I", Cond.methodLink RX6 74 yX6_dot, Cond.instanceMethod yX6_dot, Cond.selects RX6 yX6_dot yX6_dot, Cond.code yX6_dot cX6_dot 6 (some .int)]
def wsX6_tell_r2 : List Cond := [Cond.fieldLink RX6 23 "BlitBoardModel" "dots" "[I", Cond.methodLink RX6 55 yX6_isPlace, Cond.instanceMethod yX6_isPlace, Cond.selects RX6 yX6_isPlace yX6_isPlace, Cond.code yX6_isPlace cX6_isPlace 6 (some .boolean), Cond.methodLink RX6 112 yX6_tellDrawn, Cond.instanceMethod yX6_tellDrawn, Cond.selects RX6 yX6_tellDrawn yX6_tellDrawn, Cond.code yX6_tellDrawn cX6_tellDrawn 8 none, Cond.methodLink RX6 104 yX6_alike, Cond.instanceMethod yX6_alike, Cond.selects RX6 yX6_alike yX6_alike, Cond.code yX6_alike cX6_alike 6 (some .int), Cond.methodLink RX6 108 yX6_tellStretch, Cond.instanceMethod yX6_tellStretch, Cond.selects RX6 yX6_tellStretch yX6_tellStretch, Cond.code yX6_tellStretch cX6_tellStretch 9 none, Cond.methodLink RX6 100 yX6_put, Cond.instanceMethod yX6_put, Cond.selects RX6 yX6_put yX6_put, Cond.code yX6_put cX6_put 2 none]
def wsX6_tell : List Cond := .code yX6_tell cX6_tell 5 (some .int) :: ((wsX6_tell_r1 ++ wsX6_tell_r2) ++ wsX60)
def wsX6_load : List Cond := .code yX6_load cX6_load 6 (some .int) :: ([.fieldLink RX6 33 "BlitBoardModel" "sizes" "[I", .fieldLink RX6 36 "BlitBoardModel" "bytes" "[I", .methodLink RX6 116 yX6_isSprite, .instanceMethod yX6_isSprite, .selects RX6 yX6_isSprite yX6_isSprite, .initialized RX6, .code yX6_isSprite cX6_isSprite 2 (some .boolean)] ++ wsX60)
def wsX6_forget : List Cond := .code yX6_forget cX6_forget 3 (some .int) :: ([.fieldLink RX6 33 "BlitBoardModel" "sizes" "[I", .methodLink RX6 116 yX6_isSprite, .instanceMethod yX6_isSprite, .selects RX6 yX6_isSprite yX6_isSprite, .initialized RX6, .code yX6_isSprite cX6_isSprite 2 (some .boolean)] ++ wsX60)
def wsX6_part : List Cond := .code yX6_part cX6_part 3 (some .int) :: ([.fieldLink RX6 33 "BlitBoardModel" "sizes" "[I", .fieldLink RX6 36 "BlitBoardModel" "bytes" "[I", .methodLink RX6 116 yX6_isSprite, .instanceMethod yX6_isSprite, .selects RX6 yX6_isSprite yX6_isSprite, .initialized RX6, .code yX6_isSprite cX6_isSprite 2 (some .boolean)] ++ wsX60)
def wsX6_add : List Cond := .code yX6_add cX6_add 4 none :: ([.fieldLink RX6 42 "BlitBoardModel" "columns" "[I", .fieldLink RX6 123 "BlitBoardModel" "drawn" "I", .fieldLink RX6 45 "BlitBoardModel" "rows" "[I", .fieldLink RX6 48 "BlitBoardModel" "numbers" "[I"] ++ wsX60)
def wsX6_readSprite : List Cond := .code yX6_readSprite cX6_readSprite 15 (some .int) :: ([.fieldLink RX6 123 "BlitBoardModel" "drawn" "I", .fieldLink RX6 33 "BlitBoardModel" "sizes" "[I", .fieldLink RX6 36 "BlitBoardModel" "bytes" "[I", .methodLink RX6 70 yX6_fits, .instanceMethod yX6_fits, .selects RX6 yX6_fits yX6_fits, .initialized RX6, .code yX6_fits cX6_fits 3 (some .boolean), .fieldLink RX6 7 "BlitBoardModel" "depths" "[I", .methodLink RX6 126 yX6_add, .instanceMethod yX6_add, .selects RX6 yX6_add yX6_add, .code yX6_add cX6_add 4 none, .fieldLink RX6 42 "BlitBoardModel" "columns" "[I", .fieldLink RX6 45 "BlitBoardModel" "rows" "[I", .fieldLink RX6 48 "BlitBoardModel" "numbers" "[I"] ++ wsX60)
def wsX6_draw_r1 : List Cond := [Cond.fieldLink RX6 123 "BlitBoardModel" "drawn" "I", Cond.fieldLink RX6 42 "BlitBoardModel" "columns" "[I", Cond.fieldLink RX6 45 "BlitBoardModel" "rows" "[I", Cond.fieldLink RX6 23 "BlitBoardModel" "dots" "[I", Cond.fieldLink RX6 48 "BlitBoardModel" "numbers" "[I", Cond.methodLink RX6 116 yX6_isSprite, Cond.instanceMethod yX6_isSprite, Cond.selects RX6 yX6_isSprite yX6_isSprite, Cond.initialized RX6, Cond.code yX6_isSprite cX6_isSprite 2 (some .boolean), Cond.methodLink RX6 59 yX6_isSurface, Cond.instanceMethod yX6_isSurface, Cond.selects RX6 yX6_isSurface yX6_isSurface, Cond.code yX6_isSurface cX6_isSurface 2 (some .boolean), Cond.fieldLink RX6 51 "BlitBoardModel" "surfaces" "I", Cond.methodLink RX6 129 yX6_readSprite, Cond.instanceMethod yX6_readSprite, Cond.selects RX6 yX6_readSprite yX6_readSprite, Cond.code yX6_readSprite cX6_readSprite 15 (some .int), Cond.fieldLink RX6 33 "BlitBoardModel" "sizes" "[I", Cond.fieldLink RX6 36 "BlitBoardModel" "bytes" "[I", Cond.methodLink RX6 70 yX6_fits, Cond.instanceMethod yX6_fits, Cond.selects RX6 yX6_fits yX6_fits]
def wsX6_draw_r2 : List Cond := [Cond.code yX6_fits cX6_fits 3 (some .boolean), Cond.fieldLink RX6 7 "BlitBoardModel" "depths" "[I", Cond.methodLink RX6 126 yX6_add, Cond.instanceMethod yX6_add, Cond.selects RX6 yX6_add yX6_add, Cond.code yX6_add cX6_add 4 none, Cond.methodLink RX6 78 yX6_isInClip, Cond.instanceMethod yX6_isInClip, Cond.selects RX6 yX6_isInClip yX6_isInClip, Cond.code yX6_isInClip cX6_isInClip 7 (some .boolean), Cond.fieldLink RX6 19 "BlitBoardModel" "clips" "[I"]
def wsX6_draw : List Cond := .code yX6_draw cX6_draw 11 (some .int) :: ((wsX6_draw_r1 ++ wsX6_draw_r2) ++ wsX60)
def wsX6_check : List Cond := .code yX6_check cX6_check 1 (some .int) :: ([])
def wsJ9_max_f86c9 : List Cond := .code yJ9_max_f86c9 cJ9_max_f86c9 4 (some .long) :: ([])
def wsJ9_min_7cf53 : List Cond := .code yJ9_min_7cf53 cJ9_min_7cf53 2 (some .int) :: ([])
def wsJ9_min_f86c9 : List Cond := .code yJ9_min_f86c9 cJ9_min_f86c9 4 (some .long) :: ([])
def wsL_law_r1 : List Cond := [Cond.classLink RL 7 RX5, Cond.instantiable RX5 5, Cond.initialized RX5, Cond.classLink RL 10 RX6, Cond.instantiable RX6 16, Cond.initialized RX6, Cond.constantLong RL 72 (4294967295), Cond.methodLink RL 9 yX5_init, Cond.instanceMethod yX5_init, Cond.code yX5_init cX5_init 2 none, Cond.methodLink RX5 1 objectInit, Cond.instanceMethod objectInit, Cond.code objectInit ⟨#[0xb1]⟩ 1 none, Cond.classLink RX5 9 RX3, Cond.fieldLink RX5 11 "BlitBoard" "surfaces" "[LBlitBoard$Surface;", Cond.fieldLink RX5 15 "BlitBoard" "surfaceCount" "I", Cond.classLink RX5 19 RX2, Cond.fieldLink RX5 21 "BlitBoard" "sprites" "[LBlitBoard$Sprite;", Cond.instantiable RX2 3, Cond.initialized RX2, Cond.fieldLink RX5 26 "BlitBoard" "spare" "LBlitBoard$Sprite;", Cond.arrayClass .int, Cond.fieldLink RX5 30 "BlitBoard" "taken" "[I", Cond.methodLink RX5 25 yX2_init]
def wsL_law_r2 : List Cond := [Cond.instanceMethod yX2_init, Cond.code yX2_init cX2_init 1 none, Cond.methodLink RX2 3 objectInit, Cond.fieldLink RX2 9 "BlitBoard$Sprite" "bytes" "[I", Cond.fieldLink RX2 15 "BlitBoard$Sprite" "size" "I", Cond.fieldLink RX2 19 "BlitBoard$Sprite" "spilled" "Z", Cond.methodLink RL 12 yX6_init, Cond.instanceMethod yX6_init, Cond.code yX6_init cX6_init 1 none, Cond.methodLink RX6 1 objectInit, Cond.fieldLink RX6 7 "BlitBoardModel" "depths" "[I", Cond.fieldLink RX6 13 "BlitBoardModel" "wides" "[I", Cond.fieldLink RX6 16 "BlitBoardModel" "highs" "[I", Cond.fieldLink RX6 19 "BlitBoardModel" "clips" "[I", Cond.constant RX6 22 (32768), Cond.fieldLink RX6 23 "BlitBoardModel" "dots" "[I", Cond.fieldLink RX6 26 "BlitBoardModel" "fresh" "[I", Cond.arrayClass .boolean, Cond.fieldLink RX6 29 "BlitBoardModel" "comes" "[Z", Cond.fieldLink RX6 33 "BlitBoardModel" "sizes" "[I", Cond.fieldLink RX6 36 "BlitBoardModel" "bytes" "[I", Cond.fieldLink RX6 39 "BlitBoardModel" "made" "[I", Cond.fieldLink RX6 42 "BlitBoardModel" "columns" "[I", Cond.fieldLink RX6 45 "BlitBoardModel" "rows" "[I"]
def wsL_law_r3 : List Cond := [Cond.fieldLink RX6 48 "BlitBoardModel" "numbers" "[I", Cond.methodLink RL 13 yX5_make, Cond.instanceMethod yX5_make, Cond.selects RX5 yX5_make yX5_make, Cond.code yX5_make cX5_make 6 (some .int), Cond.instantiable RX3 5, Cond.initialized RX3, Cond.methodLink RX5 34 yX5_isSide, Cond.static yX5_isSide, Cond.code yX5_isSide cX5_isSide 1 (some .boolean), Cond.methodLink RX5 38 yX3_init, Cond.instanceMethod yX3_init, Cond.code yX3_init cX3_init 4 none, Cond.methodLink RX3 1 objectInit, Cond.fieldLink RX3 7 "BlitBoard$Surface" "depth" "I", Cond.fieldLink RX3 13 "BlitBoard$Surface" "largest" "I", Cond.classLink RX3 16 RX0, Cond.instantiable RX0 4, Cond.initialized RX0, Cond.fieldLink RX3 21 "BlitBoard$Surface" "whole" "LBlitBoard$Area;", Cond.fieldLink RX3 25 "BlitBoard$Surface" "dots" "[I", Cond.fieldLink RX3 29 "BlitBoard$Surface" "clip" "LBlitBoard$Area;", Cond.methodLink RX3 18 yX0_init, Cond.instanceMethod yX0_init]
def wsL_law_r4 : List Cond := [Cond.code yX0_init cX0_init 7 none, Cond.methodLink RX0 1 objectInit, Cond.fieldLink RX0 7 "BlitBoard$Area" "left" "J", Cond.fieldLink RX0 13 "BlitBoard$Area" "top" "J", Cond.fieldLink RX0 16 "BlitBoard$Area" "wide" "I", Cond.fieldLink RX0 20 "BlitBoard$Area" "high" "I", Cond.methodLink RL 17 yX6_make, Cond.instanceMethod yX6_make, Cond.selects RX6 yX6_make yX6_make, Cond.code yX6_make cX6_make 5 (some .int), Cond.fieldLink RX6 51 "BlitBoardModel" "surfaces" "I", Cond.methodLink RL 18 yX5_clip, Cond.instanceMethod yX5_clip, Cond.selects RX5 yX5_clip yX5_clip, Cond.code yX5_clip cX5_clip 7 (some .int), Cond.fieldLink RX5 45 "BlitBoard$Surface" "whole" "LBlitBoard$Area;", Cond.classLink RX5 49 RX0, Cond.fieldLink RX5 58 "BlitBoard$Surface" "clip" "LBlitBoard$Area;", Cond.methodLink RX5 41 yX5_surfaceAt, Cond.instanceMethod yX5_surfaceAt, Cond.selects RX5 yX5_surfaceAt yX5_surfaceAt, Cond.code yX5_surfaceAt cX5_surfaceAt 2 (some (.object "BlitBoard$Surface")), Cond.methodLink RX5 51 yX0_init, Cond.methodLink RX5 54 yX0_shared]
def wsL_law_r5 : List Cond := [Cond.instanceMethod yX0_shared, Cond.selects RX0 yX0_shared yX0_shared, Cond.code yX0_shared cX0_shared 10 (some (.object "BlitBoard$Area")), Cond.methodLink RX0 26 Lib.MathLoose.max_long.x, Cond.static Lib.MathLoose.max_long.x, Cond.initialized "java/lang/Math", Cond.code Lib.MathLoose.max_long.x Lib.MathLoose.max_long.code 4 (some .long), Cond.methodLink RX0 32 Lib.MathLoose.min_long.x, Cond.static Lib.MathLoose.min_long.x, Cond.code Lib.MathLoose.min_long.x Lib.MathLoose.min_long.code 4 (some .long), Cond.classLink RX0 8 RX0, Cond.methodLink RX0 23 yX0_init, Cond.methodLink RX5 61 yX0_size, Cond.instanceMethod yX0_size, Cond.selects RX0 yX0_size yX0_size, Cond.code yX0_size cX0_size 1 (some .int), Cond.methodLink RL 22 yX6_clip, Cond.instanceMethod yX6_clip, Cond.selects RX6 yX6_clip yX6_clip, Cond.code yX6_clip cX6_clip 15 (some .int), Cond.methodLink RX6 59 yX6_isSurface, Cond.instanceMethod yX6_isSurface, Cond.selects RX6 yX6_isSurface yX6_isSurface, Cond.code yX6_isSurface cX6_isSurface 2 (some .boolean)]
def wsL_law_r6 : List Cond := [Cond.methodLink RX6 63 yX6_isSpan, Cond.static yX6_isSpan, Cond.code yX6_isSpan cX6_isSpan 1 (some .boolean), Cond.methodLink RX6 66 yX6_lesser, Cond.static yX6_lesser, Cond.code yX6_lesser cX6_lesser 4 (some .long), Cond.methodLink RL 23 yX5_set, Cond.instanceMethod yX5_set, Cond.selects RX5 yX5_set yX5_set, Cond.code yX5_set cX5_set 6 (some .int), Cond.fieldLink RX5 72 "BlitBoard$Surface" "dots" "[I", Cond.methodLink RX5 65 yX0_holds, Cond.instanceMethod yX0_holds, Cond.selects RX0 yX0_holds yX0_holds, Cond.code yX0_holds cX0_holds 5 (some .boolean), Cond.methodLink RX5 69 yX3_fits, Cond.instanceMethod yX3_fits, Cond.selects RX3 yX3_fits yX3_fits, Cond.code yX3_fits cX3_fits 2 (some .boolean), Cond.methodLink RX5 75 yX3_indexOf, Cond.instanceMethod yX3_indexOf, Cond.selects RX3 yX3_indexOf yX3_indexOf, Cond.code yX3_indexOf cX3_indexOf 5 (some .int), Cond.fieldLink RX3 32 "BlitBoard$Area" "wide" "I"]
def wsL_law_r7 : List Cond := [Cond.methodLink RL 27 yX6_set, Cond.instanceMethod yX6_set, Cond.selects RX6 yX6_set yX6_set, Cond.code yX6_set cX6_set 5 (some .int), Cond.methodLink RX6 55 yX6_isPlace, Cond.instanceMethod yX6_isPlace, Cond.selects RX6 yX6_isPlace yX6_isPlace, Cond.code yX6_isPlace cX6_isPlace 6 (some .boolean), Cond.methodLink RX6 70 yX6_fits, Cond.instanceMethod yX6_fits, Cond.selects RX6 yX6_fits yX6_fits, Cond.code yX6_fits cX6_fits 3 (some .boolean), Cond.methodLink RL 28 yX5_get, Cond.instanceMethod yX5_get, Cond.selects RX5 yX5_get yX5_get, Cond.code yX5_get cX5_get 5 (some .int), Cond.methodLink RL 31 yX6_get, Cond.instanceMethod yX6_get, Cond.selects RX6 yX6_get yX6_get, Cond.code yX6_get cX6_get 4 (some .int), Cond.methodLink RX6 74 yX6_dot, Cond.instanceMethod yX6_dot, Cond.selects RX6 yX6_dot yX6_dot, Cond.code yX6_dot cX6_dot 6 (some .int)]
def wsL_law_r8 : List Cond := [Cond.methodLink RL 32 yX5_told, Cond.instanceMethod yX5_told, Cond.selects RX5 yX5_told yX5_told, Cond.code yX5_told cX5_told 4 (some .int), Cond.fieldLink RX5 79 "BlitBoard$Surface" "depth" "I", Cond.fieldLink RX5 82 "BlitBoard$Area" "wide" "I", Cond.fieldLink RX5 85 "BlitBoard$Area" "high" "I", Cond.fieldLink RX5 88 "BlitBoard$Area" "left" "J", Cond.fieldLink RX5 92 "BlitBoard$Area" "top" "J", Cond.methodLink RL 36 yX6_told, Cond.instanceMethod yX6_told, Cond.selects RX6 yX6_told yX6_told, Cond.code yX6_told cX6_told 3 (some .int), Cond.methodLink RL 37 yX5_fill, Cond.instanceMethod yX5_fill, Cond.selects RX5 yX5_fill yX5_fill, Cond.code yX5_fill cX5_fill 10 (some .int), Cond.methodLink RX5 95 yX5_isOperation, Cond.static yX5_isOperation, Cond.code yX5_isOperation cX5_isOperation 1 (some .boolean), Cond.methodLink RX5 98 yJ7_fill_fda19, Cond.static yJ7_fill_fda19, Cond.initialized RJ7, Cond.code yJ7_fill_fda19 cJ7_fill_fda19 5 none]
def wsL_law_r9 : List Cond := [Cond.methodLink RJ7 13 yJ7_rangeCheck_23922, Cond.static yJ7_rangeCheck_23922, Cond.code yJ7_rangeCheck_23922 cJ7_rangeCheck_23922 3 none, Cond.methodLink RX5 104 yX5_putDots, Cond.instanceMethod yX5_putDots, Cond.selects RX5 yX5_putDots yX5_putDots, Cond.code yX5_putDots cX5_putDots 9 none, Cond.fieldLink RX5 177 "BlitBoard$Surface" "largest" "I", Cond.methodLink RX5 203 yX5_combined, Cond.static yX5_combined, Cond.code yX5_combined cX5_combined 4 (some .int), Cond.methodLink RL 41 yX6_fill, Cond.instanceMethod yX6_fill, Cond.selects RX6 yX6_fill yX6_fill, Cond.code yX6_fill cX6_fill 16 (some .int), Cond.methodLink RX6 78 yX6_isInClip, Cond.instanceMethod yX6_isInClip, Cond.selects RX6 yX6_isInClip yX6_isInClip, Cond.code yX6_isInClip cX6_isInClip 7 (some .boolean), Cond.methodLink RX6 81 yX6_combined, Cond.static yX6_combined, Cond.code yX6_combined cX6_combined 6 (some .int), Cond.methodLink RX6 85 yX6_fitted, Cond.instanceMethod yX6_fitted]
def wsL_law_r10 : List Cond := [Cond.selects RX6 yX6_fitted yX6_fitted, Cond.code yX6_fitted cX6_fitted 3 (some .int), Cond.methodLink RL 42 yX5_copy, Cond.instanceMethod yX5_copy, Cond.selects RX5 yX5_copy yX5_copy, Cond.code yX5_copy cX5_copy 11 (some .int), Cond.fieldLink RX5 122 "BlitBoard$Move" "to" "LBlitBoard$Surface;", Cond.fieldLink RX5 126 "BlitBoard$Move" "target" "LBlitBoard$Area;", Cond.methodLink RX5 108 yX5_moveOf, Cond.static yX5_moveOf, Cond.code yX5_moveOf cX5_moveOf 5 (some (.object "BlitBoard$Move")), Cond.classLink RX5 113 RX1, Cond.instantiable RX1 4, Cond.initialized RX1, Cond.methodLink RX5 191 yX1_init, Cond.instanceMethod yX1_init, Cond.code yX1_init cX1_init 10 none, Cond.methodLink RX1 1 objectInit, Cond.fieldLink RX1 7 "BlitBoard$Area" "left" "J", Cond.fieldLink RX1 13 "BlitBoard$Area" "top" "J", Cond.fieldLink RX1 16 "BlitBoard$Move" "from" "LBlitBoard$Surface;", Cond.fieldLink RX1 22 "BlitBoard$Move" "to" "LBlitBoard$Surface;", Cond.fieldLink RX1 25 "BlitBoard$Surface" "whole" "LBlitBoard$Area;", Cond.fieldLink RX1 39 "BlitBoard$Surface" "clip" "LBlitBoard$Area;"]
def wsL_law_r11 : List Cond := [Cond.fieldLink RX1 42 "BlitBoard$Move" "target" "LBlitBoard$Area;", Cond.fieldLink RX1 45 "BlitBoard$Move" "source" "LBlitBoard$Area;", Cond.methodLink RX1 31 yX0_shared, Cond.methodLink RX1 35 yX0_movedBy, Cond.instanceMethod yX0_movedBy, Cond.selects RX0 yX0_movedBy yX0_movedBy, Cond.code yX0_movedBy cX0_movedBy 5 (some (.object "BlitBoard$Area")), Cond.methodLink RX5 112 yX1_keepsDepth, Cond.instanceMethod yX1_keepsDepth, Cond.selects RX1 yX1_keepsDepth yX1_keepsDepth, Cond.code yX1_keepsDepth cX1_keepsDepth 1 (some .boolean), Cond.fieldLink RX1 48 "BlitBoard$Surface" "depth" "I", Cond.methodLink RX5 118 yX5_takeDots, Cond.instanceMethod yX5_takeDots, Cond.selects RX5 yX5_takeDots yX5_takeDots, Cond.code yX5_takeDots cX5_takeDots 5 none, Cond.fieldLink RX5 133 "BlitBoard$Move" "source" "LBlitBoard$Area;", Cond.fieldLink RX5 140 "BlitBoard$Move" "from" "LBlitBoard$Surface;", Cond.methodLink RX5 194 arraycopyName, Cond.native arraycopyName, Cond.static arraycopyName, Cond.initialized "java/lang/System", Cond.methodLink RL 46 yX6_copy, Cond.instanceMethod yX6_copy]
def wsL_law_r12 : List Cond := [Cond.selects RX6 yX6_copy yX6_copy, Cond.code yX6_copy cX6_copy 11 (some .int), Cond.methodLink RX6 89 yX6_areAlike, Cond.instanceMethod yX6_areAlike, Cond.selects RX6 yX6_areAlike yX6_areAlike, Cond.code yX6_areAlike cX6_areAlike 5 (some .boolean), Cond.methodLink RX6 93 yX6_bring, Cond.instanceMethod yX6_bring, Cond.selects RX6 yX6_bring yX6_bring, Cond.code yX6_bring cX6_bring 26 (some .int), Cond.methodLink RL 47 yX5_keyed, Cond.instanceMethod yX5_keyed, Cond.selects RX5 yX5_keyed yX5_keyed, Cond.code yX5_keyed cX5_keyed 11 (some .int), Cond.methodLink RX5 129 yX5_dropKey, Cond.instanceMethod yX5_dropKey, Cond.selects RX5 yX5_dropKey yX5_dropKey, Cond.code yX5_dropKey cX5_dropKey 4 none, Cond.methodLink RL 50 yX6_keyed, Cond.instanceMethod yX6_keyed, Cond.selects RX6 yX6_keyed yX6_keyed, Cond.code yX6_keyed cX6_keyed 11 (some .int), Cond.methodLink RL 51 yX5_masked, Cond.instanceMethod yX5_masked]
def wsL_law_r13 : List Cond := [Cond.selects RX5 yX5_masked yX5_masked, Cond.code yX5_masked cX5_masked 12 (some .int), Cond.methodLink RX5 136 yX5_dropMasked, Cond.instanceMethod yX5_dropMasked, Cond.selects RX5 yX5_dropMasked yX5_dropMasked, Cond.code yX5_dropMasked cX5_dropMasked 5 none, Cond.methodLink RX5 200 yX3_isOne, Cond.instanceMethod yX3_isOne, Cond.selects RX3 yX3_isOne yX3_isOne, Cond.code yX3_isOne cX3_isOne 5 (some .boolean), Cond.methodLink RX3 35 yX0_holds, Cond.methodLink RX3 39 yX3_indexOf, Cond.methodLink RL 54 yX6_masked, Cond.instanceMethod yX6_masked, Cond.selects RX6 yX6_masked yX6_masked, Cond.code yX6_masked cX6_masked 11 (some .int), Cond.methodLink RL 55 yX5_spread, Cond.instanceMethod yX5_spread, Cond.selects RX5 yX5_spread yX5_spread, Cond.code yX5_spread cX5_spread 13 (some .int), Cond.methodLink RL 59 yX6_spread, Cond.instanceMethod yX6_spread, Cond.selects RX6 yX6_spread yX6_spread, Cond.code yX6_spread cX6_spread 12 (some .int)]
def wsL_law_r14 : List Cond := [Cond.methodLink RL 60 yX5_turn, Cond.instanceMethod yX5_turn, Cond.selects RX5 yX5_turn yX5_turn, Cond.code yX5_turn cX5_turn 4 (some .int), Cond.methodLink RX5 143 yX3_swapLeftAndRight, Cond.instanceMethod yX3_swapLeftAndRight, Cond.selects RX3 yX3_swapLeftAndRight yX3_swapLeftAndRight, Cond.code yX3_swapLeftAndRight cX3_swapLeftAndRight 3 none, Cond.fieldLink RX3 43 "BlitBoard$Area" "high" "I", Cond.methodLink RX3 46 yX3_swapDots, Cond.instanceMethod yX3_swapDots, Cond.selects RX3 yX3_swapDots yX3_swapDots, Cond.code yX3_swapDots cX3_swapDots 4 none, Cond.methodLink RX5 146 yX3_swapTopAndBottom, Cond.instanceMethod yX3_swapTopAndBottom, Cond.selects RX3 yX3_swapTopAndBottom yX3_swapTopAndBottom, Cond.code yX3_swapTopAndBottom cX3_swapTopAndBottom 3 none, Cond.methodLink RL 63 yX6_turn, Cond.instanceMethod yX6_turn, Cond.selects RX6 yX6_turn yX6_turn, Cond.code yX6_turn cX6_turn 5 (some .int), Cond.methodLink RL 64 yX5_count, Cond.instanceMethod yX5_count, Cond.selects RX5 yX5_count yX5_count]
def wsL_law_r15 : List Cond := [Cond.code yX5_count cX5_count 9 (some .int), Cond.methodLink RL 67 yX6_count, Cond.instanceMethod yX6_count, Cond.selects RX6 yX6_count yX6_count, Cond.code yX6_count cX6_count 6 (some .int), Cond.methodLink RL 68 yX5_tell, Cond.instanceMethod yX5_tell, Cond.selects RX5 yX5_tell yX5_tell, Cond.code yX5_tell cX5_tell 6 (some .int), Cond.classLink RX5 156 RX4, Cond.instantiable RX4 3, Cond.initialized RX4, Cond.fieldLink RX5 164 "BlitBoard$Sprite" "spilled" "Z", Cond.fieldLink RX5 168 "BlitBoard$Sprite" "size" "I", Cond.methodLink RX5 149 yX5_spriteAt, Cond.instanceMethod yX5_spriteAt, Cond.selects RX5 yX5_spriteAt yX5_spriteAt, Cond.code yX5_spriteAt cX5_spriteAt 2 (some (.object "BlitBoard$Sprite")), Cond.methodLink RX5 153 yX2_empty, Cond.instanceMethod yX2_empty, Cond.selects RX2 yX2_empty yX2_empty, Cond.code yX2_empty cX2_empty 1 none, Cond.methodLink RX5 158 yX4_init, Cond.instanceMethod yX4_init]
def wsL_law_r16 : List Cond := [Cond.code yX4_init cX4_init 4 none, Cond.methodLink RX4 3 objectInit, Cond.fieldLink RX4 9 "BlitBoard$Teller" "of" "LBlitBoard$Surface;", Cond.fieldLink RX4 15 "BlitBoard$Teller" "key" "I", Cond.fieldLink RX4 19 "BlitBoard$Teller" "into" "LBlitBoard$Sprite;", Cond.methodLink RX5 161 yX4_addRows, Cond.instanceMethod yX4_addRows, Cond.selects RX4 yX4_addRows yX4_addRows, Cond.code yX4_addRows cX4_addRows 2 none, Cond.fieldLink RX4 23 "BlitBoard$Surface" "whole" "LBlitBoard$Area;", Cond.fieldLink RX4 29 "BlitBoard$Area" "high" "I", Cond.methodLink RX4 34 yX3_indexOf, Cond.methodLink RX4 38 yX4_addRow, Cond.instanceMethod yX4_addRow, Cond.selects RX4 yX4_addRow yX4_addRow, Cond.code yX4_addRow cX4_addRow 7 none, Cond.fieldLink RX4 55 "BlitBoard$Surface" "dots" "[I", Cond.methodLink RX4 47 yX4_toldEnd, Cond.instanceMethod yX4_toldEnd, Cond.selects RX4 yX4_toldEnd yX4_toldEnd, Cond.code yX4_toldEnd cX4_toldEnd 4 (some .int), Cond.fieldLink RX4 63 "BlitBoard$Area" "wide" "I", Cond.methodLink RX4 51 yX4_kindAt, Cond.instanceMethod yX4_kindAt]
def wsL_law_r17 : List Cond := [Cond.selects RX4 yX4_kindAt yX4_kindAt, Cond.code yX4_kindAt cX4_kindAt 4 (some .int), Cond.methodLink RX4 66 yX4_isThree, Cond.instanceMethod yX4_isThree, Cond.selects RX4 yX4_isThree yX4_isThree, Cond.code yX4_isThree cX4_isThree 3 (some .boolean), Cond.methodLink RX4 59 yX4_addStretch, Cond.instanceMethod yX4_addStretch, Cond.selects RX4 yX4_addStretch yX4_addStretch, Cond.code yX4_addStretch cX4_addStretch 8 none, Cond.methodLink RX4 70 Lib.Math.min.name, Cond.static Lib.Math.min.name, Cond.code Lib.Math.min.name Lib.Math.min.code 2 (some .int), Cond.methodLink RX4 42 yX2_append, Cond.instanceMethod yX2_append, Cond.selects RX2 yX2_append yX2_append, Cond.code yX2_append cX2_append 2 none, Cond.methodLink RL 71 yX6_tell, Cond.instanceMethod yX6_tell, Cond.selects RX6 yX6_tell yX6_tell, Cond.code yX6_tell cX6_tell 5 (some .int), Cond.fieldLink RX6 97 "BlitBoardModel" "madeSize" "I", Cond.methodLink RX6 116 yX6_isSprite, Cond.instanceMethod yX6_isSprite]
def wsL_law_r18 : List Cond := [Cond.selects RX6 yX6_isSprite yX6_isSprite, Cond.code yX6_isSprite cX6_isSprite 2 (some .boolean), Cond.methodLink RX6 119 yX6_tellRow, Cond.instanceMethod yX6_tellRow, Cond.selects RX6 yX6_tellRow yX6_tellRow, Cond.code yX6_tellRow cX6_tellRow 7 none, Cond.methodLink RX6 112 yX6_tellDrawn, Cond.instanceMethod yX6_tellDrawn, Cond.selects RX6 yX6_tellDrawn yX6_tellDrawn, Cond.code yX6_tellDrawn cX6_tellDrawn 8 none, Cond.methodLink RX6 104 yX6_alike, Cond.instanceMethod yX6_alike, Cond.selects RX6 yX6_alike yX6_alike, Cond.code yX6_alike cX6_alike 6 (some .int), Cond.methodLink RX6 108 yX6_tellStretch, Cond.instanceMethod yX6_tellStretch, Cond.selects RX6 yX6_tellStretch yX6_tellStretch, Cond.code yX6_tellStretch cX6_tellStretch 9 none, Cond.methodLink RX6 100 yX6_put, Cond.instanceMethod yX6_put, Cond.selects RX6 yX6_put yX6_put, Cond.code yX6_put cX6_put 2 none, Cond.methodLink RL 74 yX5_load, Cond.instanceMethod yX5_load]
def wsL_law_r19 : List Cond := [Cond.selects RX5 yX5_load yX5_load, Cond.code yX5_load cX5_load 7 (some .int), Cond.methodLink RX5 170 yX2_append, Cond.methodLink RL 78 yX6_load, Cond.instanceMethod yX6_load, Cond.selects RX6 yX6_load yX6_load, Cond.code yX6_load cX6_load 6 (some .int), Cond.methodLink RL 79 yX5_forget, Cond.instanceMethod yX5_forget, Cond.selects RX5 yX5_forget yX5_forget, Cond.code yX5_forget cX5_forget 4 (some .int), Cond.methodLink RL 83 yX6_forget, Cond.instanceMethod yX6_forget, Cond.selects RX6 yX6_forget yX6_forget, Cond.code yX6_forget cX6_forget 3 (some .int), Cond.methodLink RL 84 yX5_part, Cond.instanceMethod yX5_part, Cond.selects RX5 yX5_part yX5_part, Cond.code yX5_part cX5_part 4 (some .int), Cond.fieldLink RX5 174 "BlitBoard$Sprite" "bytes" "[I", Cond.methodLink RL 87 yX6_part, Cond.instanceMethod yX6_part, Cond.selects RX6 yX6_part yX6_part, Cond.code yX6_part cX6_part 3 (some .int)]
def wsL_law_r20 : List Cond := [Cond.methodLink RL 88 yX5_draw, Cond.instanceMethod yX5_draw, Cond.selects RX5 yX5_draw yX5_draw, Cond.code yX5_draw cX5_draw 8 (some .int), Cond.methodLink RX5 180 yX2_firstWrong, Cond.instanceMethod yX2_firstWrong, Cond.selects RX2 yX2_firstWrong yX2_firstWrong, Cond.code yX2_firstWrong cX2_firstWrong 8 (some .int), Cond.methodLink RX2 23 yX2_stretchLength, Cond.static yX2_stretchLength, Cond.code yX2_stretchLength cX2_stretchLength 1 (some .int), Cond.methodLink RX2 27 yX2_isStretch, Cond.static yX2_isStretch, Cond.code yX2_isStretch cX2_isStretch 1 (some .boolean), Cond.methodLink RX2 31 yX2_dotBytes, Cond.static yX2_dotBytes, Cond.code yX2_dotBytes cX2_dotBytes 1 (some .int), Cond.methodLink RX5 184 yX2_paint, Cond.instanceMethod yX2_paint, Cond.selects RX2 yX2_paint yX2_paint, Cond.code yX2_paint cX2_paint 10 none, Cond.methodLink RX2 34 yX2_paintDots, Cond.static yX2_paintDots, Cond.code yX2_paintDots cX2_paintDots 8 none]
def wsL_law_r21 : List Cond := [Cond.methodLink RX2 38 yX3_putClipped, Cond.instanceMethod yX3_putClipped, Cond.selects RX3 yX3_putClipped yX3_putClipped, Cond.code yX3_putClipped cX3_putClipped 6 none, Cond.methodLink RL 91 yX6_draw, Cond.instanceMethod yX6_draw, Cond.selects RX6 yX6_draw yX6_draw, Cond.code yX6_draw cX6_draw 11 (some .int), Cond.fieldLink RX6 123 "BlitBoardModel" "drawn" "I", Cond.methodLink RX6 129 yX6_readSprite, Cond.instanceMethod yX6_readSprite, Cond.selects RX6 yX6_readSprite yX6_readSprite, Cond.code yX6_readSprite cX6_readSprite 15 (some .int), Cond.methodLink RX6 126 yX6_add, Cond.instanceMethod yX6_add, Cond.selects RX6 yX6_add yX6_add, Cond.code yX6_add cX6_add 4 none, Cond.methodLink RL 92 yX5_check, Cond.instanceMethod yX5_check, Cond.selects RX5 yX5_check yX5_check, Cond.code yX5_check cX5_check 2 (some .int), Cond.methodLink RX5 188 yX3_isSound, Cond.instanceMethod yX3_isSound, Cond.selects RX3 yX3_isSound yX3_isSound]
def wsL_law_r22 : List Cond := [Cond.code yX3_isSound cX3_isSound 5 (some .boolean), Cond.fieldLink RX3 54 "BlitBoard$Area" "left" "J", Cond.fieldLink RX3 58 "BlitBoard$Area" "top" "J", Cond.methodLink RX3 50 yX3_fits, Cond.methodLink RL 96 yX6_check, Cond.instanceMethod yX6_check, Cond.selects RX6 yX6_check yX6_check, Cond.code yX6_check cX6_check 1 (some .int)]
def wsL_law : List Cond := (wsL_law_r1 ++ (wsL_law_r2 ++ (wsL_law_r3 ++ (wsL_law_r4 ++ (wsL_law_r5 ++ (wsL_law_r6 ++ (wsL_law_r7 ++ (wsL_law_r8 ++ (wsL_law_r9 ++ (wsL_law_r10 ++ (wsL_law_r11 ++ (wsL_law_r12 ++ (wsL_law_r13 ++ (wsL_law_r14 ++ (wsL_law_r15 ++ (wsL_law_r16 ++ (wsL_law_r17 ++ (wsL_law_r18 ++ (wsL_law_r19 ++ (wsL_law_r20 ++ (wsL_law_r21 ++ wsL_law_r22))))))))))))))))))))) ++ wsX50 ++ wsX60 ++ wsX20 ++ wsX30 ++ wsX00 ++ wsX10 ++ wsX40 ++ ([] : List Cond)
set_option maxRecDepth 100000 in
theorem wsL_law_r1_in : ∀ w ∈ wsL_law_r1, w ∈ lw_tbl := List.forall_mem_cons.mpr ⟨List.mem_of_getElem? (i := 39) rfl, List.forall_mem_cons.mpr ⟨List.mem_of_getElem? (i := 40) rfl, List.forall_mem_cons.mpr ⟨List.mem_of_getElem? (i := 29) rfl, List.forall_mem_cons.mpr ⟨List.mem_of_getElem? (i := 427) rfl, List.forall_mem_cons.mpr ⟨List.mem_of_getElem? (i := 428) rfl, List.forall_mem_cons.mpr ⟨List.mem_of_getElem? (i := 31) rfl, List.forall_mem_cons.mpr ⟨List.mem_of_getElem? (i := 629) rfl, List.forall_mem_cons.mpr ⟨List.mem_of_getElem? (i := 41) rfl, List.forall_mem_cons.mpr ⟨List.mem_of_getElem? (i := 42) rfl, List.forall_mem_cons.mpr ⟨List.mem_of_getElem? (i := 43) rfl, List.forall_mem_cons.mpr ⟨List.mem_of_getElem? (i := 44) rfl, List.forall_mem_cons.mpr ⟨List.mem_of_getElem? (i := 45) rfl, List.forall_mem_cons.mpr ⟨List.mem_of_getElem? (i := 46) rfl, List.forall_mem_cons.mpr ⟨List.mem_of_getElem? (i := 47) rfl, List.forall_mem_cons.mpr ⟨List.mem_of_getElem? (i := 70) rfl, List.forall_mem_cons.mpr ⟨List.mem_of_getElem? (i := 71) rfl, List.forall_mem_cons.mpr ⟨List.mem_of_getElem? (i := 49) rfl, List.forall_mem_cons.mpr ⟨List.mem_of_getElem? (i := 72) rfl, List.forall_mem_cons.mpr ⟨List.mem_of_getElem? (i := 51) rfl, List.forall_mem_cons.mpr ⟨List.mem_of_getElem? (i := 30) rfl, List.forall_mem_cons.mpr ⟨List.mem_of_getElem? (i := 73) rfl, List.forall_mem_cons.mpr ⟨List.mem_of_getElem? (i := 69) rfl, List.forall_mem_cons.mpr ⟨List.mem_of_getElem? (i := 74) rfl, List.forall_mem_cons.mpr ⟨List.mem_of_getElem? (i := 52) rfl, fun _ h => absurd h List.not_mem_nil⟩⟩⟩⟩⟩⟩⟩⟩⟩⟩⟩⟩⟩⟩⟩⟩⟩⟩⟩⟩⟩⟩⟩⟩
set_option maxRecDepth 100000 in
theorem wsL_law_r2_in : ∀ w ∈ wsL_law_r2, w ∈ lw_tbl := List.forall_mem_cons.mpr ⟨List.mem_of_getElem? (i := 53) rfl, List.forall_mem_cons.mpr ⟨List.mem_of_getElem? (i := 54) rfl, List.forall_mem_cons.mpr ⟨List.mem_of_getElem? (i := 55) rfl, List.forall_mem_cons.mpr ⟨List.mem_of_getElem? (i := 56) rfl, List.forall_mem_cons.mpr ⟨List.mem_of_getElem? (i := 58) rfl, List.forall_mem_cons.mpr ⟨List.mem_of_getElem? (i := 60) rfl, List.forall_mem_cons.mpr ⟨List.mem_of_getElem? (i := 429) rfl, List.forall_mem_cons.mpr ⟨List.mem_of_getElem? (i := 430) rfl, List.forall_mem_cons.mpr ⟨List.mem_of_getElem? (i := 431) rfl, List.forall_mem_cons.mpr ⟨List.mem_of_getElem? (i := 432) rfl, List.forall_mem_cons.mpr ⟨List.mem_of_getElem? (i := 435) rfl, List.forall_mem_cons.mpr ⟨List.mem_of_getElem? (i := 436) rfl, List.forall_mem_cons.mpr ⟨List.mem_of_getElem? (i := 437) rfl, List.forall_mem_cons.mpr ⟨List.mem_of_getElem? (i := 438) rfl, List.forall_mem_cons.mpr ⟨List.mem_of_getElem? (i := 433) rfl, List.forall_mem_cons.mpr ⟨List.mem_of_getElem? (i := 439) rfl, List.forall_mem_cons.mpr ⟨List.mem_of_getElem? (i := 440) rfl, List.forall_mem_cons.mpr ⟨List.mem_of_getElem? (i := 483) rfl, List.forall_mem_cons.mpr ⟨List.mem_of_getElem? (i := 441) rfl, List.forall_mem_cons.mpr ⟨List.mem_of_getElem? (i := 442) rfl, List.forall_mem_cons.mpr ⟨List.mem_of_getElem? (i := 443) rfl, List.forall_mem_cons.mpr ⟨List.mem_of_getElem? (i := 444) rfl, List.forall_mem_cons.mpr ⟨List.mem_of_getElem? (i := 447) rfl, List.forall_mem_cons.mpr ⟨List.mem_of_getElem? (i := 448) rfl, fun _ h => absurd h List.not_mem_nil⟩⟩⟩⟩⟩⟩⟩⟩⟩⟩⟩⟩⟩⟩⟩⟩⟩⟩⟩⟩⟩⟩⟩⟩
set_option maxRecDepth 100000 in
theorem wsL_law_r3_in : ∀ w ∈ wsL_law_r3, w ∈ lw_tbl := List.forall_mem_cons.mpr ⟨List.mem_of_getElem? (i := 449) rfl, List.forall_mem_cons.mpr ⟨List.mem_of_getElem? (i := 86) rfl, List.forall_mem_cons.mpr ⟨List.mem_of_getElem? (i := 87) rfl, List.forall_mem_cons.mpr ⟨List.mem_of_getElem? (i := 88) rfl, List.forall_mem_cons.mpr ⟨List.mem_of_getElem? (i := 89) rfl, List.forall_mem_cons.mpr ⟨List.mem_of_getElem? (i := 93) rfl, List.forall_mem_cons.mpr ⟨List.mem_of_getElem? (i := 32) rfl, List.forall_mem_cons.mpr ⟨List.mem_of_getElem? (i := 90) rfl, List.forall_mem_cons.mpr ⟨List.mem_of_getElem? (i := 91) rfl, List.forall_mem_cons.mpr ⟨List.mem_of_getElem? (i := 92) rfl, List.forall_mem_cons.mpr ⟨List.mem_of_getElem? (i := 94) rfl, List.forall_mem_cons.mpr ⟨List.mem_of_getElem? (i := 95) rfl, List.forall_mem_cons.mpr ⟨List.mem_of_getElem? (i := 96) rfl, List.forall_mem_cons.mpr ⟨List.mem_of_getElem? (i := 97) rfl, List.forall_mem_cons.mpr ⟨List.mem_of_getElem? (i := 129) rfl, List.forall_mem_cons.mpr ⟨List.mem_of_getElem? (i := 132) rfl, List.forall_mem_cons.mpr ⟨List.mem_of_getElem? (i := 98) rfl, List.forall_mem_cons.mpr ⟨List.mem_of_getElem? (i := 99) rfl, List.forall_mem_cons.mpr ⟨List.mem_of_getElem? (i := 33) rfl, List.forall_mem_cons.mpr ⟨List.mem_of_getElem? (i := 134) rfl, List.forall_mem_cons.mpr ⟨List.mem_of_getElem? (i := 138) rfl, List.forall_mem_cons.mpr ⟨List.mem_of_getElem? (i := 141) rfl, List.forall_mem_cons.mpr ⟨List.mem_of_getElem? (i := 100) rfl, List.forall_mem_cons.mpr ⟨List.mem_of_getElem? (i := 101) rfl, fun _ h => absurd h List.not_mem_nil⟩⟩⟩⟩⟩⟩⟩⟩⟩⟩⟩⟩⟩⟩⟩⟩⟩⟩⟩⟩⟩⟩⟩⟩
set_option maxRecDepth 100000 in
theorem wsL_law_r4_in : ∀ w ∈ wsL_law_r4, w ∈ lw_tbl := List.forall_mem_cons.mpr ⟨List.mem_of_getElem? (i := 102) rfl, List.forall_mem_cons.mpr ⟨List.mem_of_getElem? (i := 103) rfl, List.forall_mem_cons.mpr ⟨List.mem_of_getElem? (i := 104) rfl, List.forall_mem_cons.mpr ⟨List.mem_of_getElem? (i := 108) rfl, List.forall_mem_cons.mpr ⟨List.mem_of_getElem? (i := 112) rfl, List.forall_mem_cons.mpr ⟨List.mem_of_getElem? (i := 116) rfl, List.forall_mem_cons.mpr ⟨List.mem_of_getElem? (i := 484) rfl, List.forall_mem_cons.mpr ⟨List.mem_of_getElem? (i := 485) rfl, List.forall_mem_cons.mpr ⟨List.mem_of_getElem? (i := 486) rfl, List.forall_mem_cons.mpr ⟨List.mem_of_getElem? (i := 487) rfl, List.forall_mem_cons.mpr ⟨List.mem_of_getElem? (i := 434) rfl, List.forall_mem_cons.mpr ⟨List.mem_of_getElem? (i := 155) rfl, List.forall_mem_cons.mpr ⟨List.mem_of_getElem? (i := 156) rfl, List.forall_mem_cons.mpr ⟨List.mem_of_getElem? (i := 157) rfl, List.forall_mem_cons.mpr ⟨List.mem_of_getElem? (i := 158) rfl, List.forall_mem_cons.mpr ⟨List.mem_of_getElem? (i := 137) rfl, List.forall_mem_cons.mpr ⟨List.mem_of_getElem? (i := 163) rfl, List.forall_mem_cons.mpr ⟨List.mem_of_getElem? (i := 143) rfl, List.forall_mem_cons.mpr ⟨List.mem_of_getElem? (i := 159) rfl, List.forall_mem_cons.mpr ⟨List.mem_of_getElem? (i := 161) rfl, List.forall_mem_cons.mpr ⟨List.mem_of_getElem? (i := 0) rfl, List.forall_mem_cons.mpr ⟨List.mem_of_getElem? (i := 162) rfl, List.forall_mem_cons.mpr ⟨List.mem_of_getElem? (i := 164) rfl, List.forall_mem_cons.mpr ⟨List.mem_of_getElem? (i := 165) rfl, fun _ h => absurd h List.not_mem_nil⟩⟩⟩⟩⟩⟩⟩⟩⟩⟩⟩⟩⟩⟩⟩⟩⟩⟩⟩⟩⟩⟩⟩⟩
set_option maxRecDepth 100000 in
theorem wsL_law_r5_in : ∀ w ∈ wsL_law_r5, w ∈ lw_tbl := List.forall_mem_cons.mpr ⟨List.mem_of_getElem? (i := 166) rfl, List.forall_mem_cons.mpr ⟨List.mem_of_getElem? (i := 167) rfl, List.forall_mem_cons.mpr ⟨List.mem_of_getElem? (i := 168) rfl, List.forall_mem_cons.mpr ⟨List.mem_of_getElem? (i := 169) rfl, List.forall_mem_cons.mpr ⟨List.mem_of_getElem? (i := 170) rfl, List.forall_mem_cons.mpr ⟨List.mem_of_getElem? (i := 34) rfl, List.forall_mem_cons.mpr ⟨List.mem_of_getElem? (i := 171) rfl, List.forall_mem_cons.mpr ⟨List.mem_of_getElem? (i := 172) rfl, List.forall_mem_cons.mpr ⟨List.mem_of_getElem? (i := 173) rfl, List.forall_mem_cons.mpr ⟨List.mem_of_getElem? (i := 174) rfl, List.forall_mem_cons.mpr ⟨List.mem_of_getElem? (i := 175) rfl, List.forall_mem_cons.mpr ⟨List.mem_of_getElem? (i := 176) rfl, List.forall_mem_cons.mpr ⟨List.mem_of_getElem? (i := 177) rfl, List.forall_mem_cons.mpr ⟨List.mem_of_getElem? (i := 178) rfl, List.forall_mem_cons.mpr ⟨List.mem_of_getElem? (i := 179) rfl, List.forall_mem_cons.mpr ⟨List.mem_of_getElem? (i := 180) rfl, List.forall_mem_cons.mpr ⟨List.mem_of_getElem? (i := 488) rfl, List.forall_mem_cons.mpr ⟨List.mem_of_getElem? (i := 489) rfl, List.forall_mem_cons.mpr ⟨List.mem_of_getElem? (i := 490) rfl, List.forall_mem_cons.mpr ⟨List.mem_of_getElem? (i := 491) rfl, List.forall_mem_cons.mpr ⟨List.mem_of_getElem? (i := 492) rfl, List.forall_mem_cons.mpr ⟨List.mem_of_getElem? (i := 494) rfl, List.forall_mem_cons.mpr ⟨List.mem_of_getElem? (i := 12) rfl, List.forall_mem_cons.mpr ⟨List.mem_of_getElem? (i := 495) rfl, fun _ h => absurd h List.not_mem_nil⟩⟩⟩⟩⟩⟩⟩⟩⟩⟩⟩⟩⟩⟩⟩⟩⟩⟩⟩⟩⟩⟩⟩⟩
set_option maxRecDepth 100000 in
theorem wsL_law_r6_in : ∀ w ∈ wsL_law_r6, w ∈ lw_tbl := List.forall_mem_cons.mpr ⟨List.mem_of_getElem? (i := 496) rfl, List.forall_mem_cons.mpr ⟨List.mem_of_getElem? (i := 497) rfl, List.forall_mem_cons.mpr ⟨List.mem_of_getElem? (i := 498) rfl, List.forall_mem_cons.mpr ⟨List.mem_of_getElem? (i := 499) rfl, List.forall_mem_cons.mpr ⟨List.mem_of_getElem? (i := 500) rfl, List.forall_mem_cons.mpr ⟨List.mem_of_getElem? (i := 501) rfl, List.forall_mem_cons.mpr ⟨List.mem_of_getElem? (i := 181) rfl, List.forall_mem_cons.mpr ⟨List.mem_of_getElem? (i := 182) rfl, List.forall_mem_cons.mpr ⟨List.mem_of_getElem? (i := 183) rfl, List.forall_mem_cons.mpr ⟨List.mem_of_getElem? (i := 184) rfl, List.forall_mem_cons.mpr ⟨List.mem_of_getElem? (i := 140) rfl, List.forall_mem_cons.mpr ⟨List.mem_of_getElem? (i := 185) rfl, List.forall_mem_cons.mpr ⟨List.mem_of_getElem? (i := 186) rfl, List.forall_mem_cons.mpr ⟨List.mem_of_getElem? (i := 187) rfl, List.forall_mem_cons.mpr ⟨List.mem_of_getElem? (i := 188) rfl, List.forall_mem_cons.mpr ⟨List.mem_of_getElem? (i := 189) rfl, List.forall_mem_cons.mpr ⟨List.mem_of_getElem? (i := 190) rfl, List.forall_mem_cons.mpr ⟨List.mem_of_getElem? (i := 191) rfl, List.forall_mem_cons.mpr ⟨List.mem_of_getElem? (i := 192) rfl, List.forall_mem_cons.mpr ⟨List.mem_of_getElem? (i := 193) rfl, List.forall_mem_cons.mpr ⟨List.mem_of_getElem? (i := 194) rfl, List.forall_mem_cons.mpr ⟨List.mem_of_getElem? (i := 195) rfl, List.forall_mem_cons.mpr ⟨List.mem_of_getElem? (i := 196) rfl, List.forall_mem_cons.mpr ⟨List.mem_of_getElem? (i := 113) rfl, fun _ h => absurd h List.not_mem_nil⟩⟩⟩⟩⟩⟩⟩⟩⟩⟩⟩⟩⟩⟩⟩⟩⟩⟩⟩⟩⟩⟩⟩⟩
set_option maxRecDepth 100000 in
theorem wsL_law_r7_in : ∀ w ∈ wsL_law_r7, w ∈ lw_tbl := List.forall_mem_cons.mpr ⟨List.mem_of_getElem? (i := 502) rfl, List.forall_mem_cons.mpr ⟨List.mem_of_getElem? (i := 503) rfl, List.forall_mem_cons.mpr ⟨List.mem_of_getElem? (i := 504) rfl, List.forall_mem_cons.mpr ⟨List.mem_of_getElem? (i := 505) rfl, List.forall_mem_cons.mpr ⟨List.mem_of_getElem? (i := 506) rfl, List.forall_mem_cons.mpr ⟨List.mem_of_getElem? (i := 508) rfl, List.forall_mem_cons.mpr ⟨List.mem_of_getElem? (i := 13) rfl, List.forall_mem_cons.mpr ⟨List.mem_of_getElem? (i := 509) rfl, List.forall_mem_cons.mpr ⟨List.mem_of_getElem? (i := 510) rfl, List.forall_mem_cons.mpr ⟨List.mem_of_getElem? (i := 512) rfl, List.forall_mem_cons.mpr ⟨List.mem_of_getElem? (i := 14) rfl, List.forall_mem_cons.mpr ⟨List.mem_of_getElem? (i := 513) rfl, List.forall_mem_cons.mpr ⟨List.mem_of_getElem? (i := 197) rfl, List.forall_mem_cons.mpr ⟨List.mem_of_getElem? (i := 198) rfl, List.forall_mem_cons.mpr ⟨List.mem_of_getElem? (i := 199) rfl, List.forall_mem_cons.mpr ⟨List.mem_of_getElem? (i := 200) rfl, List.forall_mem_cons.mpr ⟨List.mem_of_getElem? (i := 514) rfl, List.forall_mem_cons.mpr ⟨List.mem_of_getElem? (i := 515) rfl, List.forall_mem_cons.mpr ⟨List.mem_of_getElem? (i := 516) rfl, List.forall_mem_cons.mpr ⟨List.mem_of_getElem? (i := 517) rfl, List.forall_mem_cons.mpr ⟨List.mem_of_getElem? (i := 518) rfl, List.forall_mem_cons.mpr ⟨List.mem_of_getElem? (i := 520) rfl, List.forall_mem_cons.mpr ⟨List.mem_of_getElem? (i := 15) rfl, List.forall_mem_cons.mpr ⟨List.mem_of_getElem? (i := 521) rfl, fun _ h => absurd h List.not_mem_nil⟩⟩⟩⟩⟩⟩⟩⟩⟩⟩⟩⟩⟩⟩⟩⟩⟩⟩⟩⟩⟩⟩⟩⟩
set_option maxRecDepth 100000 in
theorem wsL_law_r8_in : ∀ w ∈ wsL_law_r8, w ∈ lw_tbl := List.forall_mem_cons.mpr ⟨List.mem_of_getElem? (i := 201) rfl, List.forall_mem_cons.mpr ⟨List.mem_of_getElem? (i := 202) rfl, List.forall_mem_cons.mpr ⟨List.mem_of_getElem? (i := 203) rfl, List.forall_mem_cons.mpr ⟨List.mem_of_getElem? (i := 204) rfl, List.forall_mem_cons.mpr ⟨List.mem_of_getElem? (i := 131) rfl, List.forall_mem_cons.mpr ⟨List.mem_of_getElem? (i := 115) rfl, List.forall_mem_cons.mpr ⟨List.mem_of_getElem? (i := 119) rfl, List.forall_mem_cons.mpr ⟨List.mem_of_getElem? (i := 106) rfl, List.forall_mem_cons.mpr ⟨List.mem_of_getElem? (i := 110) rfl, List.forall_mem_cons.mpr ⟨List.mem_of_getElem? (i := 522) rfl, List.forall_mem_cons.mpr ⟨List.mem_of_getElem? (i := 523) rfl, List.forall_mem_cons.mpr ⟨List.mem_of_getElem? (i := 524) rfl, List.forall_mem_cons.mpr ⟨List.mem_of_getElem? (i := 525) rfl, List.forall_mem_cons.mpr ⟨List.mem_of_getElem? (i := 205) rfl, List.forall_mem_cons.mpr ⟨List.mem_of_getElem? (i := 206) rfl, List.forall_mem_cons.mpr ⟨List.mem_of_getElem? (i := 207) rfl, List.forall_mem_cons.mpr ⟨List.mem_of_getElem? (i := 208) rfl, List.forall_mem_cons.mpr ⟨List.mem_of_getElem? (i := 209) rfl, List.forall_mem_cons.mpr ⟨List.mem_of_getElem? (i := 210) rfl, List.forall_mem_cons.mpr ⟨List.mem_of_getElem? (i := 211) rfl, List.forall_mem_cons.mpr ⟨List.mem_of_getElem? (i := 212) rfl, List.forall_mem_cons.mpr ⟨List.mem_of_getElem? (i := 213) rfl, List.forall_mem_cons.mpr ⟨List.mem_of_getElem? (i := 35) rfl, List.forall_mem_cons.mpr ⟨List.mem_of_getElem? (i := 214) rfl, fun _ h => absurd h List.not_mem_nil⟩⟩⟩⟩⟩⟩⟩⟩⟩⟩⟩⟩⟩⟩⟩⟩⟩⟩⟩⟩⟩⟩⟩⟩
set_option maxRecDepth 100000 in
theorem wsL_law_r9_in : ∀ w ∈ wsL_law_r9, w ∈ lw_tbl := List.forall_mem_cons.mpr ⟨List.mem_of_getElem? (i := 215) rfl, List.forall_mem_cons.mpr ⟨List.mem_of_getElem? (i := 216) rfl, List.forall_mem_cons.mpr ⟨List.mem_of_getElem? (i := 217) rfl, List.forall_mem_cons.mpr ⟨List.mem_of_getElem? (i := 218) rfl, List.forall_mem_cons.mpr ⟨List.mem_of_getElem? (i := 220) rfl, List.forall_mem_cons.mpr ⟨List.mem_of_getElem? (i := 1) rfl, List.forall_mem_cons.mpr ⟨List.mem_of_getElem? (i := 221) rfl, List.forall_mem_cons.mpr ⟨List.mem_of_getElem? (i := 133) rfl, List.forall_mem_cons.mpr ⟨List.mem_of_getElem? (i := 222) rfl, List.forall_mem_cons.mpr ⟨List.mem_of_getElem? (i := 223) rfl, List.forall_mem_cons.mpr ⟨List.mem_of_getElem? (i := 224) rfl, List.forall_mem_cons.mpr ⟨List.mem_of_getElem? (i := 526) rfl, List.forall_mem_cons.mpr ⟨List.mem_of_getElem? (i := 527) rfl, List.forall_mem_cons.mpr ⟨List.mem_of_getElem? (i := 528) rfl, List.forall_mem_cons.mpr ⟨List.mem_of_getElem? (i := 529) rfl, List.forall_mem_cons.mpr ⟨List.mem_of_getElem? (i := 530) rfl, List.forall_mem_cons.mpr ⟨List.mem_of_getElem? (i := 532) rfl, List.forall_mem_cons.mpr ⟨List.mem_of_getElem? (i := 16) rfl, List.forall_mem_cons.mpr ⟨List.mem_of_getElem? (i := 533) rfl, List.forall_mem_cons.mpr ⟨List.mem_of_getElem? (i := 534) rfl, List.forall_mem_cons.mpr ⟨List.mem_of_getElem? (i := 535) rfl, List.forall_mem_cons.mpr ⟨List.mem_of_getElem? (i := 536) rfl, List.forall_mem_cons.mpr ⟨List.mem_of_getElem? (i := 537) rfl, List.forall_mem_cons.mpr ⟨List.mem_of_getElem? (i := 539) rfl, fun _ h => absurd h List.not_mem_nil⟩⟩⟩⟩⟩⟩⟩⟩⟩⟩⟩⟩⟩⟩⟩⟩⟩⟩⟩⟩⟩⟩⟩⟩
set_option maxRecDepth 100000 in
theorem wsL_law_r10_in : ∀ w ∈ wsL_law_r10, w ∈ lw_tbl := List.forall_mem_cons.mpr ⟨List.mem_of_getElem? (i := 17) rfl, List.forall_mem_cons.mpr ⟨List.mem_of_getElem? (i := 540) rfl, List.forall_mem_cons.mpr ⟨List.mem_of_getElem? (i := 225) rfl, List.forall_mem_cons.mpr ⟨List.mem_of_getElem? (i := 226) rfl, List.forall_mem_cons.mpr ⟨List.mem_of_getElem? (i := 227) rfl, List.forall_mem_cons.mpr ⟨List.mem_of_getElem? (i := 228) rfl, List.forall_mem_cons.mpr ⟨List.mem_of_getElem? (i := 246) rfl, List.forall_mem_cons.mpr ⟨List.mem_of_getElem? (i := 250) rfl, List.forall_mem_cons.mpr ⟨List.mem_of_getElem? (i := 229) rfl, List.forall_mem_cons.mpr ⟨List.mem_of_getElem? (i := 230) rfl, List.forall_mem_cons.mpr ⟨List.mem_of_getElem? (i := 231) rfl, List.forall_mem_cons.mpr ⟨List.mem_of_getElem? (i := 232) rfl, List.forall_mem_cons.mpr ⟨List.mem_of_getElem? (i := 233) rfl, List.forall_mem_cons.mpr ⟨List.mem_of_getElem? (i := 36) rfl, List.forall_mem_cons.mpr ⟨List.mem_of_getElem? (i := 234) rfl, List.forall_mem_cons.mpr ⟨List.mem_of_getElem? (i := 235) rfl, List.forall_mem_cons.mpr ⟨List.mem_of_getElem? (i := 236) rfl, List.forall_mem_cons.mpr ⟨List.mem_of_getElem? (i := 237) rfl, List.forall_mem_cons.mpr ⟨List.mem_of_getElem? (i := 105) rfl, List.forall_mem_cons.mpr ⟨List.mem_of_getElem? (i := 109) rfl, List.forall_mem_cons.mpr ⟨List.mem_of_getElem? (i := 243) rfl, List.forall_mem_cons.mpr ⟨List.mem_of_getElem? (i := 245) rfl, List.forall_mem_cons.mpr ⟨List.mem_of_getElem? (i := 135) rfl, List.forall_mem_cons.mpr ⟨List.mem_of_getElem? (i := 142) rfl, fun _ h => absurd h List.not_mem_nil⟩⟩⟩⟩⟩⟩⟩⟩⟩⟩⟩⟩⟩⟩⟩⟩⟩⟩⟩⟩⟩⟩⟩⟩
set_option maxRecDepth 100000 in
theorem wsL_law_r11_in : ∀ w ∈ wsL_law_r11, w ∈ lw_tbl := List.forall_mem_cons.mpr ⟨List.mem_of_getElem? (i := 249) rfl, List.forall_mem_cons.mpr ⟨List.mem_of_getElem? (i := 247) rfl, List.forall_mem_cons.mpr ⟨List.mem_of_getElem? (i := 238) rfl, List.forall_mem_cons.mpr ⟨List.mem_of_getElem? (i := 239) rfl, List.forall_mem_cons.mpr ⟨List.mem_of_getElem? (i := 240) rfl, List.forall_mem_cons.mpr ⟨List.mem_of_getElem? (i := 241) rfl, List.forall_mem_cons.mpr ⟨List.mem_of_getElem? (i := 242) rfl, List.forall_mem_cons.mpr ⟨List.mem_of_getElem? (i := 260) rfl, List.forall_mem_cons.mpr ⟨List.mem_of_getElem? (i := 261) rfl, List.forall_mem_cons.mpr ⟨List.mem_of_getElem? (i := 262) rfl, List.forall_mem_cons.mpr ⟨List.mem_of_getElem? (i := 263) rfl, List.forall_mem_cons.mpr ⟨List.mem_of_getElem? (i := 130) rfl, List.forall_mem_cons.mpr ⟨List.mem_of_getElem? (i := 264) rfl, List.forall_mem_cons.mpr ⟨List.mem_of_getElem? (i := 266) rfl, List.forall_mem_cons.mpr ⟨List.mem_of_getElem? (i := 2) rfl, List.forall_mem_cons.mpr ⟨List.mem_of_getElem? (i := 267) rfl, List.forall_mem_cons.mpr ⟨List.mem_of_getElem? (i := 248) rfl, List.forall_mem_cons.mpr ⟨List.mem_of_getElem? (i := 244) rfl, List.forall_mem_cons.mpr ⟨List.mem_of_getElem? (i := 268) rfl, List.forall_mem_cons.mpr ⟨List.mem_of_getElem? (i := 270) rfl, List.forall_mem_cons.mpr ⟨List.mem_of_getElem? (i := 269) rfl, List.forall_mem_cons.mpr ⟨List.mem_of_getElem? (i := 37) rfl, List.forall_mem_cons.mpr ⟨List.mem_of_getElem? (i := 541) rfl, List.forall_mem_cons.mpr ⟨List.mem_of_getElem? (i := 542) rfl, fun _ h => absurd h List.not_mem_nil⟩⟩⟩⟩⟩⟩⟩⟩⟩⟩⟩⟩⟩⟩⟩⟩⟩⟩⟩⟩⟩⟩⟩⟩
set_option maxRecDepth 100000 in
theorem wsL_law_r12_in : ∀ w ∈ wsL_law_r12, w ∈ lw_tbl := List.forall_mem_cons.mpr ⟨List.mem_of_getElem? (i := 543) rfl, List.forall_mem_cons.mpr ⟨List.mem_of_getElem? (i := 544) rfl, List.forall_mem_cons.mpr ⟨List.mem_of_getElem? (i := 545) rfl, List.forall_mem_cons.mpr ⟨List.mem_of_getElem? (i := 547) rfl, List.forall_mem_cons.mpr ⟨List.mem_of_getElem? (i := 18) rfl, List.forall_mem_cons.mpr ⟨List.mem_of_getElem? (i := 548) rfl, List.forall_mem_cons.mpr ⟨List.mem_of_getElem? (i := 549) rfl, List.forall_mem_cons.mpr ⟨List.mem_of_getElem? (i := 551) rfl, List.forall_mem_cons.mpr ⟨List.mem_of_getElem? (i := 19) rfl, List.forall_mem_cons.mpr ⟨List.mem_of_getElem? (i := 552) rfl, List.forall_mem_cons.mpr ⟨List.mem_of_getElem? (i := 271) rfl, List.forall_mem_cons.mpr ⟨List.mem_of_getElem? (i := 272) rfl, List.forall_mem_cons.mpr ⟨List.mem_of_getElem? (i := 273) rfl, List.forall_mem_cons.mpr ⟨List.mem_of_getElem? (i := 274) rfl, List.forall_mem_cons.mpr ⟨List.mem_of_getElem? (i := 275) rfl, List.forall_mem_cons.mpr ⟨List.mem_of_getElem? (i := 277) rfl, List.forall_mem_cons.mpr ⟨List.mem_of_getElem? (i := 3) rfl, List.forall_mem_cons.mpr ⟨List.mem_of_getElem? (i := 278) rfl, List.forall_mem_cons.mpr ⟨List.mem_of_getElem? (i := 553) rfl, List.forall_mem_cons.mpr ⟨List.mem_of_getElem? (i := 554) rfl, List.forall_mem_cons.mpr ⟨List.mem_of_getElem? (i := 555) rfl, List.forall_mem_cons.mpr ⟨List.mem_of_getElem? (i := 556) rfl, List.forall_mem_cons.mpr ⟨List.mem_of_getElem? (i := 279) rfl, List.forall_mem_cons.mpr ⟨List.mem_of_getElem? (i := 280) rfl, fun _ h => absurd h List.not_mem_nil⟩⟩⟩⟩⟩⟩⟩⟩⟩⟩⟩⟩⟩⟩⟩⟩⟩⟩⟩⟩⟩⟩⟩⟩
set_option maxRecDepth 100000 in
theorem wsL_law_r13_in : ∀ w ∈ wsL_law_r13, w ∈ lw_tbl := List.forall_mem_cons.mpr ⟨List.mem_of_getElem? (i := 281) rfl, List.forall_mem_cons.mpr ⟨List.mem_of_getElem? (i := 282) rfl, List.forall_mem_cons.mpr ⟨List.mem_of_getElem? (i := 283) rfl, List.forall_mem_cons.mpr ⟨List.mem_of_getElem? (i := 285) rfl, List.forall_mem_cons.mpr ⟨List.mem_of_getElem? (i := 4) rfl, List.forall_mem_cons.mpr ⟨List.mem_of_getElem? (i := 286) rfl, List.forall_mem_cons.mpr ⟨List.mem_of_getElem? (i := 287) rfl, List.forall_mem_cons.mpr ⟨List.mem_of_getElem? (i := 288) rfl, List.forall_mem_cons.mpr ⟨List.mem_of_getElem? (i := 289) rfl, List.forall_mem_cons.mpr ⟨List.mem_of_getElem? (i := 290) rfl, List.forall_mem_cons.mpr ⟨List.mem_of_getElem? (i := 291) rfl, List.forall_mem_cons.mpr ⟨List.mem_of_getElem? (i := 292) rfl, List.forall_mem_cons.mpr ⟨List.mem_of_getElem? (i := 557) rfl, List.forall_mem_cons.mpr ⟨List.mem_of_getElem? (i := 558) rfl, List.forall_mem_cons.mpr ⟨List.mem_of_getElem? (i := 559) rfl, List.forall_mem_cons.mpr ⟨List.mem_of_getElem? (i := 560) rfl, List.forall_mem_cons.mpr ⟨List.mem_of_getElem? (i := 293) rfl, List.forall_mem_cons.mpr ⟨List.mem_of_getElem? (i := 294) rfl, List.forall_mem_cons.mpr ⟨List.mem_of_getElem? (i := 295) rfl, List.forall_mem_cons.mpr ⟨List.mem_of_getElem? (i := 296) rfl, List.forall_mem_cons.mpr ⟨List.mem_of_getElem? (i := 561) rfl, List.forall_mem_cons.mpr ⟨List.mem_of_getElem? (i := 562) rfl, List.forall_mem_cons.mpr ⟨List.mem_of_getElem? (i := 563) rfl, List.forall_mem_cons.mpr ⟨List.mem_of_getElem? (i := 564) rfl, fun _ h => absurd h List.not_mem_nil⟩⟩⟩⟩⟩⟩⟩⟩⟩⟩⟩⟩⟩⟩⟩⟩⟩⟩⟩⟩⟩⟩⟩⟩
set_option maxRecDepth 100000 in
theorem wsL_law_r14_in : ∀ w ∈ wsL_law_r14, w ∈ lw_tbl := List.forall_mem_cons.mpr ⟨List.mem_of_getElem? (i := 297) rfl, List.forall_mem_cons.mpr ⟨List.mem_of_getElem? (i := 298) rfl, List.forall_mem_cons.mpr ⟨List.mem_of_getElem? (i := 299) rfl, List.forall_mem_cons.mpr ⟨List.mem_of_getElem? (i := 300) rfl, List.forall_mem_cons.mpr ⟨List.mem_of_getElem? (i := 301) rfl, List.forall_mem_cons.mpr ⟨List.mem_of_getElem? (i := 302) rfl, List.forall_mem_cons.mpr ⟨List.mem_of_getElem? (i := 303) rfl, List.forall_mem_cons.mpr ⟨List.mem_of_getElem? (i := 304) rfl, List.forall_mem_cons.mpr ⟨List.mem_of_getElem? (i := 118) rfl, List.forall_mem_cons.mpr ⟨List.mem_of_getElem? (i := 305) rfl, List.forall_mem_cons.mpr ⟨List.mem_of_getElem? (i := 307) rfl, List.forall_mem_cons.mpr ⟨List.mem_of_getElem? (i := 5) rfl, List.forall_mem_cons.mpr ⟨List.mem_of_getElem? (i := 308) rfl, List.forall_mem_cons.mpr ⟨List.mem_of_getElem? (i := 309) rfl, List.forall_mem_cons.mpr ⟨List.mem_of_getElem? (i := 310) rfl, List.forall_mem_cons.mpr ⟨List.mem_of_getElem? (i := 311) rfl, List.forall_mem_cons.mpr ⟨List.mem_of_getElem? (i := 312) rfl, List.forall_mem_cons.mpr ⟨List.mem_of_getElem? (i := 565) rfl, List.forall_mem_cons.mpr ⟨List.mem_of_getElem? (i := 566) rfl, List.forall_mem_cons.mpr ⟨List.mem_of_getElem? (i := 567) rfl, List.forall_mem_cons.mpr ⟨List.mem_of_getElem? (i := 568) rfl, List.forall_mem_cons.mpr ⟨List.mem_of_getElem? (i := 313) rfl, List.forall_mem_cons.mpr ⟨List.mem_of_getElem? (i := 314) rfl, List.forall_mem_cons.mpr ⟨List.mem_of_getElem? (i := 315) rfl, fun _ h => absurd h List.not_mem_nil⟩⟩⟩⟩⟩⟩⟩⟩⟩⟩⟩⟩⟩⟩⟩⟩⟩⟩⟩⟩⟩⟩⟩⟩
set_option maxRecDepth 100000 in
theorem wsL_law_r15_in : ∀ w ∈ wsL_law_r15, w ∈ lw_tbl := List.forall_mem_cons.mpr ⟨List.mem_of_getElem? (i := 316) rfl, List.forall_mem_cons.mpr ⟨List.mem_of_getElem? (i := 569) rfl, List.forall_mem_cons.mpr ⟨List.mem_of_getElem? (i := 570) rfl, List.forall_mem_cons.mpr ⟨List.mem_of_getElem? (i := 571) rfl, List.forall_mem_cons.mpr ⟨List.mem_of_getElem? (i := 572) rfl, List.forall_mem_cons.mpr ⟨List.mem_of_getElem? (i := 317) rfl, List.forall_mem_cons.mpr ⟨List.mem_of_getElem? (i := 318) rfl, List.forall_mem_cons.mpr ⟨List.mem_of_getElem? (i := 319) rfl, List.forall_mem_cons.mpr ⟨List.mem_of_getElem? (i := 320) rfl, List.forall_mem_cons.mpr ⟨List.mem_of_getElem? (i := 329) rfl, List.forall_mem_cons.mpr ⟨List.mem_of_getElem? (i := 330) rfl, List.forall_mem_cons.mpr ⟨List.mem_of_getElem? (i := 38) rfl, List.forall_mem_cons.mpr ⟨List.mem_of_getElem? (i := 61) rfl, List.forall_mem_cons.mpr ⟨List.mem_of_getElem? (i := 59) rfl, List.forall_mem_cons.mpr ⟨List.mem_of_getElem? (i := 321) rfl, List.forall_mem_cons.mpr ⟨List.mem_of_getElem? (i := 323) rfl, List.forall_mem_cons.mpr ⟨List.mem_of_getElem? (i := 6) rfl, List.forall_mem_cons.mpr ⟨List.mem_of_getElem? (i := 324) rfl, List.forall_mem_cons.mpr ⟨List.mem_of_getElem? (i := 325) rfl, List.forall_mem_cons.mpr ⟨List.mem_of_getElem? (i := 326) rfl, List.forall_mem_cons.mpr ⟨List.mem_of_getElem? (i := 327) rfl, List.forall_mem_cons.mpr ⟨List.mem_of_getElem? (i := 328) rfl, List.forall_mem_cons.mpr ⟨List.mem_of_getElem? (i := 331) rfl, List.forall_mem_cons.mpr ⟨List.mem_of_getElem? (i := 332) rfl, fun _ h => absurd h List.not_mem_nil⟩⟩⟩⟩⟩⟩⟩⟩⟩⟩⟩⟩⟩⟩⟩⟩⟩⟩⟩⟩⟩⟩⟩⟩
set_option maxRecDepth 100000 in
theorem wsL_law_r16_in : ∀ w ∈ wsL_law_r16, w ∈ lw_tbl := List.forall_mem_cons.mpr ⟨List.mem_of_getElem? (i := 333) rfl, List.forall_mem_cons.mpr ⟨List.mem_of_getElem? (i := 334) rfl, List.forall_mem_cons.mpr ⟨List.mem_of_getElem? (i := 335) rfl, List.forall_mem_cons.mpr ⟨List.mem_of_getElem? (i := 336) rfl, List.forall_mem_cons.mpr ⟨List.mem_of_getElem? (i := 337) rfl, List.forall_mem_cons.mpr ⟨List.mem_of_getElem? (i := 345) rfl, List.forall_mem_cons.mpr ⟨List.mem_of_getElem? (i := 346) rfl, List.forall_mem_cons.mpr ⟨List.mem_of_getElem? (i := 347) rfl, List.forall_mem_cons.mpr ⟨List.mem_of_getElem? (i := 348) rfl, List.forall_mem_cons.mpr ⟨List.mem_of_getElem? (i := 136) rfl, List.forall_mem_cons.mpr ⟨List.mem_of_getElem? (i := 117) rfl, List.forall_mem_cons.mpr ⟨List.mem_of_getElem? (i := 349) rfl, List.forall_mem_cons.mpr ⟨List.mem_of_getElem? (i := 350) rfl, List.forall_mem_cons.mpr ⟨List.mem_of_getElem? (i := 352) rfl, List.forall_mem_cons.mpr ⟨List.mem_of_getElem? (i := 7) rfl, List.forall_mem_cons.mpr ⟨List.mem_of_getElem? (i := 353) rfl, List.forall_mem_cons.mpr ⟨List.mem_of_getElem? (i := 139) rfl, List.forall_mem_cons.mpr ⟨List.mem_of_getElem? (i := 354) rfl, List.forall_mem_cons.mpr ⟨List.mem_of_getElem? (i := 356) rfl, List.forall_mem_cons.mpr ⟨List.mem_of_getElem? (i := 8) rfl, List.forall_mem_cons.mpr ⟨List.mem_of_getElem? (i := 357) rfl, List.forall_mem_cons.mpr ⟨List.mem_of_getElem? (i := 114) rfl, List.forall_mem_cons.mpr ⟨List.mem_of_getElem? (i := 358) rfl, List.forall_mem_cons.mpr ⟨List.mem_of_getElem? (i := 360) rfl, fun _ h => absurd h List.not_mem_nil⟩⟩⟩⟩⟩⟩⟩⟩⟩⟩⟩⟩⟩⟩⟩⟩⟩⟩⟩⟩⟩⟩⟩⟩
set_option maxRecDepth 100000 in
theorem wsL_law_r17_in : ∀ w ∈ wsL_law_r17, w ∈ lw_tbl := List.forall_mem_cons.mpr ⟨List.mem_of_getElem? (i := 9) rfl, List.forall_mem_cons.mpr ⟨List.mem_of_getElem? (i := 361) rfl, List.forall_mem_cons.mpr ⟨List.mem_of_getElem? (i := 362) rfl, List.forall_mem_cons.mpr ⟨List.mem_of_getElem? (i := 364) rfl, List.forall_mem_cons.mpr ⟨List.mem_of_getElem? (i := 10) rfl, List.forall_mem_cons.mpr ⟨List.mem_of_getElem? (i := 365) rfl, List.forall_mem_cons.mpr ⟨List.mem_of_getElem? (i := 366) rfl, List.forall_mem_cons.mpr ⟨List.mem_of_getElem? (i := 368) rfl, List.forall_mem_cons.mpr ⟨List.mem_of_getElem? (i := 11) rfl, List.forall_mem_cons.mpr ⟨List.mem_of_getElem? (i := 369) rfl, List.forall_mem_cons.mpr ⟨List.mem_of_getElem? (i := 370) rfl, List.forall_mem_cons.mpr ⟨List.mem_of_getElem? (i := 371) rfl, List.forall_mem_cons.mpr ⟨List.mem_of_getElem? (i := 372) rfl, List.forall_mem_cons.mpr ⟨List.mem_of_getElem? (i := 373) rfl, List.forall_mem_cons.mpr ⟨List.mem_of_getElem? (i := 374) rfl, List.forall_mem_cons.mpr ⟨List.mem_of_getElem? (i := 375) rfl, List.forall_mem_cons.mpr ⟨List.mem_of_getElem? (i := 376) rfl, List.forall_mem_cons.mpr ⟨List.mem_of_getElem? (i := 573) rfl, List.forall_mem_cons.mpr ⟨List.mem_of_getElem? (i := 574) rfl, List.forall_mem_cons.mpr ⟨List.mem_of_getElem? (i := 575) rfl, List.forall_mem_cons.mpr ⟨List.mem_of_getElem? (i := 576) rfl, List.forall_mem_cons.mpr ⟨List.mem_of_getElem? (i := 445) rfl, List.forall_mem_cons.mpr ⟨List.mem_of_getElem? (i := 577) rfl, List.forall_mem_cons.mpr ⟨List.mem_of_getElem? (i := 579) rfl, fun _ h => absurd h List.not_mem_nil⟩⟩⟩⟩⟩⟩⟩⟩⟩⟩⟩⟩⟩⟩⟩⟩⟩⟩⟩⟩⟩⟩⟩⟩
set_option maxRecDepth 100000 in
theorem wsL_law_r18_in : ∀ w ∈ wsL_law_r18, w ∈ lw_tbl := List.forall_mem_cons.mpr ⟨List.mem_of_getElem? (i := 20) rfl, List.forall_mem_cons.mpr ⟨List.mem_of_getElem? (i := 580) rfl, List.forall_mem_cons.mpr ⟨List.mem_of_getElem? (i := 581) rfl, List.forall_mem_cons.mpr ⟨List.mem_of_getElem? (i := 583) rfl, List.forall_mem_cons.mpr ⟨List.mem_of_getElem? (i := 21) rfl, List.forall_mem_cons.mpr ⟨List.mem_of_getElem? (i := 584) rfl, List.forall_mem_cons.mpr ⟨List.mem_of_getElem? (i := 585) rfl, List.forall_mem_cons.mpr ⟨List.mem_of_getElem? (i := 587) rfl, List.forall_mem_cons.mpr ⟨List.mem_of_getElem? (i := 22) rfl, List.forall_mem_cons.mpr ⟨List.mem_of_getElem? (i := 588) rfl, List.forall_mem_cons.mpr ⟨List.mem_of_getElem? (i := 589) rfl, List.forall_mem_cons.mpr ⟨List.mem_of_getElem? (i := 591) rfl, List.forall_mem_cons.mpr ⟨List.mem_of_getElem? (i := 23) rfl, List.forall_mem_cons.mpr ⟨List.mem_of_getElem? (i := 592) rfl, List.forall_mem_cons.mpr ⟨List.mem_of_getElem? (i := 593) rfl, List.forall_mem_cons.mpr ⟨List.mem_of_getElem? (i := 595) rfl, List.forall_mem_cons.mpr ⟨List.mem_of_getElem? (i := 24) rfl, List.forall_mem_cons.mpr ⟨List.mem_of_getElem? (i := 596) rfl, List.forall_mem_cons.mpr ⟨List.mem_of_getElem? (i := 597) rfl, List.forall_mem_cons.mpr ⟨List.mem_of_getElem? (i := 599) rfl, List.forall_mem_cons.mpr ⟨List.mem_of_getElem? (i := 25) rfl, List.forall_mem_cons.mpr ⟨List.mem_of_getElem? (i := 600) rfl, List.forall_mem_cons.mpr ⟨List.mem_of_getElem? (i := 377) rfl, List.forall_mem_cons.mpr ⟨List.mem_of_getElem? (i := 378) rfl, fun _ h => absurd h List.not_mem_nil⟩⟩⟩⟩⟩⟩⟩⟩⟩⟩⟩⟩⟩⟩⟩⟩⟩⟩⟩⟩⟩⟩⟩⟩
set_option maxRecDepth 100000 in
theorem wsL_law_r19_in : ∀ w ∈ wsL_law_r19, w ∈ lw_tbl := List.forall_mem_cons.mpr ⟨List.mem_of_getElem? (i := 379) rfl, List.forall_mem_cons.mpr ⟨List.mem_of_getElem? (i := 380) rfl, List.forall_mem_cons.mpr ⟨List.mem_of_getElem? (i := 381) rfl, List.forall_mem_cons.mpr ⟨List.mem_of_getElem? (i := 601) rfl, List.forall_mem_cons.mpr ⟨List.mem_of_getElem? (i := 602) rfl, List.forall_mem_cons.mpr ⟨List.mem_of_getElem? (i := 603) rfl, List.forall_mem_cons.mpr ⟨List.mem_of_getElem? (i := 604) rfl, List.forall_mem_cons.mpr ⟨List.mem_of_getElem? (i := 382) rfl, List.forall_mem_cons.mpr ⟨List.mem_of_getElem? (i := 383) rfl, List.forall_mem_cons.mpr ⟨List.mem_of_getElem? (i := 384) rfl, List.forall_mem_cons.mpr ⟨List.mem_of_getElem? (i := 385) rfl, List.forall_mem_cons.mpr ⟨List.mem_of_getElem? (i := 605) rfl, List.forall_mem_cons.mpr ⟨List.mem_of_getElem? (i := 606) rfl, List.forall_mem_cons.mpr ⟨List.mem_of_getElem? (i := 607) rfl, List.forall_mem_cons.mpr ⟨List.mem_of_getElem? (i := 608) rfl, List.forall_mem_cons.mpr ⟨List.mem_of_getElem? (i := 386) rfl, List.forall_mem_cons.mpr ⟨List.mem_of_getElem? (i := 387) rfl, List.forall_mem_cons.mpr ⟨List.mem_of_getElem? (i := 388) rfl, List.forall_mem_cons.mpr ⟨List.mem_of_getElem? (i := 389) rfl, List.forall_mem_cons.mpr ⟨List.mem_of_getElem? (i := 57) rfl, List.forall_mem_cons.mpr ⟨List.mem_of_getElem? (i := 609) rfl, List.forall_mem_cons.mpr ⟨List.mem_of_getElem? (i := 610) rfl, List.forall_mem_cons.mpr ⟨List.mem_of_getElem? (i := 611) rfl, List.forall_mem_cons.mpr ⟨List.mem_of_getElem? (i := 612) rfl, fun _ h => absurd h List.not_mem_nil⟩⟩⟩⟩⟩⟩⟩⟩⟩⟩⟩⟩⟩⟩⟩⟩⟩⟩⟩⟩⟩⟩⟩⟩
set_option maxRecDepth 100000 in
theorem wsL_law_r20_in : ∀ w ∈ wsL_law_r20, w ∈ lw_tbl := List.forall_mem_cons.mpr ⟨List.mem_of_getElem? (i := 390) rfl, List.forall_mem_cons.mpr ⟨List.mem_of_getElem? (i := 391) rfl, List.forall_mem_cons.mpr ⟨List.mem_of_getElem? (i := 392) rfl, List.forall_mem_cons.mpr ⟨List.mem_of_getElem? (i := 393) rfl, List.forall_mem_cons.mpr ⟨List.mem_of_getElem? (i := 394) rfl, List.forall_mem_cons.mpr ⟨List.mem_of_getElem? (i := 395) rfl, List.forall_mem_cons.mpr ⟨List.mem_of_getElem? (i := 396) rfl, List.forall_mem_cons.mpr ⟨List.mem_of_getElem? (i := 397) rfl, List.forall_mem_cons.mpr ⟨List.mem_of_getElem? (i := 398) rfl, List.forall_mem_cons.mpr ⟨List.mem_of_getElem? (i := 399) rfl, List.forall_mem_cons.mpr ⟨List.mem_of_getElem? (i := 400) rfl, List.forall_mem_cons.mpr ⟨List.mem_of_getElem? (i := 401) rfl, List.forall_mem_cons.mpr ⟨List.mem_of_getElem? (i := 402) rfl, List.forall_mem_cons.mpr ⟨List.mem_of_getElem? (i := 403) rfl, List.forall_mem_cons.mpr ⟨List.mem_of_getElem? (i := 404) rfl, List.forall_mem_cons.mpr ⟨List.mem_of_getElem? (i := 405) rfl, List.forall_mem_cons.mpr ⟨List.mem_of_getElem? (i := 406) rfl, List.forall_mem_cons.mpr ⟨List.mem_of_getElem? (i := 407) rfl, List.forall_mem_cons.mpr ⟨List.mem_of_getElem? (i := 408) rfl, List.forall_mem_cons.mpr ⟨List.mem_of_getElem? (i := 409) rfl, List.forall_mem_cons.mpr ⟨List.mem_of_getElem? (i := 410) rfl, List.forall_mem_cons.mpr ⟨List.mem_of_getElem? (i := 411) rfl, List.forall_mem_cons.mpr ⟨List.mem_of_getElem? (i := 412) rfl, List.forall_mem_cons.mpr ⟨List.mem_of_getElem? (i := 413) rfl, fun _ h => absurd h List.not_mem_nil⟩⟩⟩⟩⟩⟩⟩⟩⟩⟩⟩⟩⟩⟩⟩⟩⟩⟩⟩⟩⟩⟩⟩⟩
set_option maxRecDepth 100000 in
theorem wsL_law_r21_in : ∀ w ∈ wsL_law_r21, w ∈ lw_tbl := List.forall_mem_cons.mpr ⟨List.mem_of_getElem? (i := 414) rfl, List.forall_mem_cons.mpr ⟨List.mem_of_getElem? (i := 415) rfl, List.forall_mem_cons.mpr ⟨List.mem_of_getElem? (i := 416) rfl, List.forall_mem_cons.mpr ⟨List.mem_of_getElem? (i := 417) rfl, List.forall_mem_cons.mpr ⟨List.mem_of_getElem? (i := 613) rfl, List.forall_mem_cons.mpr ⟨List.mem_of_getElem? (i := 614) rfl, List.forall_mem_cons.mpr ⟨List.mem_of_getElem? (i := 615) rfl, List.forall_mem_cons.mpr ⟨List.mem_of_getElem? (i := 616) rfl, List.forall_mem_cons.mpr ⟨List.mem_of_getElem? (i := 446) rfl, List.forall_mem_cons.mpr ⟨List.mem_of_getElem? (i := 617) rfl, List.forall_mem_cons.mpr ⟨List.mem_of_getElem? (i := 619) rfl, List.forall_mem_cons.mpr ⟨List.mem_of_getElem? (i := 26) rfl, List.forall_mem_cons.mpr ⟨List.mem_of_getElem? (i := 620) rfl, List.forall_mem_cons.mpr ⟨List.mem_of_getElem? (i := 621) rfl, List.forall_mem_cons.mpr ⟨List.mem_of_getElem? (i := 623) rfl, List.forall_mem_cons.mpr ⟨List.mem_of_getElem? (i := 27) rfl, List.forall_mem_cons.mpr ⟨List.mem_of_getElem? (i := 624) rfl, List.forall_mem_cons.mpr ⟨List.mem_of_getElem? (i := 418) rfl, List.forall_mem_cons.mpr ⟨List.mem_of_getElem? (i := 419) rfl, List.forall_mem_cons.mpr ⟨List.mem_of_getElem? (i := 420) rfl, List.forall_mem_cons.mpr ⟨List.mem_of_getElem? (i := 421) rfl, List.forall_mem_cons.mpr ⟨List.mem_of_getElem? (i := 422) rfl, List.forall_mem_cons.mpr ⟨List.mem_of_getElem? (i := 423) rfl, List.forall_mem_cons.mpr ⟨List.mem_of_getElem? (i := 424) rfl, fun _ h => absurd h List.not_mem_nil⟩⟩⟩⟩⟩⟩⟩⟩⟩⟩⟩⟩⟩⟩⟩⟩⟩⟩⟩⟩⟩⟩⟩⟩
set_option maxRecDepth 100000 in
theorem wsL_law_r22_in : ∀ w ∈ wsL_law_r22, w ∈ lw_tbl := List.forall_mem_cons.mpr ⟨List.mem_of_getElem? (i := 425) rfl, List.forall_mem_cons.mpr ⟨List.mem_of_getElem? (i := 107) rfl, List.forall_mem_cons.mpr ⟨List.mem_of_getElem? (i := 111) rfl, List.forall_mem_cons.mpr ⟨List.mem_of_getElem? (i := 426) rfl, List.forall_mem_cons.mpr ⟨List.mem_of_getElem? (i := 625) rfl, List.forall_mem_cons.mpr ⟨List.mem_of_getElem? (i := 626) rfl, List.forall_mem_cons.mpr ⟨List.mem_of_getElem? (i := 627) rfl, List.forall_mem_cons.mpr ⟨List.mem_of_getElem? (i := 628) rfl, fun _ h => absurd h List.not_mem_nil⟩⟩⟩⟩⟩⟩⟩⟩
set_option maxRecDepth 100000 in
theorem wsX50_inT : ∀ w ∈ wsX50, w ∈ lw_tbl := by decide +kernel
set_option maxRecDepth 100000 in
theorem wsX60_inT : ∀ w ∈ wsX60, w ∈ lw_tbl := by decide +kernel
set_option maxRecDepth 100000 in
theorem wsX20_inT : ∀ w ∈ wsX20, w ∈ lw_tbl := by decide +kernel
set_option maxRecDepth 100000 in
theorem wsX30_inT : ∀ w ∈ wsX30, w ∈ lw_tbl := by decide +kernel
set_option maxRecDepth 100000 in
theorem wsX00_inT : ∀ w ∈ wsX00, w ∈ lw_tbl := by decide +kernel
set_option maxRecDepth 100000 in
theorem wsX10_inT : ∀ w ∈ wsX10, w ∈ lw_tbl := by decide +kernel
set_option maxRecDepth 100000 in
theorem wsX40_inT : ∀ w ∈ wsX40, w ∈ lw_tbl := by decide +kernel
theorem wsL_law_in : ∀ w ∈ wsL_law, w ∈ lw_tbl := List.forall_mem_append.mpr ⟨List.forall_mem_append.mpr ⟨List.forall_mem_append.mpr ⟨List.forall_mem_append.mpr ⟨List.forall_mem_append.mpr ⟨List.forall_mem_append.mpr ⟨List.forall_mem_append.mpr ⟨List.forall_mem_append.mpr ⟨List.forall_mem_append.mpr ⟨wsL_law_r1_in, List.forall_mem_append.mpr ⟨wsL_law_r2_in, List.forall_mem_append.mpr ⟨wsL_law_r3_in, List.forall_mem_append.mpr ⟨wsL_law_r4_in, List.forall_mem_append.mpr ⟨wsL_law_r5_in, List.forall_mem_append.mpr ⟨wsL_law_r6_in, List.forall_mem_append.mpr ⟨wsL_law_r7_in, List.forall_mem_append.mpr ⟨wsL_law_r8_in, List.forall_mem_append.mpr ⟨wsL_law_r9_in, List.forall_mem_append.mpr ⟨wsL_law_r10_in, List.forall_mem_append.mpr ⟨wsL_law_r11_in, List.forall_mem_append.mpr ⟨wsL_law_r12_in, List.forall_mem_append.mpr ⟨wsL_law_r13_in, List.forall_mem_append.mpr ⟨wsL_law_r14_in, List.forall_mem_append.mpr ⟨wsL_law_r15_in, List.forall_mem_append.mpr ⟨wsL_law_r16_in, List.forall_mem_append.mpr ⟨wsL_law_r17_in, List.forall_mem_append.mpr ⟨wsL_law_r18_in, List.forall_mem_append.mpr ⟨wsL_law_r19_in, List.forall_mem_append.mpr ⟨wsL_law_r20_in, List.forall_mem_append.mpr ⟨wsL_law_r21_in, wsL_law_r22_in⟩⟩⟩⟩⟩⟩⟩⟩⟩⟩⟩⟩⟩⟩⟩⟩⟩⟩⟩⟩⟩, wsX50_inT⟩, wsX60_inT⟩, wsX20_inT⟩, wsX30_inT⟩, wsX00_inT⟩, wsX10_inT⟩, wsX40_inT⟩, fun _ h => absurd h List.not_mem_nil⟩
theorem inlX0 : ∀ w ∈ wsX00, w ∈ wsL_law := fun _ h => List.mem_append_left _ (List.mem_append_left _ (List.mem_append_left _ (List.mem_append_right _ h)))
theorem inX0 : ∀ w ∈ wsX00, w ∈ lw_tbl := fun w h => wsL_law_in w (inlX0 w h)
theorem inlX1 : ∀ w ∈ wsX10, w ∈ wsL_law := fun _ h => List.mem_append_left _ (List.mem_append_left _ (List.mem_append_right _ h))
theorem inX1 : ∀ w ∈ wsX10, w ∈ lw_tbl := fun w h => wsL_law_in w (inlX1 w h)
theorem inlX2 : ∀ w ∈ wsX20, w ∈ wsL_law := fun _ h => List.mem_append_left _ (List.mem_append_left _ (List.mem_append_left _ (List.mem_append_left _ (List.mem_append_left _ (List.mem_append_right _ h)))))
theorem inX2 : ∀ w ∈ wsX20, w ∈ lw_tbl := fun w h => wsL_law_in w (inlX2 w h)
theorem inlX3 : ∀ w ∈ wsX30, w ∈ wsL_law := fun _ h => List.mem_append_left _ (List.mem_append_left _ (List.mem_append_left _ (List.mem_append_left _ (List.mem_append_right _ h))))
theorem inX3 : ∀ w ∈ wsX30, w ∈ lw_tbl := fun w h => wsL_law_in w (inlX3 w h)
theorem inlX4 : ∀ w ∈ wsX40, w ∈ wsL_law := fun _ h => List.mem_append_left _ (List.mem_append_right _ h)
theorem inX4 : ∀ w ∈ wsX40, w ∈ lw_tbl := fun w h => wsL_law_in w (inlX4 w h)
theorem inlX5 : ∀ w ∈ wsX50, w ∈ wsL_law := fun _ h => List.mem_append_left _ (List.mem_append_left _ (List.mem_append_left _ (List.mem_append_left _ (List.mem_append_left _ (List.mem_append_left _ (List.mem_append_left _ (List.mem_append_right _ h)))))))
theorem inX5 : ∀ w ∈ wsX50, w ∈ lw_tbl := fun w h => wsL_law_in w (inlX5 w h)
theorem inlX6 : ∀ w ∈ wsX60, w ∈ wsL_law := fun _ h => List.mem_append_left _ (List.mem_append_left _ (List.mem_append_left _ (List.mem_append_left _ (List.mem_append_left _ (List.mem_append_left _ (List.mem_append_right _ h))))))
theorem inX6 : ∀ w ∈ wsX60, w ∈ lw_tbl := fun w h => wsL_law_in w (inlX6 w h)
theorem inJ9 : ∀ w ∈ wsJ90, w ∈ lw_tbl := by decide +kernel
theorem inJ10 : ∀ w ∈ wsJ100, w ∈ lw_tbl := by decide +kernel
theorem inJ7 : ∀ w ∈ wsJ70, w ∈ lw_tbl := by decide +kernel
abbrev vwCl : List vw_C := [(RX0, TX0, 4), (RX1, TX1, 4), (RX2, TX2, 3), (RX3, TX3, 5), (RX4, TX4, 3), (RX5, TX5, 5), (RX6, TX6, 16)]
end
section
theorem dX0_init_0 : decode cX0_init 0 = .ok (.aload_n 0, 1) := by decide +kernel
theorem dX0_init_1 : decode cX0_init 1 = .ok (.invokespecial 1, 3) := by decide +kernel
theorem dX0_init_4 : decode cX0_init 4 = .ok (.aload_n 0, 1) := by decide +kernel
theorem dX0_init_5 : decode cX0_init 5 = .ok (.lload_n 1, 1) := by decide +kernel
theorem dX0_init_6 : decode cX0_init 6 = .ok (.putfield 7, 3) := by decide +kernel
theorem dX0_init_9 : decode cX0_init 9 = .ok (.aload_n 0, 1) := by decide +kernel
theorem dX0_init_10 : decode cX0_init 10 = .ok (.lload_n 3, 1) := by decide +kernel
theorem dX0_init_11 : decode cX0_init 11 = .ok (.putfield 13, 3) := by decide +kernel
theorem dX0_init_14 : decode cX0_init 14 = .ok (.aload_n 0, 1) := by decide +kernel
theorem dX0_init_15 : decode cX0_init 15 = .ok (.iload 5, 2) := by decide +kernel
theorem dX0_init_17 : decode cX0_init 17 = .ok (.putfield 16, 3) := by decide +kernel
theorem dX0_init_20 : decode cX0_init 20 = .ok (.aload_n 0, 1) := by decide +kernel
theorem dX0_init_21 : decode cX0_init 21 = .ok (.iload 6, 2) := by decide +kernel
theorem dX0_init_23 : decode cX0_init 23 = .ok (.putfield 20, 3) := by decide +kernel
theorem dX0_init_26 : decode cX0_init 26 = .ok (.return_, 1) := by decide +kernel
theorem dX0_size_0 : decode cX0_size 0 = .ok (.aload_n 0, 1) := by decide +kernel
theorem dX0_size_1 : decode cX0_size 1 = .ok (.getfield 16, 3) := by decide +kernel
theorem dX0_size_4 : decode cX0_size 4 = .ok (.aload_n 0, 1) := by decide +kernel
theorem dX0_size_5 : decode cX0_size 5 = .ok (.getfield 20, 3) := by decide +kernel
theorem dX0_size_8 : decode cX0_size 8 = .ok (.imul, 1) := by decide +kernel
theorem dX0_size_9 : decode cX0_size 9 = .ok (.ireturn, 1) := by decide +kernel
theorem dX0_holds_0 : decode cX0_holds 0 = .ok (.lload_n 1, 1) := by decide +kernel
theorem dX0_holds_1 : decode cX0_holds 1 = .ok (.aload_n 0, 1) := by decide +kernel
theorem dX0_holds_2 : decode cX0_holds 2 = .ok (.getfield 7, 3) := by decide +kernel
theorem dX0_holds_5 : decode cX0_holds 5 = .ok (.lcmp, 1) := by decide +kernel
theorem dX0_holds_6 : decode cX0_holds 6 = .ok (.ifCond .lt 46, 3) := by decide +kernel
theorem dX0_holds_9 : decode cX0_holds 9 = .ok (.lload_n 1, 1) := by decide +kernel
theorem dX0_holds_10 : decode cX0_holds 10 = .ok (.aload_n 0, 1) := by decide +kernel
theorem dX0_holds_11 : decode cX0_holds 11 = .ok (.getfield 7, 3) := by decide +kernel
theorem dX0_holds_14 : decode cX0_holds 14 = .ok (.aload_n 0, 1) := by decide +kernel
theorem dX0_holds_15 : decode cX0_holds 15 = .ok (.getfield 16, 3) := by decide +kernel
theorem dX0_holds_18 : decode cX0_holds 18 = .ok (.i2l, 1) := by decide +kernel
theorem dX0_holds_19 : decode cX0_holds 19 = .ok (.ladd, 1) := by decide +kernel
theorem dX0_holds_20 : decode cX0_holds 20 = .ok (.lcmp, 1) := by decide +kernel
theorem dX0_holds_21 : decode cX0_holds 21 = .ok (.ifCond .ge 31, 3) := by decide +kernel
theorem dX0_holds_24 : decode cX0_holds 24 = .ok (.lload_n 3, 1) := by decide +kernel
theorem dX0_holds_25 : decode cX0_holds 25 = .ok (.aload_n 0, 1) := by decide +kernel
theorem dX0_holds_26 : decode cX0_holds 26 = .ok (.getfield 13, 3) := by decide +kernel
theorem dX0_holds_29 : decode cX0_holds 29 = .ok (.lcmp, 1) := by decide +kernel
theorem dX0_holds_30 : decode cX0_holds 30 = .ok (.ifCond .lt 22, 3) := by decide +kernel
theorem dX0_holds_33 : decode cX0_holds 33 = .ok (.lload_n 3, 1) := by decide +kernel
theorem dX0_holds_34 : decode cX0_holds 34 = .ok (.aload_n 0, 1) := by decide +kernel
theorem dX0_holds_35 : decode cX0_holds 35 = .ok (.getfield 13, 3) := by decide +kernel
theorem dX0_holds_38 : decode cX0_holds 38 = .ok (.aload_n 0, 1) := by decide +kernel
theorem dX0_holds_39 : decode cX0_holds 39 = .ok (.getfield 20, 3) := by decide +kernel
theorem dX0_holds_42 : decode cX0_holds 42 = .ok (.i2l, 1) := by decide +kernel
theorem dX0_holds_43 : decode cX0_holds 43 = .ok (.ladd, 1) := by decide +kernel
theorem dX0_holds_44 : decode cX0_holds 44 = .ok (.lcmp, 1) := by decide +kernel
theorem dX0_holds_45 : decode cX0_holds 45 = .ok (.ifCond .ge 7, 3) := by decide +kernel
theorem dX0_holds_48 : decode cX0_holds 48 = .ok (.iconst 1, 1) := by decide +kernel
theorem dX0_holds_49 : decode cX0_holds 49 = .ok (.goto 4, 3) := by decide +kernel
theorem dX0_holds_52 : decode cX0_holds 52 = .ok (.iconst 0, 1) := by decide +kernel
theorem dX0_holds_53 : decode cX0_holds 53 = .ok (.ireturn, 1) := by decide +kernel
set_option maxRecDepth 100000 in
theorem ggX0_movedBy_X0_init : GoodIn wsX0_movedBy wsX0_init := goodIn_r _ [10, 11, 12, 13, 4, 5, 6, 7, 14, 15, 16, 17] rfl (by decide +kernel)
set_option maxRecDepth 20000 in
theorem gX0_movedBy_X0_init : GoodIn wsX0_movedBy (wsX0_init) := ggX0_movedBy_X0_init
theorem dX0_movedBy_0 : decode cX0_movedBy 0 = .ok (.new 8, 3) := by decide +kernel
theorem dX0_movedBy_3 : decode cX0_movedBy 3 = .ok (.dup, 1) := by decide +kernel
theorem dX0_movedBy_4 : decode cX0_movedBy 4 = .ok (.aload_n 0, 1) := by decide +kernel
theorem dX0_movedBy_5 : decode cX0_movedBy 5 = .ok (.getfield 7, 3) := by decide +kernel
theorem dX0_movedBy_8 : decode cX0_movedBy 8 = .ok (.lload_n 1, 1) := by decide +kernel
theorem dX0_movedBy_9 : decode cX0_movedBy 9 = .ok (.ladd, 1) := by decide +kernel
theorem dX0_movedBy_10 : decode cX0_movedBy 10 = .ok (.aload_n 0, 1) := by decide +kernel
theorem dX0_movedBy_11 : decode cX0_movedBy 11 = .ok (.getfield 13, 3) := by decide +kernel
theorem dX0_movedBy_14 : decode cX0_movedBy 14 = .ok (.lload_n 3, 1) := by decide +kernel
theorem dX0_movedBy_15 : decode cX0_movedBy 15 = .ok (.ladd, 1) := by decide +kernel
theorem dX0_movedBy_16 : decode cX0_movedBy 16 = .ok (.aload_n 0, 1) := by decide +kernel
theorem dX0_movedBy_17 : decode cX0_movedBy 17 = .ok (.getfield 16, 3) := by decide +kernel
theorem dX0_movedBy_20 : decode cX0_movedBy 20 = .ok (.aload_n 0, 1) := by decide +kernel
theorem dX0_movedBy_21 : decode cX0_movedBy 21 = .ok (.getfield 20, 3) := by decide +kernel
theorem dX0_movedBy_24 : decode cX0_movedBy 24 = .ok (.invokespecial 23, 3) := by decide +kernel
theorem dX0_movedBy_27 : decode cX0_movedBy 27 = .ok (.areturn, 1) := by decide +kernel
set_option maxRecDepth 100000 in
theorem ggX0_shared_X0_init : GoodIn wsX0_shared wsX0_init := goodIn_r _ [17, 18, 19, 20, 1, 6, 7, 11, 21, 22, 23, 24] rfl (by decide +kernel)
set_option maxRecDepth 20000 in
theorem gX0_shared_X0_init : GoodIn wsX0_shared (wsX0_init) := ggX0_shared_X0_init
theorem dX0_shared_0 : decode cX0_shared 0 = .ok (.aload_n 0, 1) := by decide +kernel
theorem dX0_shared_1 : decode cX0_shared 1 = .ok (.getfield 7, 3) := by decide +kernel
theorem dX0_shared_4 : decode cX0_shared 4 = .ok (.aload_n 1, 1) := by decide +kernel
theorem dX0_shared_5 : decode cX0_shared 5 = .ok (.getfield 7, 3) := by decide +kernel
theorem dX0_shared_8 : decode cX0_shared 8 = .ok (.invokestatic 26, 3) := by decide +kernel
theorem dX0_shared_11 : decode cX0_shared 11 = .ok (.lstore_n 2, 1) := by decide +kernel
theorem dX0_shared_12 : decode cX0_shared 12 = .ok (.aload_n 0, 1) := by decide +kernel
theorem dX0_shared_13 : decode cX0_shared 13 = .ok (.getfield 13, 3) := by decide +kernel
theorem dX0_shared_16 : decode cX0_shared 16 = .ok (.aload_n 1, 1) := by decide +kernel
theorem dX0_shared_17 : decode cX0_shared 17 = .ok (.getfield 13, 3) := by decide +kernel
theorem dX0_shared_20 : decode cX0_shared 20 = .ok (.invokestatic 26, 3) := by decide +kernel
theorem dX0_shared_23 : decode cX0_shared 23 = .ok (.lstore 4, 2) := by decide +kernel
theorem dX0_shared_25 : decode cX0_shared 25 = .ok (.aload_n 0, 1) := by decide +kernel
theorem dX0_shared_26 : decode cX0_shared 26 = .ok (.getfield 7, 3) := by decide +kernel
theorem dX0_shared_29 : decode cX0_shared 29 = .ok (.aload_n 0, 1) := by decide +kernel
theorem dX0_shared_30 : decode cX0_shared 30 = .ok (.getfield 16, 3) := by decide +kernel
theorem dX0_shared_33 : decode cX0_shared 33 = .ok (.i2l, 1) := by decide +kernel
theorem dX0_shared_34 : decode cX0_shared 34 = .ok (.ladd, 1) := by decide +kernel
theorem dX0_shared_35 : decode cX0_shared 35 = .ok (.aload_n 1, 1) := by decide +kernel
theorem dX0_shared_36 : decode cX0_shared 36 = .ok (.getfield 7, 3) := by decide +kernel
theorem dX0_shared_39 : decode cX0_shared 39 = .ok (.aload_n 1, 1) := by decide +kernel
theorem dX0_shared_40 : decode cX0_shared 40 = .ok (.getfield 16, 3) := by decide +kernel
theorem dX0_shared_43 : decode cX0_shared 43 = .ok (.i2l, 1) := by decide +kernel
theorem dX0_shared_44 : decode cX0_shared 44 = .ok (.ladd, 1) := by decide +kernel
theorem dX0_shared_45 : decode cX0_shared 45 = .ok (.invokestatic 32, 3) := by decide +kernel
theorem dX0_shared_48 : decode cX0_shared 48 = .ok (.lload_n 2, 1) := by decide +kernel
theorem dX0_shared_49 : decode cX0_shared 49 = .ok (.lsub, 1) := by decide +kernel
theorem dX0_shared_50 : decode cX0_shared 50 = .ok (.lstore 6, 2) := by decide +kernel
theorem dX0_shared_52 : decode cX0_shared 52 = .ok (.aload_n 0, 1) := by decide +kernel
theorem dX0_shared_53 : decode cX0_shared 53 = .ok (.getfield 13, 3) := by decide +kernel
theorem dX0_shared_56 : decode cX0_shared 56 = .ok (.aload_n 0, 1) := by decide +kernel
theorem dX0_shared_57 : decode cX0_shared 57 = .ok (.getfield 20, 3) := by decide +kernel
theorem dX0_shared_60 : decode cX0_shared 60 = .ok (.i2l, 1) := by decide +kernel
theorem dX0_shared_61 : decode cX0_shared 61 = .ok (.ladd, 1) := by decide +kernel
theorem dX0_shared_62 : decode cX0_shared 62 = .ok (.aload_n 1, 1) := by decide +kernel
theorem dX0_shared_63 : decode cX0_shared 63 = .ok (.getfield 13, 3) := by decide +kernel
theorem dX0_shared_66 : decode cX0_shared 66 = .ok (.aload_n 1, 1) := by decide +kernel
theorem dX0_shared_67 : decode cX0_shared 67 = .ok (.getfield 20, 3) := by decide +kernel
theorem dX0_shared_70 : decode cX0_shared 70 = .ok (.i2l, 1) := by decide +kernel
theorem dX0_shared_71 : decode cX0_shared 71 = .ok (.ladd, 1) := by decide +kernel
theorem dX0_shared_72 : decode cX0_shared 72 = .ok (.invokestatic 32, 3) := by decide +kernel
theorem dX0_shared_75 : decode cX0_shared 75 = .ok (.lload 4, 2) := by decide +kernel
theorem dX0_shared_77 : decode cX0_shared 77 = .ok (.lsub, 1) := by decide +kernel
theorem dX0_shared_78 : decode cX0_shared 78 = .ok (.lstore 8, 2) := by decide +kernel
theorem dX0_shared_80 : decode cX0_shared 80 = .ok (.lload 6, 2) := by decide +kernel
theorem dX0_shared_82 : decode cX0_shared 82 = .ok (.lconst 0, 1) := by decide +kernel
theorem dX0_shared_83 : decode cX0_shared 83 = .ok (.lcmp, 1) := by decide +kernel
theorem dX0_shared_84 : decode cX0_shared 84 = .ok (.ifCond .le 10, 3) := by decide +kernel
theorem dX0_shared_87 : decode cX0_shared 87 = .ok (.lload 8, 2) := by decide +kernel
theorem dX0_shared_89 : decode cX0_shared 89 = .ok (.lconst 0, 1) := by decide +kernel
theorem dX0_shared_90 : decode cX0_shared 90 = .ok (.lcmp, 1) := by decide +kernel
theorem dX0_shared_91 : decode cX0_shared 91 = .ok (.ifCond .gt 15, 3) := by decide +kernel
theorem dX0_shared_94 : decode cX0_shared 94 = .ok (.new 8, 3) := by decide +kernel
theorem dX0_shared_97 : decode cX0_shared 97 = .ok (.dup, 1) := by decide +kernel
theorem dX0_shared_98 : decode cX0_shared 98 = .ok (.lconst 0, 1) := by decide +kernel
theorem dX0_shared_99 : decode cX0_shared 99 = .ok (.lconst 0, 1) := by decide +kernel
theorem dX0_shared_100 : decode cX0_shared 100 = .ok (.iconst 0, 1) := by decide +kernel
theorem dX0_shared_101 : decode cX0_shared 101 = .ok (.iconst 0, 1) := by decide +kernel
theorem dX0_shared_102 : decode cX0_shared 102 = .ok (.invokespecial 23, 3) := by decide +kernel
theorem dX0_shared_105 : decode cX0_shared 105 = .ok (.areturn, 1) := by decide +kernel
theorem dX0_shared_106 : decode cX0_shared 106 = .ok (.new 8, 3) := by decide +kernel
theorem dX0_shared_109 : decode cX0_shared 109 = .ok (.dup, 1) := by decide +kernel
theorem dX0_shared_110 : decode cX0_shared 110 = .ok (.lload_n 2, 1) := by decide +kernel
theorem dX0_shared_111 : decode cX0_shared 111 = .ok (.lload 4, 2) := by decide +kernel
theorem dX0_shared_113 : decode cX0_shared 113 = .ok (.lload 6, 2) := by decide +kernel
theorem dX0_shared_115 : decode cX0_shared 115 = .ok (.l2i, 1) := by decide +kernel
theorem dX0_shared_116 : decode cX0_shared 116 = .ok (.lload 8, 2) := by decide +kernel
theorem dX0_shared_118 : decode cX0_shared 118 = .ok (.l2i, 1) := by decide +kernel
theorem dX0_shared_119 : decode cX0_shared 119 = .ok (.invokespecial 23, 3) := by decide +kernel
theorem dX0_shared_122 : decode cX0_shared 122 = .ok (.areturn, 1) := by decide +kernel
set_option maxRecDepth 100000 in
theorem ggX1_init_X0_shared : GoodIn wsX1_init wsX0_shared := goodIn_r _ [16, 17, 18, 19, 20, 21, 22, 23, 24, 25, 26, 27, 28, 29, 15, 30, 31, 32, 33, 2, 3, 38, 39, 40, 41] rfl (by decide +kernel)
set_option maxRecDepth 20000 in
theorem gX1_init_X0_shared : GoodIn wsX1_init (wsV RX1 31 RX0 yX0_shared wsX0_shared) := goodIn_app (goodIn_of _ (by decide +kernel)) ggX1_init_X0_shared
set_option maxRecDepth 100000 in
theorem ggX1_init_X0_movedBy : GoodIn wsX1_init wsX0_movedBy := goodIn_r _ [37, 28, 29, 15, 17, 22, 23, 27, 30, 31, 32, 33, 2, 3, 38, 39, 40, 41] rfl (by decide +kernel)
set_option maxRecDepth 20000 in
theorem gX1_init_X0_movedBy : GoodIn wsX1_init (wsV RX1 35 RX0 yX0_movedBy wsX0_movedBy) := goodIn_app (goodIn_of _ (by decide +kernel)) ggX1_init_X0_movedBy
theorem dX1_init_0 : decode cX1_init 0 = .ok (.aload_n 0, 1) := by decide +kernel
theorem dX1_init_1 : decode cX1_init 1 = .ok (.invokespecial 1, 3) := by decide +kernel
theorem dX1_init_4 : decode cX1_init 4 = .ok (.iload 4, 2) := by decide +kernel
theorem dX1_init_6 : decode cX1_init 6 = .ok (.i2l, 1) := by decide +kernel
theorem dX1_init_7 : decode cX1_init 7 = .ok (.aload_n 2, 1) := by decide +kernel
theorem dX1_init_8 : decode cX1_init 8 = .ok (.getfield 7, 3) := by decide +kernel
theorem dX1_init_11 : decode cX1_init 11 = .ok (.lsub, 1) := by decide +kernel
theorem dX1_init_12 : decode cX1_init 12 = .ok (.lstore 6, 2) := by decide +kernel
theorem dX1_init_14 : decode cX1_init 14 = .ok (.iload 5, 2) := by decide +kernel
theorem dX1_init_16 : decode cX1_init 16 = .ok (.i2l, 1) := by decide +kernel
theorem dX1_init_17 : decode cX1_init 17 = .ok (.aload_n 2, 1) := by decide +kernel
theorem dX1_init_18 : decode cX1_init 18 = .ok (.getfield 13, 3) := by decide +kernel
theorem dX1_init_21 : decode cX1_init 21 = .ok (.lsub, 1) := by decide +kernel
theorem dX1_init_22 : decode cX1_init 22 = .ok (.lstore 8, 2) := by decide +kernel
theorem dX1_init_24 : decode cX1_init 24 = .ok (.aload_n 0, 1) := by decide +kernel
theorem dX1_init_25 : decode cX1_init 25 = .ok (.aload_n 1, 1) := by decide +kernel
theorem dX1_init_26 : decode cX1_init 26 = .ok (.putfield 16, 3) := by decide +kernel
theorem dX1_init_29 : decode cX1_init 29 = .ok (.aload_n 0, 1) := by decide +kernel
theorem dX1_init_30 : decode cX1_init 30 = .ok (.aload_n 3, 1) := by decide +kernel
theorem dX1_init_31 : decode cX1_init 31 = .ok (.putfield 22, 3) := by decide +kernel
theorem dX1_init_34 : decode cX1_init 34 = .ok (.aload_n 0, 1) := by decide +kernel
theorem dX1_init_35 : decode cX1_init 35 = .ok (.aload_n 1, 1) := by decide +kernel
theorem dX1_init_36 : decode cX1_init 36 = .ok (.getfield 25, 3) := by decide +kernel
theorem dX1_init_39 : decode cX1_init 39 = .ok (.aload_n 2, 1) := by decide +kernel
theorem dX1_init_40 : decode cX1_init 40 = .ok (.invokevirtual 31, 3) := by decide +kernel
theorem dX1_init_43 : decode cX1_init 43 = .ok (.lload 6, 2) := by decide +kernel
theorem dX1_init_45 : decode cX1_init 45 = .ok (.lload 8, 2) := by decide +kernel
theorem dX1_init_47 : decode cX1_init 47 = .ok (.invokevirtual 35, 3) := by decide +kernel
theorem dX1_init_50 : decode cX1_init 50 = .ok (.aload_n 3, 1) := by decide +kernel
theorem dX1_init_51 : decode cX1_init 51 = .ok (.getfield 39, 3) := by decide +kernel
theorem dX1_init_54 : decode cX1_init 54 = .ok (.invokevirtual 31, 3) := by decide +kernel
theorem dX1_init_57 : decode cX1_init 57 = .ok (.putfield 42, 3) := by decide +kernel
theorem dX1_init_60 : decode cX1_init 60 = .ok (.aload_n 0, 1) := by decide +kernel
theorem dX1_init_61 : decode cX1_init 61 = .ok (.aload_n 0, 1) := by decide +kernel
theorem dX1_init_62 : decode cX1_init 62 = .ok (.getfield 42, 3) := by decide +kernel
theorem dX1_init_65 : decode cX1_init 65 = .ok (.lload 6, 2) := by decide +kernel
theorem dX1_init_67 : decode cX1_init 67 = .ok (.lneg, 1) := by decide +kernel
theorem dX1_init_68 : decode cX1_init 68 = .ok (.lload 8, 2) := by decide +kernel
theorem dX1_init_70 : decode cX1_init 70 = .ok (.lneg, 1) := by decide +kernel
theorem dX1_init_71 : decode cX1_init 71 = .ok (.invokevirtual 35, 3) := by decide +kernel
theorem dX1_init_74 : decode cX1_init 74 = .ok (.putfield 45, 3) := by decide +kernel
theorem dX1_init_77 : decode cX1_init 77 = .ok (.return_, 1) := by decide +kernel
theorem dX1_keepsDepth_0 : decode cX1_keepsDepth 0 = .ok (.aload_n 0, 1) := by decide +kernel
theorem dX1_keepsDepth_1 : decode cX1_keepsDepth 1 = .ok (.getfield 16, 3) := by decide +kernel
theorem dX1_keepsDepth_4 : decode cX1_keepsDepth 4 = .ok (.getfield 48, 3) := by decide +kernel
theorem dX1_keepsDepth_7 : decode cX1_keepsDepth 7 = .ok (.aload_n 0, 1) := by decide +kernel
theorem dX1_keepsDepth_8 : decode cX1_keepsDepth 8 = .ok (.getfield 22, 3) := by decide +kernel
theorem dX1_keepsDepth_11 : decode cX1_keepsDepth 11 = .ok (.getfield 48, 3) := by decide +kernel
theorem dX1_keepsDepth_14 : decode cX1_keepsDepth 14 = .ok (.if_icmp .ne 7, 3) := by decide +kernel
theorem dX1_keepsDepth_17 : decode cX1_keepsDepth 17 = .ok (.iconst 1, 1) := by decide +kernel
theorem dX1_keepsDepth_18 : decode cX1_keepsDepth 18 = .ok (.goto 4, 3) := by decide +kernel
theorem dX1_keepsDepth_21 : decode cX1_keepsDepth 21 = .ok (.iconst 0, 1) := by decide +kernel
theorem dX1_keepsDepth_22 : decode cX1_keepsDepth 22 = .ok (.ireturn, 1) := by decide +kernel
theorem dX2_init_0 : decode cX2_init 0 = .ok (.aload_n 0, 1) := by decide +kernel
theorem dX2_init_1 : decode cX2_init 1 = .ok (.invokespecial 3, 3) := by decide +kernel
theorem dX2_init_4 : decode cX2_init 4 = .ok (.aload_n 0, 1) := by decide +kernel
theorem dX2_init_5 : decode cX2_init 5 = .ok (.sipush 5000, 3) := by decide +kernel
theorem dX2_init_8 : decode cX2_init 8 = .ok (.newarray .int, 2) := by decide +kernel
theorem dX2_init_10 : decode cX2_init 10 = .ok (.putfield 9, 3) := by decide +kernel
theorem dX2_init_13 : decode cX2_init 13 = .ok (.aload_n 0, 1) := by decide +kernel
theorem dX2_init_14 : decode cX2_init 14 = .ok (.iconst 0, 1) := by decide +kernel
theorem dX2_init_15 : decode cX2_init 15 = .ok (.putfield 15, 3) := by decide +kernel
theorem dX2_init_18 : decode cX2_init 18 = .ok (.aload_n 0, 1) := by decide +kernel
theorem dX2_init_19 : decode cX2_init 19 = .ok (.iconst 0, 1) := by decide +kernel
theorem dX2_init_20 : decode cX2_init 20 = .ok (.putfield 19, 3) := by decide +kernel
theorem dX2_init_23 : decode cX2_init 23 = .ok (.return_, 1) := by decide +kernel
theorem dX2_empty_0 : decode cX2_empty 0 = .ok (.aload_n 0, 1) := by decide +kernel
theorem dX2_empty_1 : decode cX2_empty 1 = .ok (.iconst 0, 1) := by decide +kernel
theorem dX2_empty_2 : decode cX2_empty 2 = .ok (.putfield 15, 3) := by decide +kernel
theorem dX2_empty_5 : decode cX2_empty 5 = .ok (.aload_n 0, 1) := by decide +kernel
theorem dX2_empty_6 : decode cX2_empty 6 = .ok (.iconst 0, 1) := by decide +kernel
theorem dX2_empty_7 : decode cX2_empty 7 = .ok (.putfield 19, 3) := by decide +kernel
theorem dX2_empty_10 : decode cX2_empty 10 = .ok (.return_, 1) := by decide +kernel
theorem dX2_append_0 : decode cX2_append 0 = .ok (.aload_n 0, 1) := by decide +kernel
theorem dX2_append_1 : decode cX2_append 1 = .ok (.getfield 15, 3) := by decide +kernel
theorem dX2_append_4 : decode cX2_append 4 = .ok (.sipush 5000, 3) := by decide +kernel
theorem dX2_append_7 : decode cX2_append 7 = .ok (.if_icmp .lt 9, 3) := by decide +kernel
theorem dX2_append_10 : decode cX2_append 10 = .ok (.aload_n 0, 1) := by decide +kernel
theorem dX2_append_11 : decode cX2_append 11 = .ok (.iconst 1, 1) := by decide +kernel
theorem dX2_append_12 : decode cX2_append 12 = .ok (.putfield 19, 3) := by decide +kernel
theorem dX2_append_15 : decode cX2_append 15 = .ok (.return_, 1) := by decide +kernel
theorem dX2_append_16 : decode cX2_append 16 = .ok (.aload_n 0, 1) := by decide +kernel
theorem dX2_append_17 : decode cX2_append 17 = .ok (.getfield 9, 3) := by decide +kernel
theorem dX2_append_20 : decode cX2_append 20 = .ok (.aload_n 0, 1) := by decide +kernel
theorem dX2_append_21 : decode cX2_append 21 = .ok (.getfield 15, 3) := by decide +kernel
theorem dX2_append_24 : decode cX2_append 24 = .ok (.iload_n 1, 1) := by decide +kernel
theorem dX2_append_25 : decode cX2_append 25 = .ok (.iastore, 1) := by decide +kernel
theorem dX2_append_26 : decode cX2_append 26 = .ok (.aload_n 0, 1) := by decide +kernel
theorem dX2_append_27 : decode cX2_append 27 = .ok (.dup, 1) := by decide +kernel
theorem dX2_append_28 : decode cX2_append 28 = .ok (.getfield 15, 3) := by decide +kernel
theorem dX2_append_31 : decode cX2_append 31 = .ok (.iconst 1, 1) := by decide +kernel
theorem dX2_append_32 : decode cX2_append 32 = .ok (.iadd, 1) := by decide +kernel
theorem dX2_append_33 : decode cX2_append 33 = .ok (.putfield 15, 3) := by decide +kernel
theorem dX2_append_36 : decode cX2_append 36 = .ok (.return_, 1) := by decide +kernel
set_option maxRecDepth 100000 in
theorem ggX2_firstWrong_X2_stretchLength : GoodIn wsX2_firstWrong wsX2_stretchLength := goodIn_r _ [6] rfl (by decide +kernel)
set_option maxRecDepth 20000 in
theorem gX2_firstWrong_X2_stretchLength : GoodIn wsX2_firstWrong (va_wsS RX2 23 yX2_stretchLength wsX2_stretchLength) := goodIn_app (goodIn_of _ (by decide +kernel)) ggX2_firstWrong_X2_stretchLength
set_option maxRecDepth 100000 in
theorem ggX2_firstWrong_X2_isStretch : GoodIn wsX2_firstWrong wsX2_isStretch := goodIn_r _ [9, 3, 4, 5, 6] rfl (by decide +kernel)
set_option maxRecDepth 20000 in
theorem gX2_firstWrong_X2_isStretch : GoodIn wsX2_firstWrong (va_wsS RX2 27 yX2_isStretch wsX2_isStretch) := goodIn_app (goodIn_of _ (by decide +kernel)) ggX2_firstWrong_X2_isStretch
set_option maxRecDepth 100000 in
theorem ggX2_firstWrong_X2_dotBytes : GoodIn wsX2_firstWrong wsX2_dotBytes := goodIn_r _ [12, 3, 4, 5, 6] rfl (by decide +kernel)
set_option maxRecDepth 20000 in
theorem gX2_firstWrong_X2_dotBytes : GoodIn wsX2_firstWrong (va_wsS RX2 31 yX2_dotBytes wsX2_dotBytes) := goodIn_app (goodIn_of _ (by decide +kernel)) ggX2_firstWrong_X2_dotBytes
theorem dX2_firstWrong_0 : decode cX2_firstWrong 0 = .ok (.iconst 0, 1) := by decide +kernel
theorem dX2_firstWrong_1 : decode cX2_firstWrong 1 = .ok (.istore_n 2, 1) := by decide +kernel
theorem dX2_firstWrong_2 : decode cX2_firstWrong 2 = .ok (.iconst 0, 1) := by decide +kernel
theorem dX2_firstWrong_3 : decode cX2_firstWrong 3 = .ok (.istore_n 3, 1) := by decide +kernel
theorem dX2_firstWrong_4 : decode cX2_firstWrong 4 = .ok (.iconst 0, 1) := by decide +kernel
theorem dX2_firstWrong_5 : decode cX2_firstWrong 5 = .ok (.istore 4, 2) := by decide +kernel
theorem dX2_firstWrong_7 : decode cX2_firstWrong 7 = .ok (.iconst 0, 1) := by decide +kernel
theorem dX2_firstWrong_8 : decode cX2_firstWrong 8 = .ok (.istore 5, 2) := by decide +kernel
theorem dX2_firstWrong_10 : decode cX2_firstWrong 10 = .ok (.iconst 0, 1) := by decide +kernel
theorem dX2_firstWrong_11 : decode cX2_firstWrong 11 = .ok (.istore 6, 2) := by decide +kernel
theorem dX2_firstWrong_13 : decode cX2_firstWrong 13 = .ok (.iload 6, 2) := by decide +kernel
theorem dX2_firstWrong_15 : decode cX2_firstWrong 15 = .ok (.aload_n 0, 1) := by decide +kernel
theorem dX2_firstWrong_16 : decode cX2_firstWrong 16 = .ok (.getfield 15, 3) := by decide +kernel
theorem dX2_firstWrong_19 : decode cX2_firstWrong 19 = .ok (.if_icmp .ge 104, 3) := by decide +kernel
theorem dX2_firstWrong_22 : decode cX2_firstWrong 22 = .ok (.aload_n 0, 1) := by decide +kernel
theorem dX2_firstWrong_23 : decode cX2_firstWrong 23 = .ok (.getfield 9, 3) := by decide +kernel
theorem dX2_firstWrong_26 : decode cX2_firstWrong 26 = .ok (.iload 6, 2) := by decide +kernel
theorem dX2_firstWrong_28 : decode cX2_firstWrong 28 = .ok (.iaload, 1) := by decide +kernel
theorem dX2_firstWrong_29 : decode cX2_firstWrong 29 = .ok (.istore 7, 2) := by decide +kernel
theorem dX2_firstWrong_31 : decode cX2_firstWrong 31 = .ok (.iload 4, 2) := by decide +kernel
theorem dX2_firstWrong_33 : decode cX2_firstWrong 33 = .ok (.ifCond .le 20, 3) := by decide +kernel
theorem dX2_firstWrong_36 : decode cX2_firstWrong 36 = .ok (.iload 7, 2) := by decide +kernel
theorem dX2_firstWrong_38 : decode cX2_firstWrong 38 = .ok (.iload_n 1, 1) := by decide +kernel
theorem dX2_firstWrong_39 : decode cX2_firstWrong 39 = .ok (.if_icmp .le 8, 3) := by decide +kernel
theorem dX2_firstWrong_42 : decode cX2_firstWrong 42 = .ok (.iload 6, 2) := by decide +kernel
theorem dX2_firstWrong_44 : decode cX2_firstWrong 44 = .ok (.iconst 1, 1) := by decide +kernel
theorem dX2_firstWrong_45 : decode cX2_firstWrong 45 = .ok (.iadd, 1) := by decide +kernel
theorem dX2_firstWrong_46 : decode cX2_firstWrong 46 = .ok (.ireturn, 1) := by decide +kernel
theorem dX2_firstWrong_47 : decode cX2_firstWrong 47 = .ok (.iinc 4 (-1), 3) := by decide +kernel
theorem dX2_firstWrong_50 : decode cX2_firstWrong 50 = .ok (.goto 67, 3) := by decide +kernel
theorem dX2_firstWrong_53 : decode cX2_firstWrong 53 = .ok (.iload_n 2, 1) := by decide +kernel
theorem dX2_firstWrong_54 : decode cX2_firstWrong 54 = .ok (.bipush 64, 2) := by decide +kernel
theorem dX2_firstWrong_56 : decode cX2_firstWrong 56 = .ok (.if_icmp .ne 8, 3) := by decide +kernel
theorem dX2_firstWrong_59 : decode cX2_firstWrong 59 = .ok (.iload 6, 2) := by decide +kernel
theorem dX2_firstWrong_61 : decode cX2_firstWrong 61 = .ok (.iconst 1, 1) := by decide +kernel
theorem dX2_firstWrong_62 : decode cX2_firstWrong 62 = .ok (.iadd, 1) := by decide +kernel
theorem dX2_firstWrong_63 : decode cX2_firstWrong 63 = .ok (.ireturn, 1) := by decide +kernel
theorem dX2_firstWrong_64 : decode cX2_firstWrong 64 = .ok (.iload 7, 2) := by decide +kernel
theorem dX2_firstWrong_66 : decode cX2_firstWrong 66 = .ok (.ifCond .ne 14, 3) := by decide +kernel
theorem dX2_firstWrong_69 : decode cX2_firstWrong 69 = .ok (.iinc 2 1, 3) := by decide +kernel
theorem dX2_firstWrong_72 : decode cX2_firstWrong 72 = .ok (.iconst 0, 1) := by decide +kernel
theorem dX2_firstWrong_73 : decode cX2_firstWrong 73 = .ok (.istore_n 3, 1) := by decide +kernel
theorem dX2_firstWrong_74 : decode cX2_firstWrong 74 = .ok (.iconst 0, 1) := by decide +kernel
theorem dX2_firstWrong_75 : decode cX2_firstWrong 75 = .ok (.istore 5, 2) := by decide +kernel
theorem dX2_firstWrong_77 : decode cX2_firstWrong 77 = .ok (.goto 40, 3) := by decide +kernel
theorem dX2_firstWrong_80 : decode cX2_firstWrong 80 = .ok (.iload_n 3, 1) := by decide +kernel
theorem dX2_firstWrong_81 : decode cX2_firstWrong 81 = .ok (.iload 7, 2) := by decide +kernel
theorem dX2_firstWrong_83 : decode cX2_firstWrong 83 = .ok (.invokestatic 23, 3) := by decide +kernel
theorem dX2_firstWrong_86 : decode cX2_firstWrong 86 = .ok (.iadd, 1) := by decide +kernel
theorem dX2_firstWrong_87 : decode cX2_firstWrong 87 = .ok (.istore_n 3, 1) := by decide +kernel
theorem dX2_firstWrong_88 : decode cX2_firstWrong 88 = .ok (.iload 7, 2) := by decide +kernel
theorem dX2_firstWrong_90 : decode cX2_firstWrong 90 = .ok (.invokestatic 27, 3) := by decide +kernel
theorem dX2_firstWrong_93 : decode cX2_firstWrong 93 = .ok (.ifCond .eq 9, 3) := by decide +kernel
theorem dX2_firstWrong_96 : decode cX2_firstWrong 96 = .ok (.iload_n 3, 1) := by decide +kernel
theorem dX2_firstWrong_97 : decode cX2_firstWrong 97 = .ok (.bipush 64, 2) := by decide +kernel
theorem dX2_firstWrong_99 : decode cX2_firstWrong 99 = .ok (.if_icmp .le 8, 3) := by decide +kernel
theorem dX2_firstWrong_102 : decode cX2_firstWrong 102 = .ok (.iload 6, 2) := by decide +kernel
theorem dX2_firstWrong_104 : decode cX2_firstWrong 104 = .ok (.iconst 1, 1) := by decide +kernel
theorem dX2_firstWrong_105 : decode cX2_firstWrong 105 = .ok (.iadd, 1) := by decide +kernel
theorem dX2_firstWrong_106 : decode cX2_firstWrong 106 = .ok (.ireturn, 1) := by decide +kernel
theorem dX2_firstWrong_107 : decode cX2_firstWrong 107 = .ok (.iload 7, 2) := by decide +kernel
theorem dX2_firstWrong_109 : decode cX2_firstWrong 109 = .ok (.invokestatic 31, 3) := by decide +kernel
theorem dX2_firstWrong_112 : decode cX2_firstWrong 112 = .ok (.istore 4, 2) := by decide +kernel
theorem dX2_firstWrong_114 : decode cX2_firstWrong 114 = .ok (.iconst 1, 1) := by decide +kernel
theorem dX2_firstWrong_115 : decode cX2_firstWrong 115 = .ok (.istore 5, 2) := by decide +kernel
theorem dX2_firstWrong_117 : decode cX2_firstWrong 117 = .ok (.iinc 6 1, 3) := by decide +kernel
theorem dX2_firstWrong_120 : decode cX2_firstWrong 120 = .ok (.goto (-107), 3) := by decide +kernel
theorem dX2_firstWrong_123 : decode cX2_firstWrong 123 = .ok (.iload 5, 2) := by decide +kernel
theorem dX2_firstWrong_125 : decode cX2_firstWrong 125 = .ok (.ifCond .eq 12, 3) := by decide +kernel
theorem dX2_firstWrong_128 : decode cX2_firstWrong 128 = .ok (.aload_n 0, 1) := by decide +kernel
theorem dX2_firstWrong_129 : decode cX2_firstWrong 129 = .ok (.getfield 15, 3) := by decide +kernel
theorem dX2_firstWrong_132 : decode cX2_firstWrong 132 = .ok (.iconst 1, 1) := by decide +kernel
theorem dX2_firstWrong_133 : decode cX2_firstWrong 133 = .ok (.iadd, 1) := by decide +kernel
theorem dX2_firstWrong_134 : decode cX2_firstWrong 134 = .ok (.goto 4, 3) := by decide +kernel
theorem dX2_firstWrong_137 : decode cX2_firstWrong 137 = .ok (.iconst 0, 1) := by decide +kernel
theorem dX2_firstWrong_138 : decode cX2_firstWrong 138 = .ok (.ireturn, 1) := by decide +kernel
set_option maxRecDepth 100000 in
theorem ggX2_paint_X2_paintDots : GoodIn wsX2_paint wsX2_paintDots := goodIn_r _ [6, 7, 8, 9, 10, 11, 12, 13, 14, 15, 16, 17, 18, 19, 20, 21, 22, 23, 24, 25, 26, 27, 28, 38, 39, 40, 41, 42, 43, 44, 45, 46] rfl (by decide +kernel)
set_option maxRecDepth 20000 in
theorem gX2_paint_X2_paintDots : GoodIn wsX2_paint (va_wsS RX2 34 yX2_paintDots wsX2_paintDots) := goodIn_app (goodIn_of _ (by decide +kernel)) ggX2_paint_X2_paintDots
set_option maxRecDepth 100000 in
theorem ggX2_paint_X2_dotBytes : GoodIn wsX2_paint wsX2_dotBytes := goodIn_r _ [31, 32, 33, 5, 34] rfl (by decide +kernel)
set_option maxRecDepth 20000 in
theorem gX2_paint_X2_dotBytes : GoodIn wsX2_paint (va_wsS RX2 31 yX2_dotBytes wsX2_dotBytes) := goodIn_app (goodIn_of _ (by decide +kernel)) ggX2_paint_X2_dotBytes
set_option maxRecDepth 100000 in
theorem ggX2_paint_X2_stretchLength : GoodIn wsX2_paint wsX2_stretchLength := goodIn_r _ [34] rfl (by decide +kernel)
set_option maxRecDepth 20000 in
theorem gX2_paint_X2_stretchLength : GoodIn wsX2_paint (va_wsS RX2 23 yX2_stretchLength wsX2_stretchLength) := goodIn_app (goodIn_of _ (by decide +kernel)) ggX2_paint_X2_stretchLength
theorem dX2_paint_0 : decode cX2_paint 0 = .ok (.iconst 0, 1) := by decide +kernel
theorem dX2_paint_1 : decode cX2_paint 1 = .ok (.istore 4, 2) := by decide +kernel
theorem dX2_paint_3 : decode cX2_paint 3 = .ok (.iconst 0, 1) := by decide +kernel
theorem dX2_paint_4 : decode cX2_paint 4 = .ok (.istore 5, 2) := by decide +kernel
theorem dX2_paint_6 : decode cX2_paint 6 = .ok (.iconst 0, 1) := by decide +kernel
theorem dX2_paint_7 : decode cX2_paint 7 = .ok (.istore 6, 2) := by decide +kernel
theorem dX2_paint_9 : decode cX2_paint 9 = .ok (.iconst 0, 1) := by decide +kernel
theorem dX2_paint_10 : decode cX2_paint 10 = .ok (.istore 7, 2) := by decide +kernel
theorem dX2_paint_12 : decode cX2_paint 12 = .ok (.iconst 0, 1) := by decide +kernel
theorem dX2_paint_13 : decode cX2_paint 13 = .ok (.istore 8, 2) := by decide +kernel
theorem dX2_paint_15 : decode cX2_paint 15 = .ok (.iload 8, 2) := by decide +kernel
theorem dX2_paint_17 : decode cX2_paint 17 = .ok (.aload_n 0, 1) := by decide +kernel
theorem dX2_paint_18 : decode cX2_paint 18 = .ok (.getfield 15, 3) := by decide +kernel
theorem dX2_paint_21 : decode cX2_paint 21 = .ok (.if_icmp .ge 113, 3) := by decide +kernel
theorem dX2_paint_24 : decode cX2_paint 24 = .ok (.aload_n 0, 1) := by decide +kernel
theorem dX2_paint_25 : decode cX2_paint 25 = .ok (.getfield 9, 3) := by decide +kernel
theorem dX2_paint_28 : decode cX2_paint 28 = .ok (.iload 8, 2) := by decide +kernel
theorem dX2_paint_30 : decode cX2_paint 30 = .ok (.iaload, 1) := by decide +kernel
theorem dX2_paint_31 : decode cX2_paint 31 = .ok (.istore 9, 2) := by decide +kernel
theorem dX2_paint_33 : decode cX2_paint 33 = .ok (.iload 6, 2) := by decide +kernel
theorem dX2_paint_35 : decode cX2_paint 35 = .ok (.ifCond .le 36, 3) := by decide +kernel
theorem dX2_paint_38 : decode cX2_paint 38 = .ok (.aload_n 1, 1) := by decide +kernel
theorem dX2_paint_39 : decode cX2_paint 39 = .ok (.iload_n 2, 1) := by decide +kernel
theorem dX2_paint_40 : decode cX2_paint 40 = .ok (.i2l, 1) := by decide +kernel
theorem dX2_paint_41 : decode cX2_paint 41 = .ok (.iload 5, 2) := by decide +kernel
theorem dX2_paint_43 : decode cX2_paint 43 = .ok (.i2l, 1) := by decide +kernel
theorem dX2_paint_44 : decode cX2_paint 44 = .ok (.ladd, 1) := by decide +kernel
theorem dX2_paint_45 : decode cX2_paint 45 = .ok (.iload_n 3, 1) := by decide +kernel
theorem dX2_paint_46 : decode cX2_paint 46 = .ok (.i2l, 1) := by decide +kernel
theorem dX2_paint_47 : decode cX2_paint 47 = .ok (.iload 4, 2) := by decide +kernel
theorem dX2_paint_49 : decode cX2_paint 49 = .ok (.i2l, 1) := by decide +kernel
theorem dX2_paint_50 : decode cX2_paint 50 = .ok (.ladd, 1) := by decide +kernel
theorem dX2_paint_51 : decode cX2_paint 51 = .ok (.iload 7, 2) := by decide +kernel
theorem dX2_paint_53 : decode cX2_paint 53 = .ok (.iload 9, 2) := by decide +kernel
theorem dX2_paint_55 : decode cX2_paint 55 = .ok (.invokestatic 34, 3) := by decide +kernel
theorem dX2_paint_58 : decode cX2_paint 58 = .ok (.iload 5, 2) := by decide +kernel
theorem dX2_paint_60 : decode cX2_paint 60 = .ok (.iload 7, 2) := by decide +kernel
theorem dX2_paint_62 : decode cX2_paint 62 = .ok (.iadd, 1) := by decide +kernel
theorem dX2_paint_63 : decode cX2_paint 63 = .ok (.istore 5, 2) := by decide +kernel
theorem dX2_paint_65 : decode cX2_paint 65 = .ok (.iinc 6 (-1), 3) := by decide +kernel
theorem dX2_paint_68 : decode cX2_paint 68 = .ok (.goto 60, 3) := by decide +kernel
theorem dX2_paint_71 : decode cX2_paint 71 = .ok (.iload 9, 2) := by decide +kernel
theorem dX2_paint_73 : decode cX2_paint 73 = .ok (.ifCond .ne 12, 3) := by decide +kernel
theorem dX2_paint_76 : decode cX2_paint 76 = .ok (.iinc 4 1, 3) := by decide +kernel
theorem dX2_paint_79 : decode cX2_paint 79 = .ok (.iconst 0, 1) := by decide +kernel
theorem dX2_paint_80 : decode cX2_paint 80 = .ok (.istore 5, 2) := by decide +kernel
theorem dX2_paint_82 : decode cX2_paint 82 = .ok (.goto 46, 3) := by decide +kernel
theorem dX2_paint_85 : decode cX2_paint 85 = .ok (.iload 9, 2) := by decide +kernel
theorem dX2_paint_87 : decode cX2_paint 87 = .ok (.bipush 64, 2) := by decide +kernel
theorem dX2_paint_89 : decode cX2_paint 89 = .ok (.if_icmp .ge 13, 3) := by decide +kernel
theorem dX2_paint_92 : decode cX2_paint 92 = .ok (.iload 5, 2) := by decide +kernel
theorem dX2_paint_94 : decode cX2_paint 94 = .ok (.iload 9, 2) := by decide +kernel
theorem dX2_paint_96 : decode cX2_paint 96 = .ok (.iadd, 1) := by decide +kernel
theorem dX2_paint_97 : decode cX2_paint 97 = .ok (.istore 5, 2) := by decide +kernel
theorem dX2_paint_99 : decode cX2_paint 99 = .ok (.goto 29, 3) := by decide +kernel
theorem dX2_paint_102 : decode cX2_paint 102 = .ok (.iload 9, 2) := by decide +kernel
theorem dX2_paint_104 : decode cX2_paint 104 = .ok (.invokestatic 31, 3) := by decide +kernel
theorem dX2_paint_107 : decode cX2_paint 107 = .ok (.istore 6, 2) := by decide +kernel
theorem dX2_paint_109 : decode cX2_paint 109 = .ok (.iload 9, 2) := by decide +kernel
theorem dX2_paint_111 : decode cX2_paint 111 = .ok (.sipush 128, 3) := by decide +kernel
theorem dX2_paint_114 : decode cX2_paint 114 = .ok (.if_icmp .ge 7, 3) := by decide +kernel
theorem dX2_paint_117 : decode cX2_paint 117 = .ok (.iconst 1, 1) := by decide +kernel
theorem dX2_paint_118 : decode cX2_paint 118 = .ok (.goto 8, 3) := by decide +kernel
theorem dX2_paint_121 : decode cX2_paint 121 = .ok (.iload 9, 2) := by decide +kernel
theorem dX2_paint_123 : decode cX2_paint 123 = .ok (.invokestatic 23, 3) := by decide +kernel
theorem dX2_paint_126 : decode cX2_paint 126 = .ok (.istore 7, 2) := by decide +kernel
theorem dX2_paint_128 : decode cX2_paint 128 = .ok (.iinc 8 1, 3) := by decide +kernel
theorem dX2_paint_131 : decode cX2_paint 131 = .ok (.goto (-116), 3) := by decide +kernel
theorem dX2_paint_134 : decode cX2_paint 134 = .ok (.return_, 1) := by decide +kernel
set_option maxRecDepth 100000 in
theorem ggX2_paintDots_X3_putClipped : GoodIn wsX2_paintDots wsX3_putClipped := goodIn_r _ [5, 6, 7, 8, 9, 10, 11, 12, 13, 14, 15, 16, 17, 18, 19, 4, 20, 21, 22, 23, 24, 25, 26, 27, 28, 29, 30, 31] rfl (by decide +kernel)
set_option maxRecDepth 20000 in
theorem gX2_paintDots_X3_putClipped : GoodIn wsX2_paintDots (wsV RX2 38 RX3 yX3_putClipped wsX3_putClipped) := goodIn_app (goodIn_of _ (by decide +kernel)) ggX2_paintDots_X3_putClipped
theorem dX2_paintDots_0 : decode cX2_paintDots 0 = .ok (.iconst 0, 1) := by decide +kernel
theorem dX2_paintDots_1 : decode cX2_paintDots 1 = .ok (.istore 7, 2) := by decide +kernel
theorem dX2_paintDots_3 : decode cX2_paintDots 3 = .ok (.iload 7, 2) := by decide +kernel
theorem dX2_paintDots_5 : decode cX2_paintDots 5 = .ok (.iload 5, 2) := by decide +kernel
theorem dX2_paintDots_7 : decode cX2_paintDots 7 = .ok (.if_icmp .ge 21, 3) := by decide +kernel
theorem dX2_paintDots_10 : decode cX2_paintDots 10 = .ok (.aload_n 0, 1) := by decide +kernel
theorem dX2_paintDots_11 : decode cX2_paintDots 11 = .ok (.lload_n 1, 1) := by decide +kernel
theorem dX2_paintDots_12 : decode cX2_paintDots 12 = .ok (.iload 7, 2) := by decide +kernel
theorem dX2_paintDots_14 : decode cX2_paintDots 14 = .ok (.i2l, 1) := by decide +kernel
theorem dX2_paintDots_15 : decode cX2_paintDots 15 = .ok (.ladd, 1) := by decide +kernel
theorem dX2_paintDots_16 : decode cX2_paintDots 16 = .ok (.lload_n 3, 1) := by decide +kernel
theorem dX2_paintDots_17 : decode cX2_paintDots 17 = .ok (.iload 6, 2) := by decide +kernel
theorem dX2_paintDots_19 : decode cX2_paintDots 19 = .ok (.invokevirtual 38, 3) := by decide +kernel
theorem dX2_paintDots_22 : decode cX2_paintDots 22 = .ok (.iinc 7 1, 3) := by decide +kernel
theorem dX2_paintDots_25 : decode cX2_paintDots 25 = .ok (.goto (-22), 3) := by decide +kernel
theorem dX2_paintDots_28 : decode cX2_paintDots 28 = .ok (.return_, 1) := by decide +kernel
set_option maxRecDepth 100000 in
theorem ggX2_isStretch_X2_stretchLength : GoodIn wsX2_isStretch wsX2_stretchLength := goodIn_r _ [4] rfl (by decide +kernel)
set_option maxRecDepth 20000 in
theorem gX2_isStretch_X2_stretchLength : GoodIn wsX2_isStretch (va_wsS RX2 23 yX2_stretchLength wsX2_stretchLength) := goodIn_app (goodIn_of _ (by decide +kernel)) ggX2_isStretch_X2_stretchLength
theorem dX2_isStretch_0 : decode cX2_isStretch 0 = .ok (.iload_n 0, 1) := by decide +kernel
theorem dX2_isStretch_1 : decode cX2_isStretch 1 = .ok (.invokestatic 23, 3) := by decide +kernel
theorem dX2_isStretch_4 : decode cX2_isStretch 4 = .ok (.ifCond .le 14, 3) := by decide +kernel
theorem dX2_isStretch_7 : decode cX2_isStretch 7 = .ok (.iload_n 0, 1) := by decide +kernel
theorem dX2_isStretch_8 : decode cX2_isStretch 8 = .ok (.sipush 191, 3) := by decide +kernel
theorem dX2_isStretch_11 : decode cX2_isStretch 11 = .ok (.if_icmp .gt 7, 3) := by decide +kernel
theorem dX2_isStretch_14 : decode cX2_isStretch 14 = .ok (.iconst 1, 1) := by decide +kernel
theorem dX2_isStretch_15 : decode cX2_isStretch 15 = .ok (.goto 4, 3) := by decide +kernel
theorem dX2_isStretch_18 : decode cX2_isStretch 18 = .ok (.iconst 0, 1) := by decide +kernel
theorem dX2_isStretch_19 : decode cX2_isStretch 19 = .ok (.ireturn, 1) := by decide +kernel
theorem dX2_stretchLength_0 : decode cX2_stretchLength 0 = .ok (.iload_n 0, 1) := by decide +kernel
theorem dX2_stretchLength_1 : decode cX2_stretchLength 1 = .ok (.bipush 63, 2) := by decide +kernel
theorem dX2_stretchLength_3 : decode cX2_stretchLength 3 = .ok (.iand, 1) := by decide +kernel
theorem dX2_stretchLength_4 : decode cX2_stretchLength 4 = .ok (.ireturn, 1) := by decide +kernel
set_option maxRecDepth 100000 in
theorem ggX2_dotBytes_X2_stretchLength : GoodIn wsX2_dotBytes wsX2_stretchLength := goodIn_r _ [4] rfl (by decide +kernel)
set_option maxRecDepth 20000 in
theorem gX2_dotBytes_X2_stretchLength : GoodIn wsX2_dotBytes (va_wsS RX2 23 yX2_stretchLength wsX2_stretchLength) := goodIn_app (goodIn_of _ (by decide +kernel)) ggX2_dotBytes_X2_stretchLength
theorem dX2_dotBytes_0 : decode cX2_dotBytes 0 = .ok (.iload_n 0, 1) := by decide +kernel
theorem dX2_dotBytes_1 : decode cX2_dotBytes 1 = .ok (.bipush 64, 2) := by decide +kernel
theorem dX2_dotBytes_3 : decode cX2_dotBytes 3 = .ok (.if_icmp .ge 5, 3) := by decide +kernel
theorem dX2_dotBytes_6 : decode cX2_dotBytes 6 = .ok (.iconst 0, 1) := by decide +kernel
theorem dX2_dotBytes_7 : decode cX2_dotBytes 7 = .ok (.ireturn, 1) := by decide +kernel
theorem dX2_dotBytes_8 : decode cX2_dotBytes 8 = .ok (.iload_n 0, 1) := by decide +kernel
theorem dX2_dotBytes_9 : decode cX2_dotBytes 9 = .ok (.sipush 128, 3) := by decide +kernel
theorem dX2_dotBytes_12 : decode cX2_dotBytes 12 = .ok (.if_icmp .ge 10, 3) := by decide +kernel
theorem dX2_dotBytes_15 : decode cX2_dotBytes 15 = .ok (.iload_n 0, 1) := by decide +kernel
theorem dX2_dotBytes_16 : decode cX2_dotBytes 16 = .ok (.invokestatic 23, 3) := by decide +kernel
theorem dX2_dotBytes_19 : decode cX2_dotBytes 19 = .ok (.goto 4, 3) := by decide +kernel
theorem dX2_dotBytes_22 : decode cX2_dotBytes 22 = .ok (.iconst 1, 1) := by decide +kernel
theorem dX2_dotBytes_23 : decode cX2_dotBytes 23 = .ok (.ireturn, 1) := by decide +kernel
set_option maxRecDepth 100000 in
theorem ggX3_init_X0_init : GoodIn wsX3_init wsX0_init := goodIn_r _ [15, 16, 2, 3, 17, 18, 19, 20, 26, 27, 28, 29] rfl (by decide +kernel)
set_option maxRecDepth 20000 in
theorem gX3_init_X0_init : GoodIn wsX3_init (wsX0_init) := ggX3_init_X0_init
theorem dX3_init_0 : decode cX3_init 0 = .ok (.aload_n 0, 1) := by decide +kernel
theorem dX3_init_1 : decode cX3_init 1 = .ok (.invokespecial 1, 3) := by decide +kernel
theorem dX3_init_4 : decode cX3_init 4 = .ok (.aload_n 0, 1) := by decide +kernel
theorem dX3_init_5 : decode cX3_init 5 = .ok (.iload_n 1, 1) := by decide +kernel
theorem dX3_init_6 : decode cX3_init 6 = .ok (.putfield 7, 3) := by decide +kernel
theorem dX3_init_9 : decode cX3_init 9 = .ok (.aload_n 0, 1) := by decide +kernel
theorem dX3_init_10 : decode cX3_init 10 = .ok (.iconst 1, 1) := by decide +kernel
theorem dX3_init_11 : decode cX3_init 11 = .ok (.iload_n 1, 1) := by decide +kernel
theorem dX3_init_12 : decode cX3_init 12 = .ok (.ishl, 1) := by decide +kernel
theorem dX3_init_13 : decode cX3_init 13 = .ok (.iconst 1, 1) := by decide +kernel
theorem dX3_init_14 : decode cX3_init 14 = .ok (.isub, 1) := by decide +kernel
theorem dX3_init_15 : decode cX3_init 15 = .ok (.putfield 13, 3) := by decide +kernel
theorem dX3_init_18 : decode cX3_init 18 = .ok (.aload_n 0, 1) := by decide +kernel
theorem dX3_init_19 : decode cX3_init 19 = .ok (.new 16, 3) := by decide +kernel
theorem dX3_init_22 : decode cX3_init 22 = .ok (.dup, 1) := by decide +kernel
theorem dX3_init_23 : decode cX3_init 23 = .ok (.lconst 0, 1) := by decide +kernel
theorem dX3_init_24 : decode cX3_init 24 = .ok (.lconst 0, 1) := by decide +kernel
theorem dX3_init_25 : decode cX3_init 25 = .ok (.iload_n 2, 1) := by decide +kernel
theorem dX3_init_26 : decode cX3_init 26 = .ok (.iload_n 3, 1) := by decide +kernel
theorem dX3_init_27 : decode cX3_init 27 = .ok (.invokespecial 18, 3) := by decide +kernel
theorem dX3_init_30 : decode cX3_init 30 = .ok (.putfield 21, 3) := by decide +kernel
theorem dX3_init_33 : decode cX3_init 33 = .ok (.aload_n 0, 1) := by decide +kernel
theorem dX3_init_34 : decode cX3_init 34 = .ok (.iload_n 2, 1) := by decide +kernel
theorem dX3_init_35 : decode cX3_init 35 = .ok (.iload_n 3, 1) := by decide +kernel
theorem dX3_init_36 : decode cX3_init 36 = .ok (.imul, 1) := by decide +kernel
theorem dX3_init_37 : decode cX3_init 37 = .ok (.newarray .int, 2) := by decide +kernel
theorem dX3_init_39 : decode cX3_init 39 = .ok (.putfield 25, 3) := by decide +kernel
theorem dX3_init_42 : decode cX3_init 42 = .ok (.aload_n 0, 1) := by decide +kernel
theorem dX3_init_43 : decode cX3_init 43 = .ok (.aload_n 0, 1) := by decide +kernel
theorem dX3_init_44 : decode cX3_init 44 = .ok (.getfield 21, 3) := by decide +kernel
theorem dX3_init_47 : decode cX3_init 47 = .ok (.putfield 29, 3) := by decide +kernel
theorem dX3_init_50 : decode cX3_init 50 = .ok (.return_, 1) := by decide +kernel
theorem dX3_fits_0 : decode cX3_fits 0 = .ok (.iload_n 1, 1) := by decide +kernel
theorem dX3_fits_1 : decode cX3_fits 1 = .ok (.ifCond .lt 15, 3) := by decide +kernel
theorem dX3_fits_4 : decode cX3_fits 4 = .ok (.iload_n 1, 1) := by decide +kernel
theorem dX3_fits_5 : decode cX3_fits 5 = .ok (.aload_n 0, 1) := by decide +kernel
theorem dX3_fits_6 : decode cX3_fits 6 = .ok (.getfield 13, 3) := by decide +kernel
theorem dX3_fits_9 : decode cX3_fits 9 = .ok (.if_icmp .gt 7, 3) := by decide +kernel
theorem dX3_fits_12 : decode cX3_fits 12 = .ok (.iconst 1, 1) := by decide +kernel
theorem dX3_fits_13 : decode cX3_fits 13 = .ok (.goto 4, 3) := by decide +kernel
theorem dX3_fits_16 : decode cX3_fits 16 = .ok (.iconst 0, 1) := by decide +kernel
theorem dX3_fits_17 : decode cX3_fits 17 = .ok (.ireturn, 1) := by decide +kernel
theorem dX3_indexOf_0 : decode cX3_indexOf 0 = .ok (.lload_n 3, 1) := by decide +kernel
theorem dX3_indexOf_1 : decode cX3_indexOf 1 = .ok (.aload_n 0, 1) := by decide +kernel
theorem dX3_indexOf_2 : decode cX3_indexOf 2 = .ok (.getfield 21, 3) := by decide +kernel
theorem dX3_indexOf_5 : decode cX3_indexOf 5 = .ok (.getfield 32, 3) := by decide +kernel
theorem dX3_indexOf_8 : decode cX3_indexOf 8 = .ok (.i2l, 1) := by decide +kernel
theorem dX3_indexOf_9 : decode cX3_indexOf 9 = .ok (.lmul, 1) := by decide +kernel
theorem dX3_indexOf_10 : decode cX3_indexOf 10 = .ok (.lload_n 1, 1) := by decide +kernel
theorem dX3_indexOf_11 : decode cX3_indexOf 11 = .ok (.ladd, 1) := by decide +kernel
theorem dX3_indexOf_12 : decode cX3_indexOf 12 = .ok (.l2i, 1) := by decide +kernel
theorem dX3_indexOf_13 : decode cX3_indexOf 13 = .ok (.ireturn, 1) := by decide +kernel
set_option maxRecDepth 100000 in
theorem ggX3_isOne_X0_holds : GoodIn wsX3_isOne wsX0_holds := goodIn_r _ [7, 8, 9, 10, 11, 23, 24, 25, 26] rfl (by decide +kernel)
set_option maxRecDepth 20000 in
theorem gX3_isOne_X0_holds : GoodIn wsX3_isOne (wsV RX3 35 RX0 yX0_holds wsX0_holds) := goodIn_app (goodIn_of _ (by decide +kernel)) ggX3_isOne_X0_holds
set_option maxRecDepth 100000 in
theorem ggX3_isOne_X3_indexOf : GoodIn wsX3_isOne wsX3_indexOf := goodIn_r _ [16, 1, 17, 18, 19, 20, 21, 22, 23, 24, 25, 26] rfl (by decide +kernel)
set_option maxRecDepth 20000 in
theorem gX3_isOne_X3_indexOf : GoodIn wsX3_isOne (wsV RX3 39 RX3 yX3_indexOf wsX3_indexOf) := goodIn_app (goodIn_of _ (by decide +kernel)) ggX3_isOne_X3_indexOf
theorem dX3_isOne_0 : decode cX3_isOne 0 = .ok (.aload_n 0, 1) := by decide +kernel
theorem dX3_isOne_1 : decode cX3_isOne 1 = .ok (.getfield 21, 3) := by decide +kernel
theorem dX3_isOne_4 : decode cX3_isOne 4 = .ok (.lload_n 1, 1) := by decide +kernel
theorem dX3_isOne_5 : decode cX3_isOne 5 = .ok (.lload_n 3, 1) := by decide +kernel
theorem dX3_isOne_6 : decode cX3_isOne 6 = .ok (.invokevirtual 35, 3) := by decide +kernel
theorem dX3_isOne_9 : decode cX3_isOne 9 = .ok (.ifCond .eq 22, 3) := by decide +kernel
theorem dX3_isOne_12 : decode cX3_isOne 12 = .ok (.aload_n 0, 1) := by decide +kernel
theorem dX3_isOne_13 : decode cX3_isOne 13 = .ok (.getfield 25, 3) := by decide +kernel
theorem dX3_isOne_16 : decode cX3_isOne 16 = .ok (.aload_n 0, 1) := by decide +kernel
theorem dX3_isOne_17 : decode cX3_isOne 17 = .ok (.lload_n 1, 1) := by decide +kernel
theorem dX3_isOne_18 : decode cX3_isOne 18 = .ok (.lload_n 3, 1) := by decide +kernel
theorem dX3_isOne_19 : decode cX3_isOne 19 = .ok (.invokevirtual 39, 3) := by decide +kernel
theorem dX3_isOne_22 : decode cX3_isOne 22 = .ok (.iaload, 1) := by decide +kernel
theorem dX3_isOne_23 : decode cX3_isOne 23 = .ok (.iconst 1, 1) := by decide +kernel
theorem dX3_isOne_24 : decode cX3_isOne 24 = .ok (.if_icmp .ne 7, 3) := by decide +kernel
theorem dX3_isOne_27 : decode cX3_isOne 27 = .ok (.iconst 1, 1) := by decide +kernel
theorem dX3_isOne_28 : decode cX3_isOne 28 = .ok (.goto 4, 3) := by decide +kernel
theorem dX3_isOne_31 : decode cX3_isOne 31 = .ok (.iconst 0, 1) := by decide +kernel
theorem dX3_isOne_32 : decode cX3_isOne 32 = .ok (.ireturn, 1) := by decide +kernel
set_option maxRecDepth 100000 in
theorem ggX3_putClipped_X0_holds : GoodIn wsX3_putClipped wsX0_holds := goodIn_r _ [7, 8, 9, 10, 11, 24, 25, 26, 27] rfl (by decide +kernel)
set_option maxRecDepth 20000 in
theorem gX3_putClipped_X0_holds : GoodIn wsX3_putClipped (wsV RX3 35 RX0 yX0_holds wsX0_holds) := goodIn_app (goodIn_of _ (by decide +kernel)) ggX3_putClipped_X0_holds
set_option maxRecDepth 100000 in
theorem ggX3_putClipped_X3_indexOf : GoodIn wsX3_putClipped wsX3_indexOf := goodIn_r _ [16, 17, 18, 19, 20, 21, 22, 23, 24, 25, 26, 27] rfl (by decide +kernel)
set_option maxRecDepth 20000 in
theorem gX3_putClipped_X3_indexOf : GoodIn wsX3_putClipped (wsV RX3 39 RX3 yX3_indexOf wsX3_indexOf) := goodIn_app (goodIn_of _ (by decide +kernel)) ggX3_putClipped_X3_indexOf
theorem dX3_putClipped_0 : decode cX3_putClipped 0 = .ok (.aload_n 0, 1) := by decide +kernel
theorem dX3_putClipped_1 : decode cX3_putClipped 1 = .ok (.getfield 29, 3) := by decide +kernel
theorem dX3_putClipped_4 : decode cX3_putClipped 4 = .ok (.lload_n 1, 1) := by decide +kernel
theorem dX3_putClipped_5 : decode cX3_putClipped 5 = .ok (.lload_n 3, 1) := by decide +kernel
theorem dX3_putClipped_6 : decode cX3_putClipped 6 = .ok (.invokevirtual 35, 3) := by decide +kernel
theorem dX3_putClipped_9 : decode cX3_putClipped 9 = .ok (.ifCond .eq 16, 3) := by decide +kernel
theorem dX3_putClipped_12 : decode cX3_putClipped 12 = .ok (.aload_n 0, 1) := by decide +kernel
theorem dX3_putClipped_13 : decode cX3_putClipped 13 = .ok (.getfield 25, 3) := by decide +kernel
theorem dX3_putClipped_16 : decode cX3_putClipped 16 = .ok (.aload_n 0, 1) := by decide +kernel
theorem dX3_putClipped_17 : decode cX3_putClipped 17 = .ok (.lload_n 1, 1) := by decide +kernel
theorem dX3_putClipped_18 : decode cX3_putClipped 18 = .ok (.lload_n 3, 1) := by decide +kernel
theorem dX3_putClipped_19 : decode cX3_putClipped 19 = .ok (.invokevirtual 39, 3) := by decide +kernel
theorem dX3_putClipped_22 : decode cX3_putClipped 22 = .ok (.iload 5, 2) := by decide +kernel
theorem dX3_putClipped_24 : decode cX3_putClipped 24 = .ok (.iastore, 1) := by decide +kernel
theorem dX3_putClipped_25 : decode cX3_putClipped 25 = .ok (.return_, 1) := by decide +kernel
set_option maxRecDepth 100000 in
theorem ggX3_swapLeftAndRight_X3_indexOf : GoodIn wsX3_swapLeftAndRight wsX3_indexOf := goodIn_r _ [8, 1, 3, 14, 15, 16, 17, 18, 19, 20, 21, 22] rfl (by decide +kernel)
set_option maxRecDepth 20000 in
theorem gX3_swapLeftAndRight_X3_indexOf : GoodIn wsX3_swapLeftAndRight (wsV RX3 39 RX3 yX3_indexOf wsX3_indexOf) := goodIn_app (goodIn_of _ (by decide +kernel)) ggX3_swapLeftAndRight_X3_indexOf
set_option maxRecDepth 100000 in
theorem ggX3_swapLeftAndRight_X3_swapDots : GoodIn wsX3_swapLeftAndRight wsX3_swapDots := goodIn_r _ [12, 13, 14, 15, 16, 17, 18] rfl (by decide +kernel)
set_option maxRecDepth 20000 in
theorem gX3_swapLeftAndRight_X3_swapDots : GoodIn wsX3_swapLeftAndRight (wsV RX3 46 RX3 yX3_swapDots wsX3_swapDots) := goodIn_app (goodIn_of _ (by decide +kernel)) ggX3_swapLeftAndRight_X3_swapDots
theorem dX3_swapLeftAndRight_0 : decode cX3_swapLeftAndRight 0 = .ok (.iconst 0, 1) := by decide +kernel
theorem dX3_swapLeftAndRight_1 : decode cX3_swapLeftAndRight 1 = .ok (.istore_n 1, 1) := by decide +kernel
theorem dX3_swapLeftAndRight_2 : decode cX3_swapLeftAndRight 2 = .ok (.iload_n 1, 1) := by decide +kernel
theorem dX3_swapLeftAndRight_3 : decode cX3_swapLeftAndRight 3 = .ok (.aload_n 0, 1) := by decide +kernel
theorem dX3_swapLeftAndRight_4 : decode cX3_swapLeftAndRight 4 = .ok (.getfield 21, 3) := by decide +kernel
theorem dX3_swapLeftAndRight_7 : decode cX3_swapLeftAndRight 7 = .ok (.getfield 43, 3) := by decide +kernel
theorem dX3_swapLeftAndRight_10 : decode cX3_swapLeftAndRight 10 = .ok (.if_icmp .ge 60, 3) := by decide +kernel
theorem dX3_swapLeftAndRight_13 : decode cX3_swapLeftAndRight 13 = .ok (.iconst 0, 1) := by decide +kernel
theorem dX3_swapLeftAndRight_14 : decode cX3_swapLeftAndRight 14 = .ok (.istore_n 2, 1) := by decide +kernel
theorem dX3_swapLeftAndRight_15 : decode cX3_swapLeftAndRight 15 = .ok (.iload_n 2, 1) := by decide +kernel
theorem dX3_swapLeftAndRight_16 : decode cX3_swapLeftAndRight 16 = .ok (.aload_n 0, 1) := by decide +kernel
theorem dX3_swapLeftAndRight_17 : decode cX3_swapLeftAndRight 17 = .ok (.getfield 21, 3) := by decide +kernel
theorem dX3_swapLeftAndRight_20 : decode cX3_swapLeftAndRight 20 = .ok (.getfield 32, 3) := by decide +kernel
theorem dX3_swapLeftAndRight_23 : decode cX3_swapLeftAndRight 23 = .ok (.iconst 2, 1) := by decide +kernel
theorem dX3_swapLeftAndRight_24 : decode cX3_swapLeftAndRight 24 = .ok (.idiv, 1) := by decide +kernel
theorem dX3_swapLeftAndRight_25 : decode cX3_swapLeftAndRight 25 = .ok (.if_icmp .ge 39, 3) := by decide +kernel
theorem dX3_swapLeftAndRight_28 : decode cX3_swapLeftAndRight 28 = .ok (.aload_n 0, 1) := by decide +kernel
theorem dX3_swapLeftAndRight_29 : decode cX3_swapLeftAndRight 29 = .ok (.aload_n 0, 1) := by decide +kernel
theorem dX3_swapLeftAndRight_30 : decode cX3_swapLeftAndRight 30 = .ok (.iload_n 2, 1) := by decide +kernel
theorem dX3_swapLeftAndRight_31 : decode cX3_swapLeftAndRight 31 = .ok (.i2l, 1) := by decide +kernel
theorem dX3_swapLeftAndRight_32 : decode cX3_swapLeftAndRight 32 = .ok (.iload_n 1, 1) := by decide +kernel
theorem dX3_swapLeftAndRight_33 : decode cX3_swapLeftAndRight 33 = .ok (.i2l, 1) := by decide +kernel
theorem dX3_swapLeftAndRight_34 : decode cX3_swapLeftAndRight 34 = .ok (.invokevirtual 39, 3) := by decide +kernel
theorem dX3_swapLeftAndRight_37 : decode cX3_swapLeftAndRight 37 = .ok (.aload_n 0, 1) := by decide +kernel
theorem dX3_swapLeftAndRight_38 : decode cX3_swapLeftAndRight 38 = .ok (.aload_n 0, 1) := by decide +kernel
theorem dX3_swapLeftAndRight_39 : decode cX3_swapLeftAndRight 39 = .ok (.getfield 21, 3) := by decide +kernel
theorem dX3_swapLeftAndRight_42 : decode cX3_swapLeftAndRight 42 = .ok (.getfield 32, 3) := by decide +kernel
theorem dX3_swapLeftAndRight_45 : decode cX3_swapLeftAndRight 45 = .ok (.iconst 1, 1) := by decide +kernel
theorem dX3_swapLeftAndRight_46 : decode cX3_swapLeftAndRight 46 = .ok (.isub, 1) := by decide +kernel
theorem dX3_swapLeftAndRight_47 : decode cX3_swapLeftAndRight 47 = .ok (.iload_n 2, 1) := by decide +kernel
theorem dX3_swapLeftAndRight_48 : decode cX3_swapLeftAndRight 48 = .ok (.isub, 1) := by decide +kernel
theorem dX3_swapLeftAndRight_49 : decode cX3_swapLeftAndRight 49 = .ok (.i2l, 1) := by decide +kernel
theorem dX3_swapLeftAndRight_50 : decode cX3_swapLeftAndRight 50 = .ok (.iload_n 1, 1) := by decide +kernel
theorem dX3_swapLeftAndRight_51 : decode cX3_swapLeftAndRight 51 = .ok (.i2l, 1) := by decide +kernel
theorem dX3_swapLeftAndRight_52 : decode cX3_swapLeftAndRight 52 = .ok (.invokevirtual 39, 3) := by decide +kernel
theorem dX3_swapLeftAndRight_55 : decode cX3_swapLeftAndRight 55 = .ok (.invokevirtual 46, 3) := by decide +kernel
theorem dX3_swapLeftAndRight_58 : decode cX3_swapLeftAndRight 58 = .ok (.iinc 2 1, 3) := by decide +kernel
theorem dX3_swapLeftAndRight_61 : decode cX3_swapLeftAndRight 61 = .ok (.goto (-46), 3) := by decide +kernel
theorem dX3_swapLeftAndRight_64 : decode cX3_swapLeftAndRight 64 = .ok (.iinc 1 1, 3) := by decide +kernel
theorem dX3_swapLeftAndRight_67 : decode cX3_swapLeftAndRight 67 = .ok (.goto (-65), 3) := by decide +kernel
theorem dX3_swapLeftAndRight_70 : decode cX3_swapLeftAndRight 70 = .ok (.return_, 1) := by decide +kernel
set_option maxRecDepth 100000 in
theorem ggX3_swapTopAndBottom_X3_indexOf : GoodIn wsX3_swapTopAndBottom wsX3_indexOf := goodIn_r _ [8, 1, 3, 14, 15, 16, 17, 18, 19, 20, 21, 22] rfl (by decide +kernel)
set_option maxRecDepth 20000 in
theorem gX3_swapTopAndBottom_X3_indexOf : GoodIn wsX3_swapTopAndBottom (wsV RX3 39 RX3 yX3_indexOf wsX3_indexOf) := goodIn_app (goodIn_of _ (by decide +kernel)) ggX3_swapTopAndBottom_X3_indexOf
set_option maxRecDepth 100000 in
theorem ggX3_swapTopAndBottom_X3_swapDots : GoodIn wsX3_swapTopAndBottom wsX3_swapDots := goodIn_r _ [12, 13, 14, 15, 16, 17, 18] rfl (by decide +kernel)
set_option maxRecDepth 20000 in
theorem gX3_swapTopAndBottom_X3_swapDots : GoodIn wsX3_swapTopAndBottom (wsV RX3 46 RX3 yX3_swapDots wsX3_swapDots) := goodIn_app (goodIn_of _ (by decide +kernel)) ggX3_swapTopAndBottom_X3_swapDots
theorem dX3_swapTopAndBottom_0 : decode cX3_swapTopAndBottom 0 = .ok (.iconst 0, 1) := by decide +kernel
theorem dX3_swapTopAndBottom_1 : decode cX3_swapTopAndBottom 1 = .ok (.istore_n 1, 1) := by decide +kernel
theorem dX3_swapTopAndBottom_2 : decode cX3_swapTopAndBottom 2 = .ok (.iload_n 1, 1) := by decide +kernel
theorem dX3_swapTopAndBottom_3 : decode cX3_swapTopAndBottom 3 = .ok (.aload_n 0, 1) := by decide +kernel
theorem dX3_swapTopAndBottom_4 : decode cX3_swapTopAndBottom 4 = .ok (.getfield 21, 3) := by decide +kernel
theorem dX3_swapTopAndBottom_7 : decode cX3_swapTopAndBottom 7 = .ok (.getfield 43, 3) := by decide +kernel
theorem dX3_swapTopAndBottom_10 : decode cX3_swapTopAndBottom 10 = .ok (.iconst 2, 1) := by decide +kernel
theorem dX3_swapTopAndBottom_11 : decode cX3_swapTopAndBottom 11 = .ok (.idiv, 1) := by decide +kernel
theorem dX3_swapTopAndBottom_12 : decode cX3_swapTopAndBottom 12 = .ok (.if_icmp .ge 58, 3) := by decide +kernel
theorem dX3_swapTopAndBottom_15 : decode cX3_swapTopAndBottom 15 = .ok (.iconst 0, 1) := by decide +kernel
theorem dX3_swapTopAndBottom_16 : decode cX3_swapTopAndBottom 16 = .ok (.istore_n 2, 1) := by decide +kernel
theorem dX3_swapTopAndBottom_17 : decode cX3_swapTopAndBottom 17 = .ok (.iload_n 2, 1) := by decide +kernel
theorem dX3_swapTopAndBottom_18 : decode cX3_swapTopAndBottom 18 = .ok (.aload_n 0, 1) := by decide +kernel
theorem dX3_swapTopAndBottom_19 : decode cX3_swapTopAndBottom 19 = .ok (.getfield 21, 3) := by decide +kernel
theorem dX3_swapTopAndBottom_22 : decode cX3_swapTopAndBottom 22 = .ok (.getfield 32, 3) := by decide +kernel
theorem dX3_swapTopAndBottom_25 : decode cX3_swapTopAndBottom 25 = .ok (.if_icmp .ge 39, 3) := by decide +kernel
theorem dX3_swapTopAndBottom_28 : decode cX3_swapTopAndBottom 28 = .ok (.aload_n 0, 1) := by decide +kernel
theorem dX3_swapTopAndBottom_29 : decode cX3_swapTopAndBottom 29 = .ok (.aload_n 0, 1) := by decide +kernel
theorem dX3_swapTopAndBottom_30 : decode cX3_swapTopAndBottom 30 = .ok (.iload_n 2, 1) := by decide +kernel
theorem dX3_swapTopAndBottom_31 : decode cX3_swapTopAndBottom 31 = .ok (.i2l, 1) := by decide +kernel
theorem dX3_swapTopAndBottom_32 : decode cX3_swapTopAndBottom 32 = .ok (.iload_n 1, 1) := by decide +kernel
theorem dX3_swapTopAndBottom_33 : decode cX3_swapTopAndBottom 33 = .ok (.i2l, 1) := by decide +kernel
theorem dX3_swapTopAndBottom_34 : decode cX3_swapTopAndBottom 34 = .ok (.invokevirtual 39, 3) := by decide +kernel
theorem dX3_swapTopAndBottom_37 : decode cX3_swapTopAndBottom 37 = .ok (.aload_n 0, 1) := by decide +kernel
theorem dX3_swapTopAndBottom_38 : decode cX3_swapTopAndBottom 38 = .ok (.iload_n 2, 1) := by decide +kernel
theorem dX3_swapTopAndBottom_39 : decode cX3_swapTopAndBottom 39 = .ok (.i2l, 1) := by decide +kernel
theorem dX3_swapTopAndBottom_40 : decode cX3_swapTopAndBottom 40 = .ok (.aload_n 0, 1) := by decide +kernel
theorem dX3_swapTopAndBottom_41 : decode cX3_swapTopAndBottom 41 = .ok (.getfield 21, 3) := by decide +kernel
theorem dX3_swapTopAndBottom_44 : decode cX3_swapTopAndBottom 44 = .ok (.getfield 43, 3) := by decide +kernel
theorem dX3_swapTopAndBottom_47 : decode cX3_swapTopAndBottom 47 = .ok (.iconst 1, 1) := by decide +kernel
theorem dX3_swapTopAndBottom_48 : decode cX3_swapTopAndBottom 48 = .ok (.isub, 1) := by decide +kernel
theorem dX3_swapTopAndBottom_49 : decode cX3_swapTopAndBottom 49 = .ok (.iload_n 1, 1) := by decide +kernel
theorem dX3_swapTopAndBottom_50 : decode cX3_swapTopAndBottom 50 = .ok (.isub, 1) := by decide +kernel
theorem dX3_swapTopAndBottom_51 : decode cX3_swapTopAndBottom 51 = .ok (.i2l, 1) := by decide +kernel
theorem dX3_swapTopAndBottom_52 : decode cX3_swapTopAndBottom 52 = .ok (.invokevirtual 39, 3) := by decide +kernel
theorem dX3_swapTopAndBottom_55 : decode cX3_swapTopAndBottom 55 = .ok (.invokevirtual 46, 3) := by decide +kernel
theorem dX3_swapTopAndBottom_58 : decode cX3_swapTopAndBottom 58 = .ok (.iinc 2 1, 3) := by decide +kernel
theorem dX3_swapTopAndBottom_61 : decode cX3_swapTopAndBottom 61 = .ok (.goto (-44), 3) := by decide +kernel
theorem dX3_swapTopAndBottom_64 : decode cX3_swapTopAndBottom 64 = .ok (.iinc 1 1, 3) := by decide +kernel
theorem dX3_swapTopAndBottom_67 : decode cX3_swapTopAndBottom 67 = .ok (.goto (-65), 3) := by decide +kernel
theorem dX3_swapTopAndBottom_70 : decode cX3_swapTopAndBottom 70 = .ok (.return_, 1) := by decide +kernel
theorem dX3_swapDots_0 : decode cX3_swapDots 0 = .ok (.aload_n 0, 1) := by decide +kernel
theorem dX3_swapDots_1 : decode cX3_swapDots 1 = .ok (.getfield 25, 3) := by decide +kernel
theorem dX3_swapDots_4 : decode cX3_swapDots 4 = .ok (.iload_n 1, 1) := by decide +kernel
theorem dX3_swapDots_5 : decode cX3_swapDots 5 = .ok (.iaload, 1) := by decide +kernel
theorem dX3_swapDots_6 : decode cX3_swapDots 6 = .ok (.istore_n 3, 1) := by decide +kernel
theorem dX3_swapDots_7 : decode cX3_swapDots 7 = .ok (.aload_n 0, 1) := by decide +kernel
theorem dX3_swapDots_8 : decode cX3_swapDots 8 = .ok (.getfield 25, 3) := by decide +kernel
theorem dX3_swapDots_11 : decode cX3_swapDots 11 = .ok (.iload_n 1, 1) := by decide +kernel
theorem dX3_swapDots_12 : decode cX3_swapDots 12 = .ok (.aload_n 0, 1) := by decide +kernel
theorem dX3_swapDots_13 : decode cX3_swapDots 13 = .ok (.getfield 25, 3) := by decide +kernel
theorem dX3_swapDots_16 : decode cX3_swapDots 16 = .ok (.iload_n 2, 1) := by decide +kernel
theorem dX3_swapDots_17 : decode cX3_swapDots 17 = .ok (.iaload, 1) := by decide +kernel
theorem dX3_swapDots_18 : decode cX3_swapDots 18 = .ok (.iastore, 1) := by decide +kernel
theorem dX3_swapDots_19 : decode cX3_swapDots 19 = .ok (.aload_n 0, 1) := by decide +kernel
theorem dX3_swapDots_20 : decode cX3_swapDots 20 = .ok (.getfield 25, 3) := by decide +kernel
theorem dX3_swapDots_23 : decode cX3_swapDots 23 = .ok (.iload_n 2, 1) := by decide +kernel
theorem dX3_swapDots_24 : decode cX3_swapDots 24 = .ok (.iload_n 3, 1) := by decide +kernel
theorem dX3_swapDots_25 : decode cX3_swapDots 25 = .ok (.iastore, 1) := by decide +kernel
theorem dX3_swapDots_26 : decode cX3_swapDots 26 = .ok (.return_, 1) := by decide +kernel
set_option maxRecDepth 100000 in
theorem ggX3_isSound_X3_fits : GoodIn wsX3_isSound wsX3_fits := goodIn_r _ [12, 13, 14, 15, 16, 17, 18] rfl (by decide +kernel)
set_option maxRecDepth 20000 in
theorem gX3_isSound_X3_fits : GoodIn wsX3_isSound (wsV RX3 50 RX3 yX3_fits wsX3_fits) := goodIn_app (goodIn_of _ (by decide +kernel)) ggX3_isSound_X3_fits
theorem dX3_isSound_0 : decode cX3_isSound 0 = .ok (.aload_n 0, 1) := by decide +kernel
theorem dX3_isSound_1 : decode cX3_isSound 1 = .ok (.getfield 25, 3) := by decide +kernel
theorem dX3_isSound_4 : decode cX3_isSound 4 = .ok (.astore_n 1, 1) := by decide +kernel
theorem dX3_isSound_5 : decode cX3_isSound 5 = .ok (.aload_n 1, 1) := by decide +kernel
theorem dX3_isSound_6 : decode cX3_isSound 6 = .ok (.arraylength, 1) := by decide +kernel
theorem dX3_isSound_7 : decode cX3_isSound 7 = .ok (.istore_n 2, 1) := by decide +kernel
theorem dX3_isSound_8 : decode cX3_isSound 8 = .ok (.iconst 0, 1) := by decide +kernel
theorem dX3_isSound_9 : decode cX3_isSound 9 = .ok (.istore_n 3, 1) := by decide +kernel
theorem dX3_isSound_10 : decode cX3_isSound 10 = .ok (.iload_n 3, 1) := by decide +kernel
theorem dX3_isSound_11 : decode cX3_isSound 11 = .ok (.iload_n 2, 1) := by decide +kernel
theorem dX3_isSound_12 : decode cX3_isSound 12 = .ok (.if_icmp .ge 25, 3) := by decide +kernel
theorem dX3_isSound_15 : decode cX3_isSound 15 = .ok (.aload_n 1, 1) := by decide +kernel
theorem dX3_isSound_16 : decode cX3_isSound 16 = .ok (.iload_n 3, 1) := by decide +kernel
theorem dX3_isSound_17 : decode cX3_isSound 17 = .ok (.iaload, 1) := by decide +kernel
theorem dX3_isSound_18 : decode cX3_isSound 18 = .ok (.istore 4, 2) := by decide +kernel
theorem dX3_isSound_20 : decode cX3_isSound 20 = .ok (.aload_n 0, 1) := by decide +kernel
theorem dX3_isSound_21 : decode cX3_isSound 21 = .ok (.iload 4, 2) := by decide +kernel
theorem dX3_isSound_23 : decode cX3_isSound 23 = .ok (.invokevirtual 50, 3) := by decide +kernel
theorem dX3_isSound_26 : decode cX3_isSound 26 = .ok (.ifCond .ne 5, 3) := by decide +kernel
theorem dX3_isSound_29 : decode cX3_isSound 29 = .ok (.iconst 0, 1) := by decide +kernel
theorem dX3_isSound_30 : decode cX3_isSound 30 = .ok (.ireturn, 1) := by decide +kernel
theorem dX3_isSound_31 : decode cX3_isSound 31 = .ok (.iinc 3 1, 3) := by decide +kernel
theorem dX3_isSound_34 : decode cX3_isSound 34 = .ok (.goto (-24), 3) := by decide +kernel
theorem dX3_isSound_37 : decode cX3_isSound 37 = .ok (.aload_n 0, 1) := by decide +kernel
theorem dX3_isSound_38 : decode cX3_isSound 38 = .ok (.getfield 29, 3) := by decide +kernel
theorem dX3_isSound_41 : decode cX3_isSound 41 = .ok (.getfield 54, 3) := by decide +kernel
theorem dX3_isSound_44 : decode cX3_isSound 44 = .ok (.lconst 0, 1) := by decide +kernel
theorem dX3_isSound_45 : decode cX3_isSound 45 = .ok (.lcmp, 1) := by decide +kernel
theorem dX3_isSound_46 : decode cX3_isSound 46 = .ok (.ifCond .lt 19, 3) := by decide +kernel
theorem dX3_isSound_49 : decode cX3_isSound 49 = .ok (.aload_n 0, 1) := by decide +kernel
theorem dX3_isSound_50 : decode cX3_isSound 50 = .ok (.getfield 29, 3) := by decide +kernel
theorem dX3_isSound_53 : decode cX3_isSound 53 = .ok (.getfield 58, 3) := by decide +kernel
theorem dX3_isSound_56 : decode cX3_isSound 56 = .ok (.lconst 0, 1) := by decide +kernel
theorem dX3_isSound_57 : decode cX3_isSound 57 = .ok (.lcmp, 1) := by decide +kernel
theorem dX3_isSound_58 : decode cX3_isSound 58 = .ok (.ifCond .lt 7, 3) := by decide +kernel
theorem dX3_isSound_61 : decode cX3_isSound 61 = .ok (.iconst 1, 1) := by decide +kernel
theorem dX3_isSound_62 : decode cX3_isSound 62 = .ok (.goto 4, 3) := by decide +kernel
theorem dX3_isSound_65 : decode cX3_isSound 65 = .ok (.iconst 0, 1) := by decide +kernel
theorem dX3_isSound_66 : decode cX3_isSound 66 = .ok (.istore_n 1, 1) := by decide +kernel
theorem dX3_isSound_67 : decode cX3_isSound 67 = .ok (.iload_n 1, 1) := by decide +kernel
theorem dX3_isSound_68 : decode cX3_isSound 68 = .ok (.ifCond .eq 63, 3) := by decide +kernel
theorem dX3_isSound_71 : decode cX3_isSound 71 = .ok (.aload_n 0, 1) := by decide +kernel
theorem dX3_isSound_72 : decode cX3_isSound 72 = .ok (.getfield 29, 3) := by decide +kernel
theorem dX3_isSound_75 : decode cX3_isSound 75 = .ok (.getfield 54, 3) := by decide +kernel
theorem dX3_isSound_78 : decode cX3_isSound 78 = .ok (.aload_n 0, 1) := by decide +kernel
theorem dX3_isSound_79 : decode cX3_isSound 79 = .ok (.getfield 29, 3) := by decide +kernel
theorem dX3_isSound_82 : decode cX3_isSound 82 = .ok (.getfield 32, 3) := by decide +kernel
theorem dX3_isSound_85 : decode cX3_isSound 85 = .ok (.i2l, 1) := by decide +kernel
theorem dX3_isSound_86 : decode cX3_isSound 86 = .ok (.ladd, 1) := by decide +kernel
theorem dX3_isSound_87 : decode cX3_isSound 87 = .ok (.aload_n 0, 1) := by decide +kernel
theorem dX3_isSound_88 : decode cX3_isSound 88 = .ok (.getfield 21, 3) := by decide +kernel
theorem dX3_isSound_91 : decode cX3_isSound 91 = .ok (.getfield 32, 3) := by decide +kernel
theorem dX3_isSound_94 : decode cX3_isSound 94 = .ok (.i2l, 1) := by decide +kernel
theorem dX3_isSound_95 : decode cX3_isSound 95 = .ok (.lcmp, 1) := by decide +kernel
theorem dX3_isSound_96 : decode cX3_isSound 96 = .ok (.ifCond .gt 35, 3) := by decide +kernel
theorem dX3_isSound_99 : decode cX3_isSound 99 = .ok (.aload_n 0, 1) := by decide +kernel
theorem dX3_isSound_100 : decode cX3_isSound 100 = .ok (.getfield 29, 3) := by decide +kernel
theorem dX3_isSound_103 : decode cX3_isSound 103 = .ok (.getfield 58, 3) := by decide +kernel
theorem dX3_isSound_106 : decode cX3_isSound 106 = .ok (.aload_n 0, 1) := by decide +kernel
theorem dX3_isSound_107 : decode cX3_isSound 107 = .ok (.getfield 29, 3) := by decide +kernel
theorem dX3_isSound_110 : decode cX3_isSound 110 = .ok (.getfield 43, 3) := by decide +kernel
theorem dX3_isSound_113 : decode cX3_isSound 113 = .ok (.i2l, 1) := by decide +kernel
theorem dX3_isSound_114 : decode cX3_isSound 114 = .ok (.ladd, 1) := by decide +kernel
theorem dX3_isSound_115 : decode cX3_isSound 115 = .ok (.aload_n 0, 1) := by decide +kernel
theorem dX3_isSound_116 : decode cX3_isSound 116 = .ok (.getfield 21, 3) := by decide +kernel
theorem dX3_isSound_119 : decode cX3_isSound 119 = .ok (.getfield 43, 3) := by decide +kernel
theorem dX3_isSound_122 : decode cX3_isSound 122 = .ok (.i2l, 1) := by decide +kernel
theorem dX3_isSound_123 : decode cX3_isSound 123 = .ok (.lcmp, 1) := by decide +kernel
theorem dX3_isSound_124 : decode cX3_isSound 124 = .ok (.ifCond .gt 7, 3) := by decide +kernel
theorem dX3_isSound_127 : decode cX3_isSound 127 = .ok (.iconst 1, 1) := by decide +kernel
theorem dX3_isSound_128 : decode cX3_isSound 128 = .ok (.goto 4, 3) := by decide +kernel
theorem dX3_isSound_131 : decode cX3_isSound 131 = .ok (.iconst 0, 1) := by decide +kernel
theorem dX3_isSound_132 : decode cX3_isSound 132 = .ok (.ireturn, 1) := by decide +kernel
theorem dX4_init_0 : decode cX4_init 0 = .ok (.aload_n 0, 1) := by decide +kernel
theorem dX4_init_1 : decode cX4_init 1 = .ok (.invokespecial 3, 3) := by decide +kernel
theorem dX4_init_4 : decode cX4_init 4 = .ok (.aload_n 0, 1) := by decide +kernel
theorem dX4_init_5 : decode cX4_init 5 = .ok (.aload_n 1, 1) := by decide +kernel
theorem dX4_init_6 : decode cX4_init 6 = .ok (.putfield 9, 3) := by decide +kernel
theorem dX4_init_9 : decode cX4_init 9 = .ok (.aload_n 0, 1) := by decide +kernel
theorem dX4_init_10 : decode cX4_init 10 = .ok (.iload_n 2, 1) := by decide +kernel
theorem dX4_init_11 : decode cX4_init 11 = .ok (.putfield 15, 3) := by decide +kernel
theorem dX4_init_14 : decode cX4_init 14 = .ok (.aload_n 0, 1) := by decide +kernel
theorem dX4_init_15 : decode cX4_init 15 = .ok (.aload_n 3, 1) := by decide +kernel
theorem dX4_init_16 : decode cX4_init 16 = .ok (.putfield 19, 3) := by decide +kernel
theorem dX4_init_19 : decode cX4_init 19 = .ok (.return_, 1) := by decide +kernel
set_option maxRecDepth 100000 in
theorem ggX4_addRows_X3_indexOf : GoodIn wsX4_addRows wsX3_indexOf := goodIn_r _ [9, 10, 11, 51, 52, 53, 54, 55, 56, 57, 58, 59] rfl (by decide +kernel)
set_option maxRecDepth 20000 in
theorem gX4_addRows_X3_indexOf : GoodIn wsX4_addRows (wsV RX4 34 RX3 yX3_indexOf wsX3_indexOf) := goodIn_app (goodIn_of _ (by decide +kernel)) ggX4_addRows_X3_indexOf
set_option maxRecDepth 100000 in
theorem ggX4_addRows_X4_addRow : GoodIn wsX4_addRows wsX4_addRow := goodIn_r _ [16, 1, 17, 18, 19, 20, 15, 21, 2, 22, 23, 24, 25, 26, 27, 28, 29, 30, 31, 32, 33, 34, 35, 36, 37, 38, 39, 4, 40, 41, 42, 43, 44, 45, 46, 47, 48, 49, 50, 51, 52, 53, 54, 55, 56, 57, 58, 59, 60, 61, 62] rfl (by decide +kernel)
set_option maxRecDepth 20000 in
theorem gX4_addRows_X4_addRow : GoodIn wsX4_addRows (wsV RX4 38 RX4 yX4_addRow wsX4_addRow) := goodIn_app (goodIn_of _ (by decide +kernel)) ggX4_addRows_X4_addRow
set_option maxRecDepth 100000 in
theorem ggX4_addRows_X2_append : GoodIn wsX4_addRows wsX2_append := goodIn_r _ [44, 45, 46, 47, 60, 61, 62] rfl (by decide +kernel)
set_option maxRecDepth 20000 in
theorem gX4_addRows_X2_append : GoodIn wsX4_addRows (wsV RX4 42 RX2 yX2_append wsX2_append) := goodIn_app (goodIn_of _ (by decide +kernel)) ggX4_addRows_X2_append
theorem dX4_addRows_0 : decode cX4_addRows 0 = .ok (.iconst 0, 1) := by decide +kernel
theorem dX4_addRows_1 : decode cX4_addRows 1 = .ok (.istore_n 1, 1) := by decide +kernel
theorem dX4_addRows_2 : decode cX4_addRows 2 = .ok (.iload_n 1, 1) := by decide +kernel
theorem dX4_addRows_3 : decode cX4_addRows 3 = .ok (.aload_n 0, 1) := by decide +kernel
theorem dX4_addRows_4 : decode cX4_addRows 4 = .ok (.getfield 9, 3) := by decide +kernel
theorem dX4_addRows_7 : decode cX4_addRows 7 = .ok (.getfield 23, 3) := by decide +kernel
theorem dX4_addRows_10 : decode cX4_addRows 10 = .ok (.getfield 29, 3) := by decide +kernel
theorem dX4_addRows_13 : decode cX4_addRows 13 = .ok (.if_icmp .ge 31, 3) := by decide +kernel
theorem dX4_addRows_16 : decode cX4_addRows 16 = .ok (.aload_n 0, 1) := by decide +kernel
theorem dX4_addRows_17 : decode cX4_addRows 17 = .ok (.aload_n 0, 1) := by decide +kernel
theorem dX4_addRows_18 : decode cX4_addRows 18 = .ok (.getfield 9, 3) := by decide +kernel
theorem dX4_addRows_21 : decode cX4_addRows 21 = .ok (.lconst 0, 1) := by decide +kernel
theorem dX4_addRows_22 : decode cX4_addRows 22 = .ok (.iload_n 1, 1) := by decide +kernel
theorem dX4_addRows_23 : decode cX4_addRows 23 = .ok (.i2l, 1) := by decide +kernel
theorem dX4_addRows_24 : decode cX4_addRows 24 = .ok (.invokevirtual 34, 3) := by decide +kernel
theorem dX4_addRows_27 : decode cX4_addRows 27 = .ok (.invokevirtual 38, 3) := by decide +kernel
theorem dX4_addRows_30 : decode cX4_addRows 30 = .ok (.aload_n 0, 1) := by decide +kernel
theorem dX4_addRows_31 : decode cX4_addRows 31 = .ok (.getfield 19, 3) := by decide +kernel
theorem dX4_addRows_34 : decode cX4_addRows 34 = .ok (.iconst 0, 1) := by decide +kernel
theorem dX4_addRows_35 : decode cX4_addRows 35 = .ok (.invokevirtual 42, 3) := by decide +kernel
theorem dX4_addRows_38 : decode cX4_addRows 38 = .ok (.iinc 1 1, 3) := by decide +kernel
theorem dX4_addRows_41 : decode cX4_addRows 41 = .ok (.goto (-39), 3) := by decide +kernel
theorem dX4_addRows_44 : decode cX4_addRows 44 = .ok (.return_, 1) := by decide +kernel
set_option maxRecDepth 100000 in
theorem ggX4_addRow_X4_toldEnd : GoodIn wsX4_addRow wsX4_toldEnd := goodIn_r _ [7, 1, 8, 9, 2, 10, 36, 37, 38, 39, 40, 41, 42, 43, 44, 45, 46, 47] rfl (by decide +kernel)
set_option maxRecDepth 20000 in
theorem gX4_addRow_X4_toldEnd : GoodIn wsX4_addRow (wsV RX4 47 RX4 yX4_toldEnd wsX4_toldEnd) := goodIn_app (goodIn_of _ (by decide +kernel)) ggX4_addRow_X4_toldEnd
set_option maxRecDepth 100000 in
theorem ggX4_addRow_X4_kindAt : GoodIn wsX4_addRow wsX4_kindAt := goodIn_r _ [14, 1, 2, 10, 15, 16, 17, 6, 18, 8, 9, 36, 37, 38, 39, 40, 41, 42, 43, 44, 45, 46, 47] rfl (by decide +kernel)
set_option maxRecDepth 20000 in
theorem gX4_addRow_X4_kindAt : GoodIn wsX4_addRow (wsV RX4 51 RX4 yX4_kindAt wsX4_kindAt) := goodIn_app (goodIn_of _ (by decide +kernel)) ggX4_addRow_X4_kindAt
set_option maxRecDepth 100000 in
theorem ggX4_addRow_X4_addStretch : GoodIn wsX4_addRow wsX4_addStretch := goodIn_r _ [22, 23, 24, 25, 26, 27, 1, 2, 28, 29, 30, 31, 32, 33, 34, 35, 36, 37, 38, 39, 40, 41, 42, 43, 48, 49, 50] rfl (by decide +kernel)
set_option maxRecDepth 20000 in
theorem gX4_addRow_X4_addStretch : GoodIn wsX4_addRow (wsV RX4 59 RX4 yX4_addStretch wsX4_addStretch) := goodIn_app (goodIn_of _ (by decide +kernel)) ggX4_addRow_X4_addStretch
theorem dX4_addRow_0 : decode cX4_addRow 0 = .ok (.aload_n 0, 1) := by decide +kernel
theorem dX4_addRow_1 : decode cX4_addRow 1 = .ok (.iload_n 1, 1) := by decide +kernel
theorem dX4_addRow_2 : decode cX4_addRow 2 = .ok (.invokevirtual 47, 3) := by decide +kernel
theorem dX4_addRow_5 : decode cX4_addRow 5 = .ok (.istore_n 2, 1) := by decide +kernel
theorem dX4_addRow_6 : decode cX4_addRow 6 = .ok (.iload_n 1, 1) := by decide +kernel
theorem dX4_addRow_7 : decode cX4_addRow 7 = .ok (.istore_n 3, 1) := by decide +kernel
theorem dX4_addRow_8 : decode cX4_addRow 8 = .ok (.aload_n 0, 1) := by decide +kernel
theorem dX4_addRow_9 : decode cX4_addRow 9 = .ok (.iload_n 1, 1) := by decide +kernel
theorem dX4_addRow_10 : decode cX4_addRow 10 = .ok (.iload_n 1, 1) := by decide +kernel
theorem dX4_addRow_11 : decode cX4_addRow 11 = .ok (.invokevirtual 51, 3) := by decide +kernel
theorem dX4_addRow_14 : decode cX4_addRow 14 = .ok (.istore 4, 2) := by decide +kernel
theorem dX4_addRow_16 : decode cX4_addRow 16 = .ok (.iload_n 1, 1) := by decide +kernel
theorem dX4_addRow_17 : decode cX4_addRow 17 = .ok (.iconst 1, 1) := by decide +kernel
theorem dX4_addRow_18 : decode cX4_addRow 18 = .ok (.iadd, 1) := by decide +kernel
theorem dX4_addRow_19 : decode cX4_addRow 19 = .ok (.istore 5, 2) := by decide +kernel
theorem dX4_addRow_21 : decode cX4_addRow 21 = .ok (.iload 5, 2) := by decide +kernel
theorem dX4_addRow_23 : decode cX4_addRow 23 = .ok (.iload_n 2, 1) := by decide +kernel
theorem dX4_addRow_24 : decode cX4_addRow 24 = .ok (.if_icmp .gt 84, 3) := by decide +kernel
theorem dX4_addRow_27 : decode cX4_addRow 27 = .ok (.iload 5, 2) := by decide +kernel
theorem dX4_addRow_29 : decode cX4_addRow 29 = .ok (.iload_n 2, 1) := by decide +kernel
theorem dX4_addRow_30 : decode cX4_addRow 30 = .ok (.if_icmp .ge 13, 3) := by decide +kernel
theorem dX4_addRow_33 : decode cX4_addRow 33 = .ok (.aload_n 0, 1) := by decide +kernel
theorem dX4_addRow_34 : decode cX4_addRow 34 = .ok (.iload_n 1, 1) := by decide +kernel
theorem dX4_addRow_35 : decode cX4_addRow 35 = .ok (.iload 5, 2) := by decide +kernel
theorem dX4_addRow_37 : decode cX4_addRow 37 = .ok (.invokevirtual 51, 3) := by decide +kernel
theorem dX4_addRow_40 : decode cX4_addRow 40 = .ok (.goto 4, 3) := by decide +kernel
theorem dX4_addRow_43 : decode cX4_addRow 43 = .ok (.iconst (-1), 1) := by decide +kernel
theorem dX4_addRow_44 : decode cX4_addRow 44 = .ok (.istore 6, 2) := by decide +kernel
theorem dX4_addRow_46 : decode cX4_addRow 46 = .ok (.iload 6, 2) := by decide +kernel
theorem dX4_addRow_48 : decode cX4_addRow 48 = .ok (.iload 4, 2) := by decide +kernel
theorem dX4_addRow_50 : decode cX4_addRow 50 = .ok (.if_icmp .ne 36, 3) := by decide +kernel
theorem dX4_addRow_53 : decode cX4_addRow 53 = .ok (.iload 6, 2) := by decide +kernel
theorem dX4_addRow_55 : decode cX4_addRow 55 = .ok (.sipush 128, 3) := by decide +kernel
theorem dX4_addRow_58 : decode cX4_addRow 58 = .ok (.if_icmp .ne 44, 3) := by decide +kernel
theorem dX4_addRow_61 : decode cX4_addRow 61 = .ok (.aload_n 0, 1) := by decide +kernel
theorem dX4_addRow_62 : decode cX4_addRow 62 = .ok (.getfield 9, 3) := by decide +kernel
theorem dX4_addRow_65 : decode cX4_addRow 65 = .ok (.getfield 55, 3) := by decide +kernel
theorem dX4_addRow_68 : decode cX4_addRow 68 = .ok (.iload 5, 2) := by decide +kernel
theorem dX4_addRow_70 : decode cX4_addRow 70 = .ok (.iaload, 1) := by decide +kernel
theorem dX4_addRow_71 : decode cX4_addRow 71 = .ok (.aload_n 0, 1) := by decide +kernel
theorem dX4_addRow_72 : decode cX4_addRow 72 = .ok (.getfield 9, 3) := by decide +kernel
theorem dX4_addRow_75 : decode cX4_addRow 75 = .ok (.getfield 55, 3) := by decide +kernel
theorem dX4_addRow_78 : decode cX4_addRow 78 = .ok (.iload 5, 2) := by decide +kernel
theorem dX4_addRow_80 : decode cX4_addRow 80 = .ok (.iconst 1, 1) := by decide +kernel
theorem dX4_addRow_81 : decode cX4_addRow 81 = .ok (.isub, 1) := by decide +kernel
theorem dX4_addRow_82 : decode cX4_addRow 82 = .ok (.iaload, 1) := by decide +kernel
theorem dX4_addRow_83 : decode cX4_addRow 83 = .ok (.if_icmp .eq 19, 3) := by decide +kernel
theorem dX4_addRow_86 : decode cX4_addRow 86 = .ok (.aload_n 0, 1) := by decide +kernel
theorem dX4_addRow_87 : decode cX4_addRow 87 = .ok (.iload 4, 2) := by decide +kernel
theorem dX4_addRow_89 : decode cX4_addRow 89 = .ok (.iload_n 3, 1) := by decide +kernel
theorem dX4_addRow_90 : decode cX4_addRow 90 = .ok (.iload 5, 2) := by decide +kernel
theorem dX4_addRow_92 : decode cX4_addRow 92 = .ok (.invokevirtual 59, 3) := by decide +kernel
theorem dX4_addRow_95 : decode cX4_addRow 95 = .ok (.iload 5, 2) := by decide +kernel
theorem dX4_addRow_97 : decode cX4_addRow 97 = .ok (.istore_n 3, 1) := by decide +kernel
theorem dX4_addRow_98 : decode cX4_addRow 98 = .ok (.iload 6, 2) := by decide +kernel
theorem dX4_addRow_100 : decode cX4_addRow 100 = .ok (.istore 4, 2) := by decide +kernel
theorem dX4_addRow_102 : decode cX4_addRow 102 = .ok (.iinc 5 1, 3) := by decide +kernel
theorem dX4_addRow_105 : decode cX4_addRow 105 = .ok (.goto (-84), 3) := by decide +kernel
theorem dX4_addRow_108 : decode cX4_addRow 108 = .ok (.return_, 1) := by decide +kernel
theorem dX4_toldEnd_0 : decode cX4_toldEnd 0 = .ok (.iload_n 1, 1) := by decide +kernel
theorem dX4_toldEnd_1 : decode cX4_toldEnd 1 = .ok (.istore_n 2, 1) := by decide +kernel
theorem dX4_toldEnd_2 : decode cX4_toldEnd 2 = .ok (.iload_n 1, 1) := by decide +kernel
theorem dX4_toldEnd_3 : decode cX4_toldEnd 3 = .ok (.istore_n 3, 1) := by decide +kernel
theorem dX4_toldEnd_4 : decode cX4_toldEnd 4 = .ok (.iload_n 3, 1) := by decide +kernel
theorem dX4_toldEnd_5 : decode cX4_toldEnd 5 = .ok (.iload_n 1, 1) := by decide +kernel
theorem dX4_toldEnd_6 : decode cX4_toldEnd 6 = .ok (.aload_n 0, 1) := by decide +kernel
theorem dX4_toldEnd_7 : decode cX4_toldEnd 7 = .ok (.getfield 9, 3) := by decide +kernel
theorem dX4_toldEnd_10 : decode cX4_toldEnd 10 = .ok (.getfield 23, 3) := by decide +kernel
theorem dX4_toldEnd_13 : decode cX4_toldEnd 13 = .ok (.getfield 63, 3) := by decide +kernel
theorem dX4_toldEnd_16 : decode cX4_toldEnd 16 = .ok (.iadd, 1) := by decide +kernel
theorem dX4_toldEnd_17 : decode cX4_toldEnd 17 = .ok (.if_icmp .ge 29, 3) := by decide +kernel
theorem dX4_toldEnd_20 : decode cX4_toldEnd 20 = .ok (.aload_n 0, 1) := by decide +kernel
theorem dX4_toldEnd_21 : decode cX4_toldEnd 21 = .ok (.getfield 9, 3) := by decide +kernel
theorem dX4_toldEnd_24 : decode cX4_toldEnd 24 = .ok (.getfield 55, 3) := by decide +kernel
theorem dX4_toldEnd_27 : decode cX4_toldEnd 27 = .ok (.iload_n 3, 1) := by decide +kernel
theorem dX4_toldEnd_28 : decode cX4_toldEnd 28 = .ok (.iaload, 1) := by decide +kernel
theorem dX4_toldEnd_29 : decode cX4_toldEnd 29 = .ok (.aload_n 0, 1) := by decide +kernel
theorem dX4_toldEnd_30 : decode cX4_toldEnd 30 = .ok (.getfield 15, 3) := by decide +kernel
theorem dX4_toldEnd_33 : decode cX4_toldEnd 33 = .ok (.if_icmp .eq 7, 3) := by decide +kernel
theorem dX4_toldEnd_36 : decode cX4_toldEnd 36 = .ok (.iload_n 3, 1) := by decide +kernel
theorem dX4_toldEnd_37 : decode cX4_toldEnd 37 = .ok (.iconst 1, 1) := by decide +kernel
theorem dX4_toldEnd_38 : decode cX4_toldEnd 38 = .ok (.iadd, 1) := by decide +kernel
theorem dX4_toldEnd_39 : decode cX4_toldEnd 39 = .ok (.istore_n 2, 1) := by decide +kernel
theorem dX4_toldEnd_40 : decode cX4_toldEnd 40 = .ok (.iinc 3 1, 3) := by decide +kernel
theorem dX4_toldEnd_43 : decode cX4_toldEnd 43 = .ok (.goto (-39), 3) := by decide +kernel
theorem dX4_toldEnd_46 : decode cX4_toldEnd 46 = .ok (.iload_n 2, 1) := by decide +kernel
theorem dX4_toldEnd_47 : decode cX4_toldEnd 47 = .ok (.ireturn, 1) := by decide +kernel
set_option maxRecDepth 100000 in
theorem ggX4_kindAt_X4_isThree : GoodIn wsX4_kindAt wsX4_isThree := goodIn_r _ [8, 1, 9, 10, 2, 11, 12, 13, 14, 15, 16, 17, 18, 19, 20, 21, 22] rfl (by decide +kernel)
set_option maxRecDepth 20000 in
theorem gX4_kindAt_X4_isThree : GoodIn wsX4_kindAt (wsV RX4 66 RX4 yX4_isThree wsX4_isThree) := goodIn_app (goodIn_of _ (by decide +kernel)) ggX4_kindAt_X4_isThree
theorem dX4_kindAt_0 : decode cX4_kindAt 0 = .ok (.aload_n 0, 1) := by decide +kernel
theorem dX4_kindAt_1 : decode cX4_kindAt 1 = .ok (.getfield 9, 3) := by decide +kernel
theorem dX4_kindAt_4 : decode cX4_kindAt 4 = .ok (.getfield 55, 3) := by decide +kernel
theorem dX4_kindAt_7 : decode cX4_kindAt 7 = .ok (.iload_n 2, 1) := by decide +kernel
theorem dX4_kindAt_8 : decode cX4_kindAt 8 = .ok (.iaload, 1) := by decide +kernel
theorem dX4_kindAt_9 : decode cX4_kindAt 9 = .ok (.aload_n 0, 1) := by decide +kernel
theorem dX4_kindAt_10 : decode cX4_kindAt 10 = .ok (.getfield 15, 3) := by decide +kernel
theorem dX4_kindAt_13 : decode cX4_kindAt 13 = .ok (.if_icmp .ne 5, 3) := by decide +kernel
theorem dX4_kindAt_16 : decode cX4_kindAt 16 = .ok (.iconst 0, 1) := by decide +kernel
theorem dX4_kindAt_17 : decode cX4_kindAt 17 = .ok (.ireturn, 1) := by decide +kernel
theorem dX4_kindAt_18 : decode cX4_kindAt 18 = .ok (.aload_n 0, 1) := by decide +kernel
theorem dX4_kindAt_19 : decode cX4_kindAt 19 = .ok (.iload_n 1, 1) := by decide +kernel
theorem dX4_kindAt_20 : decode cX4_kindAt 20 = .ok (.iload_n 2, 1) := by decide +kernel
theorem dX4_kindAt_21 : decode cX4_kindAt 21 = .ok (.iconst 2, 1) := by decide +kernel
theorem dX4_kindAt_22 : decode cX4_kindAt 22 = .ok (.isub, 1) := by decide +kernel
theorem dX4_kindAt_23 : decode cX4_kindAt 23 = .ok (.invokevirtual 66, 3) := by decide +kernel
theorem dX4_kindAt_26 : decode cX4_kindAt 26 = .ok (.ifCond .ne 23, 3) := by decide +kernel
theorem dX4_kindAt_29 : decode cX4_kindAt 29 = .ok (.aload_n 0, 1) := by decide +kernel
theorem dX4_kindAt_30 : decode cX4_kindAt 30 = .ok (.iload_n 1, 1) := by decide +kernel
theorem dX4_kindAt_31 : decode cX4_kindAt 31 = .ok (.iload_n 2, 1) := by decide +kernel
theorem dX4_kindAt_32 : decode cX4_kindAt 32 = .ok (.iconst 1, 1) := by decide +kernel
theorem dX4_kindAt_33 : decode cX4_kindAt 33 = .ok (.isub, 1) := by decide +kernel
theorem dX4_kindAt_34 : decode cX4_kindAt 34 = .ok (.invokevirtual 66, 3) := by decide +kernel
theorem dX4_kindAt_37 : decode cX4_kindAt 37 = .ok (.ifCond .ne 12, 3) := by decide +kernel
theorem dX4_kindAt_40 : decode cX4_kindAt 40 = .ok (.aload_n 0, 1) := by decide +kernel
theorem dX4_kindAt_41 : decode cX4_kindAt 41 = .ok (.iload_n 1, 1) := by decide +kernel
theorem dX4_kindAt_42 : decode cX4_kindAt 42 = .ok (.iload_n 2, 1) := by decide +kernel
theorem dX4_kindAt_43 : decode cX4_kindAt 43 = .ok (.invokevirtual 66, 3) := by decide +kernel
theorem dX4_kindAt_46 : decode cX4_kindAt 46 = .ok (.ifCond .eq 7, 3) := by decide +kernel
theorem dX4_kindAt_49 : decode cX4_kindAt 49 = .ok (.iconst 1, 1) := by decide +kernel
theorem dX4_kindAt_50 : decode cX4_kindAt 50 = .ok (.goto 4, 3) := by decide +kernel
theorem dX4_kindAt_53 : decode cX4_kindAt 53 = .ok (.iconst 0, 1) := by decide +kernel
theorem dX4_kindAt_54 : decode cX4_kindAt 54 = .ok (.istore_n 3, 1) := by decide +kernel
theorem dX4_kindAt_55 : decode cX4_kindAt 55 = .ok (.iload_n 3, 1) := by decide +kernel
theorem dX4_kindAt_56 : decode cX4_kindAt 56 = .ok (.ifCond .eq 9, 3) := by decide +kernel
theorem dX4_kindAt_59 : decode cX4_kindAt 59 = .ok (.sipush 128, 3) := by decide +kernel
theorem dX4_kindAt_62 : decode cX4_kindAt 62 = .ok (.goto 5, 3) := by decide +kernel
theorem dX4_kindAt_65 : decode cX4_kindAt 65 = .ok (.bipush 64, 2) := by decide +kernel
theorem dX4_kindAt_67 : decode cX4_kindAt 67 = .ok (.ireturn, 1) := by decide +kernel
theorem dX4_isThree_0 : decode cX4_isThree 0 = .ok (.iload_n 2, 1) := by decide +kernel
theorem dX4_isThree_1 : decode cX4_isThree 1 = .ok (.iload_n 1, 1) := by decide +kernel
theorem dX4_isThree_2 : decode cX4_isThree 2 = .ok (.if_icmp .lt 21, 3) := by decide +kernel
theorem dX4_isThree_5 : decode cX4_isThree 5 = .ok (.iload_n 2, 1) := by decide +kernel
theorem dX4_isThree_6 : decode cX4_isThree 6 = .ok (.iconst 2, 1) := by decide +kernel
theorem dX4_isThree_7 : decode cX4_isThree 7 = .ok (.iadd, 1) := by decide +kernel
theorem dX4_isThree_8 : decode cX4_isThree 8 = .ok (.iload_n 1, 1) := by decide +kernel
theorem dX4_isThree_9 : decode cX4_isThree 9 = .ok (.aload_n 0, 1) := by decide +kernel
theorem dX4_isThree_10 : decode cX4_isThree 10 = .ok (.getfield 9, 3) := by decide +kernel
theorem dX4_isThree_13 : decode cX4_isThree 13 = .ok (.getfield 23, 3) := by decide +kernel
theorem dX4_isThree_16 : decode cX4_isThree 16 = .ok (.getfield 63, 3) := by decide +kernel
theorem dX4_isThree_19 : decode cX4_isThree 19 = .ok (.iadd, 1) := by decide +kernel
theorem dX4_isThree_20 : decode cX4_isThree 20 = .ok (.if_icmp .lt 5, 3) := by decide +kernel
theorem dX4_isThree_23 : decode cX4_isThree 23 = .ok (.iconst 0, 1) := by decide +kernel
theorem dX4_isThree_24 : decode cX4_isThree 24 = .ok (.ireturn, 1) := by decide +kernel
theorem dX4_isThree_25 : decode cX4_isThree 25 = .ok (.aload_n 0, 1) := by decide +kernel
theorem dX4_isThree_26 : decode cX4_isThree 26 = .ok (.getfield 9, 3) := by decide +kernel
theorem dX4_isThree_29 : decode cX4_isThree 29 = .ok (.getfield 55, 3) := by decide +kernel
theorem dX4_isThree_32 : decode cX4_isThree 32 = .ok (.iload_n 2, 1) := by decide +kernel
theorem dX4_isThree_33 : decode cX4_isThree 33 = .ok (.iaload, 1) := by decide +kernel
theorem dX4_isThree_34 : decode cX4_isThree 34 = .ok (.aload_n 0, 1) := by decide +kernel
theorem dX4_isThree_35 : decode cX4_isThree 35 = .ok (.getfield 9, 3) := by decide +kernel
theorem dX4_isThree_38 : decode cX4_isThree 38 = .ok (.getfield 55, 3) := by decide +kernel
theorem dX4_isThree_41 : decode cX4_isThree 41 = .ok (.iload_n 2, 1) := by decide +kernel
theorem dX4_isThree_42 : decode cX4_isThree 42 = .ok (.iconst 1, 1) := by decide +kernel
theorem dX4_isThree_43 : decode cX4_isThree 43 = .ok (.iadd, 1) := by decide +kernel
theorem dX4_isThree_44 : decode cX4_isThree 44 = .ok (.iaload, 1) := by decide +kernel
theorem dX4_isThree_45 : decode cX4_isThree 45 = .ok (.if_icmp .ne 30, 3) := by decide +kernel
theorem dX4_isThree_48 : decode cX4_isThree 48 = .ok (.aload_n 0, 1) := by decide +kernel
theorem dX4_isThree_49 : decode cX4_isThree 49 = .ok (.getfield 9, 3) := by decide +kernel
theorem dX4_isThree_52 : decode cX4_isThree 52 = .ok (.getfield 55, 3) := by decide +kernel
theorem dX4_isThree_55 : decode cX4_isThree 55 = .ok (.iload_n 2, 1) := by decide +kernel
theorem dX4_isThree_56 : decode cX4_isThree 56 = .ok (.iaload, 1) := by decide +kernel
theorem dX4_isThree_57 : decode cX4_isThree 57 = .ok (.aload_n 0, 1) := by decide +kernel
theorem dX4_isThree_58 : decode cX4_isThree 58 = .ok (.getfield 9, 3) := by decide +kernel
theorem dX4_isThree_61 : decode cX4_isThree 61 = .ok (.getfield 55, 3) := by decide +kernel
theorem dX4_isThree_64 : decode cX4_isThree 64 = .ok (.iload_n 2, 1) := by decide +kernel
theorem dX4_isThree_65 : decode cX4_isThree 65 = .ok (.iconst 2, 1) := by decide +kernel
theorem dX4_isThree_66 : decode cX4_isThree 66 = .ok (.iadd, 1) := by decide +kernel
theorem dX4_isThree_67 : decode cX4_isThree 67 = .ok (.iaload, 1) := by decide +kernel
theorem dX4_isThree_68 : decode cX4_isThree 68 = .ok (.if_icmp .ne 7, 3) := by decide +kernel
theorem dX4_isThree_71 : decode cX4_isThree 71 = .ok (.iconst 1, 1) := by decide +kernel
theorem dX4_isThree_72 : decode cX4_isThree 72 = .ok (.goto 4, 3) := by decide +kernel
theorem dX4_isThree_75 : decode cX4_isThree 75 = .ok (.iconst 0, 1) := by decide +kernel
theorem dX4_isThree_76 : decode cX4_isThree 76 = .ok (.ireturn, 1) := by decide +kernel
set_option maxRecDepth 100000 in
theorem ggX4_addStretch_X2_append : GoodIn wsX4_addStretch wsX2_append := goodIn_r _ [12, 13, 14, 15, 24, 25, 26] rfl (by decide +kernel)
set_option maxRecDepth 20000 in
theorem gX4_addStretch_X2_append : GoodIn wsX4_addStretch (wsV RX4 42 RX2 yX2_append wsX2_append) := goodIn_app (goodIn_of _ (by decide +kernel)) ggX4_addStretch_X2_append
theorem dX4_addStretch_0 : decode cX4_addStretch 0 = .ok (.iload_n 2, 1) := by decide +kernel
theorem dX4_addStretch_1 : decode cX4_addStretch 1 = .ok (.istore 4, 2) := by decide +kernel
theorem dX4_addStretch_3 : decode cX4_addStretch 3 = .ok (.iload 4, 2) := by decide +kernel
theorem dX4_addStretch_5 : decode cX4_addStretch 5 = .ok (.iload_n 3, 1) := by decide +kernel
theorem dX4_addStretch_6 : decode cX4_addStretch 6 = .ok (.if_icmp .ge 85, 3) := by decide +kernel
theorem dX4_addStretch_9 : decode cX4_addStretch 9 = .ok (.bipush 63, 2) := by decide +kernel
theorem dX4_addStretch_11 : decode cX4_addStretch 11 = .ok (.iload_n 3, 1) := by decide +kernel
theorem dX4_addStretch_12 : decode cX4_addStretch 12 = .ok (.iload 4, 2) := by decide +kernel
theorem dX4_addStretch_14 : decode cX4_addStretch 14 = .ok (.isub, 1) := by decide +kernel
theorem dX4_addStretch_15 : decode cX4_addStretch 15 = .ok (.invokestatic 70, 3) := by decide +kernel
theorem dX4_addStretch_18 : decode cX4_addStretch 18 = .ok (.istore 5, 2) := by decide +kernel
theorem dX4_addStretch_20 : decode cX4_addStretch 20 = .ok (.aload_n 0, 1) := by decide +kernel
theorem dX4_addStretch_21 : decode cX4_addStretch 21 = .ok (.getfield 19, 3) := by decide +kernel
theorem dX4_addStretch_24 : decode cX4_addStretch 24 = .ok (.iload_n 1, 1) := by decide +kernel
theorem dX4_addStretch_25 : decode cX4_addStretch 25 = .ok (.iload 5, 2) := by decide +kernel
theorem dX4_addStretch_27 : decode cX4_addStretch 27 = .ok (.iadd, 1) := by decide +kernel
theorem dX4_addStretch_28 : decode cX4_addStretch 28 = .ok (.invokevirtual 42, 3) := by decide +kernel
theorem dX4_addStretch_31 : decode cX4_addStretch 31 = .ok (.iload_n 1, 1) := by decide +kernel
theorem dX4_addStretch_32 : decode cX4_addStretch 32 = .ok (.bipush 64, 2) := by decide +kernel
theorem dX4_addStretch_34 : decode cX4_addStretch 34 = .ok (.if_icmp .ne 8, 3) := by decide +kernel
theorem dX4_addStretch_37 : decode cX4_addStretch 37 = .ok (.iload 5, 2) := by decide +kernel
theorem dX4_addStretch_39 : decode cX4_addStretch 39 = .ok (.goto 8, 3) := by decide +kernel
theorem dX4_addStretch_42 : decode cX4_addStretch 42 = .ok (.iload_n 1, 1) := by decide +kernel
theorem dX4_addStretch_43 : decode cX4_addStretch 43 = .ok (.iconst 1, 1) := by decide +kernel
theorem dX4_addStretch_44 : decode cX4_addStretch 44 = .ok (.invokestatic 70, 3) := by decide +kernel
theorem dX4_addStretch_47 : decode cX4_addStretch 47 = .ok (.istore 6, 2) := by decide +kernel
theorem dX4_addStretch_49 : decode cX4_addStretch 49 = .ok (.iconst 0, 1) := by decide +kernel
theorem dX4_addStretch_50 : decode cX4_addStretch 50 = .ok (.istore 7, 2) := by decide +kernel
theorem dX4_addStretch_52 : decode cX4_addStretch 52 = .ok (.iload 7, 2) := by decide +kernel
theorem dX4_addStretch_54 : decode cX4_addStretch 54 = .ok (.iload 6, 2) := by decide +kernel
theorem dX4_addStretch_56 : decode cX4_addStretch 56 = .ok (.if_icmp .ge 29, 3) := by decide +kernel
theorem dX4_addStretch_59 : decode cX4_addStretch 59 = .ok (.aload_n 0, 1) := by decide +kernel
theorem dX4_addStretch_60 : decode cX4_addStretch 60 = .ok (.getfield 19, 3) := by decide +kernel
theorem dX4_addStretch_63 : decode cX4_addStretch 63 = .ok (.aload_n 0, 1) := by decide +kernel
theorem dX4_addStretch_64 : decode cX4_addStretch 64 = .ok (.getfield 9, 3) := by decide +kernel
theorem dX4_addStretch_67 : decode cX4_addStretch 67 = .ok (.getfield 55, 3) := by decide +kernel
theorem dX4_addStretch_70 : decode cX4_addStretch 70 = .ok (.iload 4, 2) := by decide +kernel
theorem dX4_addStretch_72 : decode cX4_addStretch 72 = .ok (.iload 7, 2) := by decide +kernel
theorem dX4_addStretch_74 : decode cX4_addStretch 74 = .ok (.iadd, 1) := by decide +kernel
theorem dX4_addStretch_75 : decode cX4_addStretch 75 = .ok (.iaload, 1) := by decide +kernel
theorem dX4_addStretch_76 : decode cX4_addStretch 76 = .ok (.invokevirtual 42, 3) := by decide +kernel
theorem dX4_addStretch_79 : decode cX4_addStretch 79 = .ok (.iinc 7 1, 3) := by decide +kernel
theorem dX4_addStretch_82 : decode cX4_addStretch 82 = .ok (.goto (-30), 3) := by decide +kernel
theorem dX4_addStretch_85 : decode cX4_addStretch 85 = .ok (.iinc 4 63, 3) := by decide +kernel
theorem dX4_addStretch_88 : decode cX4_addStretch 88 = .ok (.goto (-85), 3) := by decide +kernel
theorem dX4_addStretch_91 : decode cX4_addStretch 91 = .ok (.return_, 1) := by decide +kernel
set_option maxRecDepth 100000 in
theorem ggX5_init_X2_init : GoodIn wsX5_init wsX2_init := goodIn_r _ [16, 17, 2, 3, 12, 18, 19, 20, 26, 27, 28] rfl (by decide +kernel)
set_option maxRecDepth 20000 in
theorem gX5_init_X2_init : GoodIn wsX5_init (wsX2_init) := ggX5_init_X2_init
theorem dX5_init_0 : decode cX5_init 0 = .ok (.aload_n 0, 1) := by decide +kernel
theorem dX5_init_1 : decode cX5_init 1 = .ok (.invokespecial 1, 3) := by decide +kernel
theorem dX5_init_4 : decode cX5_init 4 = .ok (.aload_n 0, 1) := by decide +kernel
theorem dX5_init_5 : decode cX5_init 5 = .ok (.bipush 8, 2) := by decide +kernel
theorem dX5_init_7 : decode cX5_init 7 = .ok (.anewarray 9, 3) := by decide +kernel
theorem dX5_init_10 : decode cX5_init 10 = .ok (.putfield 11, 3) := by decide +kernel
theorem dX5_init_13 : decode cX5_init 13 = .ok (.aload_n 0, 1) := by decide +kernel
theorem dX5_init_14 : decode cX5_init 14 = .ok (.iconst 0, 1) := by decide +kernel
theorem dX5_init_15 : decode cX5_init 15 = .ok (.putfield 15, 3) := by decide +kernel
theorem dX5_init_18 : decode cX5_init 18 = .ok (.aload_n 0, 1) := by decide +kernel
theorem dX5_init_19 : decode cX5_init 19 = .ok (.iconst 4, 1) := by decide +kernel
theorem dX5_init_20 : decode cX5_init 20 = .ok (.anewarray 19, 3) := by decide +kernel
theorem dX5_init_23 : decode cX5_init 23 = .ok (.putfield 21, 3) := by decide +kernel
theorem dX5_init_26 : decode cX5_init 26 = .ok (.iconst 0, 1) := by decide +kernel
theorem dX5_init_27 : decode cX5_init 27 = .ok (.istore_n 1, 1) := by decide +kernel
theorem dX5_init_28 : decode cX5_init 28 = .ok (.iload_n 1, 1) := by decide +kernel
theorem dX5_init_29 : decode cX5_init 29 = .ok (.iconst 4, 1) := by decide +kernel
theorem dX5_init_30 : decode cX5_init 30 = .ok (.if_icmp .ge 22, 3) := by decide +kernel
theorem dX5_init_33 : decode cX5_init 33 = .ok (.aload_n 0, 1) := by decide +kernel
theorem dX5_init_34 : decode cX5_init 34 = .ok (.getfield 21, 3) := by decide +kernel
theorem dX5_init_37 : decode cX5_init 37 = .ok (.iload_n 1, 1) := by decide +kernel
theorem dX5_init_38 : decode cX5_init 38 = .ok (.new 19, 3) := by decide +kernel
theorem dX5_init_41 : decode cX5_init 41 = .ok (.dup, 1) := by decide +kernel
theorem dX5_init_42 : decode cX5_init 42 = .ok (.invokespecial 25, 3) := by decide +kernel
theorem dX5_init_45 : decode cX5_init 45 = .ok (.aastore, 1) := by decide +kernel
theorem dX5_init_46 : decode cX5_init 46 = .ok (.iinc 1 1, 3) := by decide +kernel
theorem dX5_init_49 : decode cX5_init 49 = .ok (.goto (-21), 3) := by decide +kernel
theorem dX5_init_52 : decode cX5_init 52 = .ok (.aload_n 0, 1) := by decide +kernel
theorem dX5_init_53 : decode cX5_init 53 = .ok (.new 19, 3) := by decide +kernel
theorem dX5_init_56 : decode cX5_init 56 = .ok (.dup, 1) := by decide +kernel
theorem dX5_init_57 : decode cX5_init 57 = .ok (.invokespecial 25, 3) := by decide +kernel
theorem dX5_init_60 : decode cX5_init 60 = .ok (.putfield 26, 3) := by decide +kernel
theorem dX5_init_63 : decode cX5_init 63 = .ok (.aload_n 0, 1) := by decide +kernel
theorem dX5_init_64 : decode cX5_init 64 = .ok (.sipush 4096, 3) := by decide +kernel
theorem dX5_init_67 : decode cX5_init 67 = .ok (.newarray .int, 2) := by decide +kernel
theorem dX5_init_69 : decode cX5_init 69 = .ok (.putfield 30, 3) := by decide +kernel
theorem dX5_init_72 : decode cX5_init 72 = .ok (.return_, 1) := by decide +kernel
set_option maxRecDepth 100000 in
theorem ggX5_make_X5_isSide : GoodIn wsX5_make wsX5_isSide := goodIn_r _ [9] rfl (by decide +kernel)
end
section
set_option maxRecDepth 20000 in
theorem gX5_make_X5_isSide : GoodIn wsX5_make (va_wsS RX5 34 yX5_isSide wsX5_isSide) := goodIn_app (goodIn_of _ (by decide +kernel)) ggX5_make_X5_isSide
set_option maxRecDepth 100000 in
theorem ggX5_make_X3_init : GoodIn wsX5_make wsX3_init := goodIn_r _ [12, 13, 14, 15, 16, 17, 18, 19, 20, 21, 22, 23, 24, 25, 26, 27, 28, 29, 30, 31, 32, 38, 39, 40, 41, 42, 43, 44, 45, 46] rfl (by decide +kernel)
set_option maxRecDepth 20000 in
theorem gX5_make_X3_init : GoodIn wsX5_make (wsX3_init) := ggX5_make_X3_init
theorem dX5_make_0 : decode cX5_make 0 = .ok (.iload_n 1, 1) := by decide +kernel
theorem dX5_make_1 : decode cX5_make 1 = .ok (.iconst 1, 1) := by decide +kernel
theorem dX5_make_2 : decode cX5_make 2 = .ok (.if_icmp .eq 14, 3) := by decide +kernel
theorem dX5_make_5 : decode cX5_make 5 = .ok (.iload_n 1, 1) := by decide +kernel
theorem dX5_make_6 : decode cX5_make 6 = .ok (.iconst 4, 1) := by decide +kernel
theorem dX5_make_7 : decode cX5_make 7 = .ok (.if_icmp .eq 9, 3) := by decide +kernel
theorem dX5_make_10 : decode cX5_make 10 = .ok (.iload_n 1, 1) := by decide +kernel
theorem dX5_make_11 : decode cX5_make 11 = .ok (.bipush 8, 2) := by decide +kernel
theorem dX5_make_13 : decode cX5_make 13 = .ok (.if_icmp .ne 7, 3) := by decide +kernel
theorem dX5_make_16 : decode cX5_make 16 = .ok (.iconst 1, 1) := by decide +kernel
theorem dX5_make_17 : decode cX5_make 17 = .ok (.goto 4, 3) := by decide +kernel
theorem dX5_make_20 : decode cX5_make 20 = .ok (.iconst 0, 1) := by decide +kernel
theorem dX5_make_21 : decode cX5_make 21 = .ok (.istore 4, 2) := by decide +kernel
theorem dX5_make_23 : decode cX5_make 23 = .ok (.iload_n 2, 1) := by decide +kernel
theorem dX5_make_24 : decode cX5_make 24 = .ok (.ifCond .le 25, 3) := by decide +kernel
theorem dX5_make_27 : decode cX5_make 27 = .ok (.iload_n 3, 1) := by decide +kernel
theorem dX5_make_28 : decode cX5_make 28 = .ok (.ifCond .le 21, 3) := by decide +kernel
theorem dX5_make_31 : decode cX5_make 31 = .ok (.iload_n 2, 1) := by decide +kernel
theorem dX5_make_32 : decode cX5_make 32 = .ok (.invokestatic 34, 3) := by decide +kernel
theorem dX5_make_35 : decode cX5_make 35 = .ok (.ifCond .eq 14, 3) := by decide +kernel
theorem dX5_make_38 : decode cX5_make 38 = .ok (.iload_n 3, 1) := by decide +kernel
theorem dX5_make_39 : decode cX5_make 39 = .ok (.invokestatic 34, 3) := by decide +kernel
theorem dX5_make_42 : decode cX5_make 42 = .ok (.ifCond .eq 7, 3) := by decide +kernel
theorem dX5_make_45 : decode cX5_make 45 = .ok (.iconst 1, 1) := by decide +kernel
theorem dX5_make_46 : decode cX5_make 46 = .ok (.goto 4, 3) := by decide +kernel
theorem dX5_make_49 : decode cX5_make 49 = .ok (.iconst 0, 1) := by decide +kernel
theorem dX5_make_50 : decode cX5_make 50 = .ok (.istore 5, 2) := by decide +kernel
theorem dX5_make_52 : decode cX5_make 52 = .ok (.iload 4, 2) := by decide +kernel
theorem dX5_make_54 : decode cX5_make 54 = .ok (.ifCond .eq 17, 3) := by decide +kernel
theorem dX5_make_57 : decode cX5_make 57 = .ok (.iload 5, 2) := by decide +kernel
theorem dX5_make_59 : decode cX5_make 59 = .ok (.ifCond .eq 12, 3) := by decide +kernel
theorem dX5_make_62 : decode cX5_make 62 = .ok (.aload_n 0, 1) := by decide +kernel
theorem dX5_make_63 : decode cX5_make 63 = .ok (.getfield 15, 3) := by decide +kernel
theorem dX5_make_66 : decode cX5_make 66 = .ok (.bipush 8, 2) := by decide +kernel
theorem dX5_make_68 : decode cX5_make 68 = .ok (.if_icmp .lt 5, 3) := by decide +kernel
theorem dX5_make_71 : decode cX5_make 71 = .ok (.iconst (-1), 1) := by decide +kernel
theorem dX5_make_72 : decode cX5_make 72 = .ok (.ireturn, 1) := by decide +kernel
theorem dX5_make_73 : decode cX5_make 73 = .ok (.aload_n 0, 1) := by decide +kernel
theorem dX5_make_74 : decode cX5_make 74 = .ok (.getfield 11, 3) := by decide +kernel
theorem dX5_make_77 : decode cX5_make 77 = .ok (.aload_n 0, 1) := by decide +kernel
theorem dX5_make_78 : decode cX5_make 78 = .ok (.getfield 15, 3) := by decide +kernel
theorem dX5_make_81 : decode cX5_make 81 = .ok (.new 9, 3) := by decide +kernel
theorem dX5_make_84 : decode cX5_make 84 = .ok (.dup, 1) := by decide +kernel
theorem dX5_make_85 : decode cX5_make 85 = .ok (.iload_n 1, 1) := by decide +kernel
theorem dX5_make_86 : decode cX5_make 86 = .ok (.iload_n 2, 1) := by decide +kernel
theorem dX5_make_87 : decode cX5_make 87 = .ok (.iload_n 3, 1) := by decide +kernel
theorem dX5_make_88 : decode cX5_make 88 = .ok (.invokespecial 38, 3) := by decide +kernel
theorem dX5_make_91 : decode cX5_make 91 = .ok (.aastore, 1) := by decide +kernel
theorem dX5_make_92 : decode cX5_make 92 = .ok (.aload_n 0, 1) := by decide +kernel
theorem dX5_make_93 : decode cX5_make 93 = .ok (.dup, 1) := by decide +kernel
theorem dX5_make_94 : decode cX5_make 94 = .ok (.getfield 15, 3) := by decide +kernel
theorem dX5_make_97 : decode cX5_make 97 = .ok (.iconst 1, 1) := by decide +kernel
theorem dX5_make_98 : decode cX5_make 98 = .ok (.iadd, 1) := by decide +kernel
theorem dX5_make_99 : decode cX5_make 99 = .ok (.putfield 15, 3) := by decide +kernel
theorem dX5_make_102 : decode cX5_make 102 = .ok (.aload_n 0, 1) := by decide +kernel
theorem dX5_make_103 : decode cX5_make 103 = .ok (.getfield 15, 3) := by decide +kernel
theorem dX5_make_106 : decode cX5_make 106 = .ok (.iconst 1, 1) := by decide +kernel
theorem dX5_make_107 : decode cX5_make 107 = .ok (.isub, 1) := by decide +kernel
theorem dX5_make_108 : decode cX5_make 108 = .ok (.ireturn, 1) := by decide +kernel
set_option maxRecDepth 100000 in
theorem ggX5_clip_X5_surfaceAt : GoodIn wsX5_clip wsX5_surfaceAt := goodIn_r _ [10, 11, 12, 52, 53, 54, 55, 56] rfl (by decide +kernel)
set_option maxRecDepth 20000 in
theorem gX5_clip_X5_surfaceAt : GoodIn wsX5_clip (wsV RX5 41 RX5 yX5_surfaceAt wsX5_surfaceAt) := goodIn_app (goodIn_of _ (by decide +kernel)) ggX5_clip_X5_surfaceAt
set_option maxRecDepth 100000 in
theorem ggX5_clip_X5_isSide : GoodIn wsX5_clip wsX5_isSide := goodIn_r _ [15] rfl (by decide +kernel)
set_option maxRecDepth 20000 in
theorem gX5_clip_X5_isSide : GoodIn wsX5_clip (va_wsS RX5 34 yX5_isSide wsX5_isSide) := goodIn_app (goodIn_of _ (by decide +kernel)) ggX5_clip_X5_isSide
set_option maxRecDepth 100000 in
theorem ggX5_clip_X0_init : GoodIn wsX5_clip wsX0_init := goodIn_r _ [18, 19, 20, 21, 22, 23, 24, 25, 48, 49, 50, 51] rfl (by decide +kernel)
set_option maxRecDepth 20000 in
theorem gX5_clip_X0_init : GoodIn wsX5_clip (wsX0_init) := ggX5_clip_X0_init
set_option maxRecDepth 100000 in
theorem ggX5_clip_X0_shared : GoodIn wsX5_clip wsX0_shared := goodIn_r _ [29, 22, 30, 31, 32, 33, 23, 24, 34, 35, 36, 25, 37, 3, 4, 38, 17, 18, 19, 20, 21, 48, 49, 50, 51] rfl (by decide +kernel)
set_option maxRecDepth 20000 in
theorem gX5_clip_X0_shared : GoodIn wsX5_clip (wsV RX5 54 RX0 yX0_shared wsX0_shared) := goodIn_app (goodIn_of _ (by decide +kernel)) ggX5_clip_X0_shared
set_option maxRecDepth 100000 in
theorem ggX5_clip_X0_size : GoodIn wsX5_clip wsX0_size := goodIn_r _ [42, 24, 25, 48, 49, 50, 51] rfl (by decide +kernel)
set_option maxRecDepth 20000 in
theorem gX5_clip_X0_size : GoodIn wsX5_clip (wsV RX5 61 RX0 yX0_size wsX0_size) := goodIn_app (goodIn_of _ (by decide +kernel)) ggX5_clip_X0_size
theorem dX5_clip_0 : decode cX5_clip 0 = .ok (.aload_n 0, 1) := by decide +kernel
theorem dX5_clip_1 : decode cX5_clip 1 = .ok (.iload_n 1, 1) := by decide +kernel
theorem dX5_clip_2 : decode cX5_clip 2 = .ok (.invokevirtual 41, 3) := by decide +kernel
theorem dX5_clip_5 : decode cX5_clip 5 = .ok (.astore 6, 2) := by decide +kernel
theorem dX5_clip_7 : decode cX5_clip 7 = .ok (.aload 6, 2) := by decide +kernel
theorem dX5_clip_9 : decode cX5_clip 9 = .ok (.ifnull 19, 3) := by decide +kernel
theorem dX5_clip_12 : decode cX5_clip 12 = .ok (.iload 4, 2) := by decide +kernel
theorem dX5_clip_14 : decode cX5_clip 14 = .ok (.invokestatic 34, 3) := by decide +kernel
theorem dX5_clip_17 : decode cX5_clip 17 = .ok (.ifCond .eq 11, 3) := by decide +kernel
theorem dX5_clip_20 : decode cX5_clip 20 = .ok (.iload 5, 2) := by decide +kernel
theorem dX5_clip_22 : decode cX5_clip 22 = .ok (.invokestatic 34, 3) := by decide +kernel
theorem dX5_clip_25 : decode cX5_clip 25 = .ok (.ifCond .ne 5, 3) := by decide +kernel
theorem dX5_clip_28 : decode cX5_clip 28 = .ok (.iconst (-1), 1) := by decide +kernel
theorem dX5_clip_29 : decode cX5_clip 29 = .ok (.ireturn, 1) := by decide +kernel
theorem dX5_clip_30 : decode cX5_clip 30 = .ok (.aload 6, 2) := by decide +kernel
theorem dX5_clip_32 : decode cX5_clip 32 = .ok (.aload 6, 2) := by decide +kernel
theorem dX5_clip_34 : decode cX5_clip 34 = .ok (.getfield 45, 3) := by decide +kernel
theorem dX5_clip_37 : decode cX5_clip 37 = .ok (.new 49, 3) := by decide +kernel
theorem dX5_clip_40 : decode cX5_clip 40 = .ok (.dup, 1) := by decide +kernel
theorem dX5_clip_41 : decode cX5_clip 41 = .ok (.iload_n 2, 1) := by decide +kernel
theorem dX5_clip_42 : decode cX5_clip 42 = .ok (.i2l, 1) := by decide +kernel
theorem dX5_clip_43 : decode cX5_clip 43 = .ok (.iload_n 3, 1) := by decide +kernel
theorem dX5_clip_44 : decode cX5_clip 44 = .ok (.i2l, 1) := by decide +kernel
theorem dX5_clip_45 : decode cX5_clip 45 = .ok (.iload 4, 2) := by decide +kernel
theorem dX5_clip_47 : decode cX5_clip 47 = .ok (.iload 5, 2) := by decide +kernel
theorem dX5_clip_49 : decode cX5_clip 49 = .ok (.invokespecial 51, 3) := by decide +kernel
theorem dX5_clip_52 : decode cX5_clip 52 = .ok (.invokevirtual 54, 3) := by decide +kernel
theorem dX5_clip_55 : decode cX5_clip 55 = .ok (.putfield 58, 3) := by decide +kernel
theorem dX5_clip_58 : decode cX5_clip 58 = .ok (.aload 6, 2) := by decide +kernel
theorem dX5_clip_60 : decode cX5_clip 60 = .ok (.getfield 58, 3) := by decide +kernel
theorem dX5_clip_63 : decode cX5_clip 63 = .ok (.invokevirtual 61, 3) := by decide +kernel
theorem dX5_clip_66 : decode cX5_clip 66 = .ok (.ireturn, 1) := by decide +kernel
set_option maxRecDepth 100000 in
theorem ggX5_set_X5_surfaceAt : GoodIn wsX5_set wsX5_surfaceAt := goodIn_r _ [7, 8, 9, 36, 37, 38, 39, 40] rfl (by decide +kernel)
set_option maxRecDepth 20000 in
theorem gX5_set_X5_surfaceAt : GoodIn wsX5_set (wsV RX5 41 RX5 yX5_surfaceAt wsX5_surfaceAt) := goodIn_app (goodIn_of _ (by decide +kernel)) ggX5_set_X5_surfaceAt
set_option maxRecDepth 100000 in
theorem ggX5_set_X0_holds : GoodIn wsX5_set wsX0_holds := goodIn_r _ [14, 15, 16, 17, 18, 41, 42, 43, 44] rfl (by decide +kernel)
set_option maxRecDepth 20000 in
theorem gX5_set_X0_holds : GoodIn wsX5_set (wsV RX5 65 RX0 yX0_holds wsX0_holds) := goodIn_app (goodIn_of _ (by decide +kernel)) ggX5_set_X0_holds
set_option maxRecDepth 100000 in
theorem ggX5_set_X3_fits : GoodIn wsX5_set wsX3_fits := goodIn_r _ [23, 24, 31, 32, 33, 34, 35] rfl (by decide +kernel)
set_option maxRecDepth 20000 in
theorem gX5_set_X3_fits : GoodIn wsX5_set (wsV RX5 69 RX3 yX3_fits wsX3_fits) := goodIn_app (goodIn_of _ (by decide +kernel)) ggX5_set_X3_fits
set_option maxRecDepth 100000 in
theorem ggX5_set_X3_indexOf : GoodIn wsX5_set wsX3_indexOf := goodIn_r _ [28, 29, 30, 31, 32, 33, 34, 35, 41, 42, 43, 44] rfl (by decide +kernel)
set_option maxRecDepth 20000 in
theorem gX5_set_X3_indexOf : GoodIn wsX5_set (wsV RX5 75 RX3 yX3_indexOf wsX3_indexOf) := goodIn_app (goodIn_of _ (by decide +kernel)) ggX5_set_X3_indexOf
theorem dX5_set_0 : decode cX5_set 0 = .ok (.aload_n 0, 1) := by decide +kernel
theorem dX5_set_1 : decode cX5_set 1 = .ok (.iload_n 1, 1) := by decide +kernel
theorem dX5_set_2 : decode cX5_set 2 = .ok (.invokevirtual 41, 3) := by decide +kernel
theorem dX5_set_5 : decode cX5_set 5 = .ok (.astore 5, 2) := by decide +kernel
theorem dX5_set_7 : decode cX5_set 7 = .ok (.aload 5, 2) := by decide +kernel
theorem dX5_set_9 : decode cX5_set 9 = .ok (.ifnull 28, 3) := by decide +kernel
theorem dX5_set_12 : decode cX5_set 12 = .ok (.aload 5, 2) := by decide +kernel
theorem dX5_set_14 : decode cX5_set 14 = .ok (.getfield 45, 3) := by decide +kernel
theorem dX5_set_17 : decode cX5_set 17 = .ok (.iload_n 2, 1) := by decide +kernel
theorem dX5_set_18 : decode cX5_set 18 = .ok (.i2l, 1) := by decide +kernel
theorem dX5_set_19 : decode cX5_set 19 = .ok (.iload_n 3, 1) := by decide +kernel
theorem dX5_set_20 : decode cX5_set 20 = .ok (.i2l, 1) := by decide +kernel
theorem dX5_set_21 : decode cX5_set 21 = .ok (.invokevirtual 65, 3) := by decide +kernel
theorem dX5_set_24 : decode cX5_set 24 = .ok (.ifCond .eq 13, 3) := by decide +kernel
theorem dX5_set_27 : decode cX5_set 27 = .ok (.aload 5, 2) := by decide +kernel
theorem dX5_set_29 : decode cX5_set 29 = .ok (.iload 4, 2) := by decide +kernel
theorem dX5_set_31 : decode cX5_set 31 = .ok (.invokevirtual 69, 3) := by decide +kernel
theorem dX5_set_34 : decode cX5_set 34 = .ok (.ifCond .ne 5, 3) := by decide +kernel
theorem dX5_set_37 : decode cX5_set 37 = .ok (.iconst 0, 1) := by decide +kernel
theorem dX5_set_38 : decode cX5_set 38 = .ok (.ireturn, 1) := by decide +kernel
theorem dX5_set_39 : decode cX5_set 39 = .ok (.aload 5, 2) := by decide +kernel
theorem dX5_set_41 : decode cX5_set 41 = .ok (.getfield 72, 3) := by decide +kernel
theorem dX5_set_44 : decode cX5_set 44 = .ok (.aload 5, 2) := by decide +kernel
theorem dX5_set_46 : decode cX5_set 46 = .ok (.iload_n 2, 1) := by decide +kernel
theorem dX5_set_47 : decode cX5_set 47 = .ok (.i2l, 1) := by decide +kernel
theorem dX5_set_48 : decode cX5_set 48 = .ok (.iload_n 3, 1) := by decide +kernel
theorem dX5_set_49 : decode cX5_set 49 = .ok (.i2l, 1) := by decide +kernel
theorem dX5_set_50 : decode cX5_set 50 = .ok (.invokevirtual 75, 3) := by decide +kernel
theorem dX5_set_53 : decode cX5_set 53 = .ok (.iload 4, 2) := by decide +kernel
theorem dX5_set_55 : decode cX5_set 55 = .ok (.iastore, 1) := by decide +kernel
theorem dX5_set_56 : decode cX5_set 56 = .ok (.iconst 1, 1) := by decide +kernel
theorem dX5_set_57 : decode cX5_set 57 = .ok (.ireturn, 1) := by decide +kernel
set_option maxRecDepth 100000 in
theorem ggX5_get_X5_surfaceAt : GoodIn wsX5_get wsX5_surfaceAt := goodIn_r _ [7, 8, 9, 31, 32, 33, 34, 35] rfl (by decide +kernel)
set_option maxRecDepth 20000 in
theorem gX5_get_X5_surfaceAt : GoodIn wsX5_get (wsV RX5 41 RX5 yX5_surfaceAt wsX5_surfaceAt) := goodIn_app (goodIn_of _ (by decide +kernel)) ggX5_get_X5_surfaceAt
set_option maxRecDepth 100000 in
theorem ggX5_get_X0_holds : GoodIn wsX5_get wsX0_holds := goodIn_r _ [14, 15, 16, 17, 18, 36, 37, 38, 39] rfl (by decide +kernel)
set_option maxRecDepth 20000 in
theorem gX5_get_X0_holds : GoodIn wsX5_get (wsV RX5 65 RX0 yX0_holds wsX0_holds) := goodIn_app (goodIn_of _ (by decide +kernel)) ggX5_get_X0_holds
set_option maxRecDepth 100000 in
theorem ggX5_get_X3_indexOf : GoodIn wsX5_get wsX3_indexOf := goodIn_r _ [23, 24, 25, 26, 27, 28, 29, 30, 36, 37, 38, 39] rfl (by decide +kernel)
set_option maxRecDepth 20000 in
theorem gX5_get_X3_indexOf : GoodIn wsX5_get (wsV RX5 75 RX3 yX3_indexOf wsX3_indexOf) := goodIn_app (goodIn_of _ (by decide +kernel)) ggX5_get_X3_indexOf
theorem dX5_get_0 : decode cX5_get 0 = .ok (.aload_n 0, 1) := by decide +kernel
theorem dX5_get_1 : decode cX5_get 1 = .ok (.iload_n 1, 1) := by decide +kernel
theorem dX5_get_2 : decode cX5_get 2 = .ok (.invokevirtual 41, 3) := by decide +kernel
theorem dX5_get_5 : decode cX5_get 5 = .ok (.astore 4, 2) := by decide +kernel
theorem dX5_get_7 : decode cX5_get 7 = .ok (.aload 4, 2) := by decide +kernel
theorem dX5_get_9 : decode cX5_get 9 = .ok (.ifnull 18, 3) := by decide +kernel
theorem dX5_get_12 : decode cX5_get 12 = .ok (.aload 4, 2) := by decide +kernel
theorem dX5_get_14 : decode cX5_get 14 = .ok (.getfield 45, 3) := by decide +kernel
theorem dX5_get_17 : decode cX5_get 17 = .ok (.iload_n 2, 1) := by decide +kernel
theorem dX5_get_18 : decode cX5_get 18 = .ok (.i2l, 1) := by decide +kernel
theorem dX5_get_19 : decode cX5_get 19 = .ok (.iload_n 3, 1) := by decide +kernel
theorem dX5_get_20 : decode cX5_get 20 = .ok (.i2l, 1) := by decide +kernel
theorem dX5_get_21 : decode cX5_get 21 = .ok (.invokevirtual 65, 3) := by decide +kernel
theorem dX5_get_24 : decode cX5_get 24 = .ok (.ifCond .ne 5, 3) := by decide +kernel
theorem dX5_get_27 : decode cX5_get 27 = .ok (.iconst (-1), 1) := by decide +kernel
theorem dX5_get_28 : decode cX5_get 28 = .ok (.ireturn, 1) := by decide +kernel
theorem dX5_get_29 : decode cX5_get 29 = .ok (.aload 4, 2) := by decide +kernel
theorem dX5_get_31 : decode cX5_get 31 = .ok (.getfield 72, 3) := by decide +kernel
theorem dX5_get_34 : decode cX5_get 34 = .ok (.aload 4, 2) := by decide +kernel
theorem dX5_get_36 : decode cX5_get 36 = .ok (.iload_n 2, 1) := by decide +kernel
theorem dX5_get_37 : decode cX5_get 37 = .ok (.i2l, 1) := by decide +kernel
theorem dX5_get_38 : decode cX5_get 38 = .ok (.iload_n 3, 1) := by decide +kernel
theorem dX5_get_39 : decode cX5_get 39 = .ok (.i2l, 1) := by decide +kernel
theorem dX5_get_40 : decode cX5_get 40 = .ok (.invokevirtual 75, 3) := by decide +kernel
theorem dX5_get_43 : decode cX5_get 43 = .ok (.iaload, 1) := by decide +kernel
theorem dX5_get_44 : decode cX5_get 44 = .ok (.ireturn, 1) := by decide +kernel
set_option maxRecDepth 100000 in
theorem ggX5_told_X5_surfaceAt : GoodIn wsX5_told wsX5_surfaceAt := goodIn_r _ [12, 13, 14, 24, 25, 26, 27, 28] rfl (by decide +kernel)
set_option maxRecDepth 20000 in
theorem gX5_told_X5_surfaceAt : GoodIn wsX5_told (wsV RX5 41 RX5 yX5_surfaceAt wsX5_surfaceAt) := goodIn_app (goodIn_of _ (by decide +kernel)) ggX5_told_X5_surfaceAt
theorem dX5_told_0 : decode cX5_told 0 = .ok (.aload_n 0, 1) := by decide +kernel
theorem dX5_told_1 : decode cX5_told 1 = .ok (.iload_n 1, 1) := by decide +kernel
theorem dX5_told_2 : decode cX5_told 2 = .ok (.invokevirtual 41, 3) := by decide +kernel
theorem dX5_told_5 : decode cX5_told 5 = .ok (.astore_n 3, 1) := by decide +kernel
theorem dX5_told_6 : decode cX5_told 6 = .ok (.aload_n 3, 1) := by decide +kernel
theorem dX5_told_7 : decode cX5_told 7 = .ok (.ifnonnull 5, 3) := by decide +kernel
theorem dX5_told_10 : decode cX5_told 10 = .ok (.iconst (-1), 1) := by decide +kernel
theorem dX5_told_11 : decode cX5_told 11 = .ok (.ireturn, 1) := by decide +kernel
theorem dX5_told_12 : decode cX5_told 12 = .ok (.iload_n 2, 1) := by decide +kernel
theorem dX5_told_13 : decode cX5_told 13 = .ok (.tableswitch 98 0 6 #[43, 48, 56, 64, 73, 82, 90], 43) := by decide +kernel
theorem dX5_told_56 : decode cX5_told 56 = .ok (.aload_n 3, 1) := by decide +kernel
theorem dX5_told_57 : decode cX5_told 57 = .ok (.getfield 79, 3) := by decide +kernel
theorem dX5_told_60 : decode cX5_told 60 = .ok (.ireturn, 1) := by decide +kernel
theorem dX5_told_61 : decode cX5_told 61 = .ok (.aload_n 3, 1) := by decide +kernel
theorem dX5_told_62 : decode cX5_told 62 = .ok (.getfield 45, 3) := by decide +kernel
theorem dX5_told_65 : decode cX5_told 65 = .ok (.getfield 82, 3) := by decide +kernel
theorem dX5_told_68 : decode cX5_told 68 = .ok (.ireturn, 1) := by decide +kernel
theorem dX5_told_69 : decode cX5_told 69 = .ok (.aload_n 3, 1) := by decide +kernel
theorem dX5_told_70 : decode cX5_told 70 = .ok (.getfield 45, 3) := by decide +kernel
theorem dX5_told_73 : decode cX5_told 73 = .ok (.getfield 85, 3) := by decide +kernel
theorem dX5_told_76 : decode cX5_told 76 = .ok (.ireturn, 1) := by decide +kernel
theorem dX5_told_77 : decode cX5_told 77 = .ok (.aload_n 3, 1) := by decide +kernel
theorem dX5_told_78 : decode cX5_told 78 = .ok (.getfield 58, 3) := by decide +kernel
theorem dX5_told_81 : decode cX5_told 81 = .ok (.getfield 88, 3) := by decide +kernel
theorem dX5_told_84 : decode cX5_told 84 = .ok (.l2i, 1) := by decide +kernel
theorem dX5_told_85 : decode cX5_told 85 = .ok (.ireturn, 1) := by decide +kernel
theorem dX5_told_86 : decode cX5_told 86 = .ok (.aload_n 3, 1) := by decide +kernel
theorem dX5_told_87 : decode cX5_told 87 = .ok (.getfield 58, 3) := by decide +kernel
theorem dX5_told_90 : decode cX5_told 90 = .ok (.getfield 92, 3) := by decide +kernel
theorem dX5_told_93 : decode cX5_told 93 = .ok (.l2i, 1) := by decide +kernel
theorem dX5_told_94 : decode cX5_told 94 = .ok (.ireturn, 1) := by decide +kernel
theorem dX5_told_95 : decode cX5_told 95 = .ok (.aload_n 3, 1) := by decide +kernel
theorem dX5_told_96 : decode cX5_told 96 = .ok (.getfield 58, 3) := by decide +kernel
theorem dX5_told_99 : decode cX5_told 99 = .ok (.getfield 82, 3) := by decide +kernel
theorem dX5_told_102 : decode cX5_told 102 = .ok (.ireturn, 1) := by decide +kernel
theorem dX5_told_103 : decode cX5_told 103 = .ok (.aload_n 3, 1) := by decide +kernel
theorem dX5_told_104 : decode cX5_told 104 = .ok (.getfield 58, 3) := by decide +kernel
theorem dX5_told_107 : decode cX5_told 107 = .ok (.getfield 85, 3) := by decide +kernel
theorem dX5_told_110 : decode cX5_told 110 = .ok (.ireturn, 1) := by decide +kernel
theorem dX5_told_111 : decode cX5_told 111 = .ok (.iconst (-1), 1) := by decide +kernel
theorem dX5_told_112 : decode cX5_told 112 = .ok (.ireturn, 1) := by decide +kernel
set_option maxRecDepth 100000 in
theorem ggX5_fill_X5_surfaceAt : GoodIn wsX5_fill wsX5_surfaceAt := goodIn_r _ [10, 11, 12, 87, 88, 89, 90, 91] rfl (by decide +kernel)
set_option maxRecDepth 20000 in
theorem gX5_fill_X5_surfaceAt : GoodIn wsX5_fill (wsV RX5 41 RX5 yX5_surfaceAt wsX5_surfaceAt) := goodIn_app (goodIn_of _ (by decide +kernel)) ggX5_fill_X5_surfaceAt
set_option maxRecDepth 100000 in
theorem ggX5_fill_X3_fits : GoodIn wsX5_fill wsX3_fits := goodIn_r _ [17, 18, 78, 79, 80, 81, 82] rfl (by decide +kernel)
set_option maxRecDepth 20000 in
theorem gX5_fill_X3_fits : GoodIn wsX5_fill (wsV RX5 69 RX3 yX3_fits wsX3_fits) := goodIn_app (goodIn_of _ (by decide +kernel)) ggX5_fill_X3_fits
set_option maxRecDepth 100000 in
theorem ggX5_fill_X5_isOperation : GoodIn wsX5_fill wsX5_isOperation := goodIn_r _ [21] rfl (by decide +kernel)
set_option maxRecDepth 20000 in
theorem gX5_fill_X5_isOperation : GoodIn wsX5_fill (va_wsS RX5 95 yX5_isOperation wsX5_isOperation) := goodIn_app (goodIn_of _ (by decide +kernel)) ggX5_fill_X5_isOperation
set_option maxRecDepth 100000 in
theorem ggX5_fill_X5_isSide : GoodIn wsX5_fill wsX5_isSide := goodIn_r _ [24] rfl (by decide +kernel)
set_option maxRecDepth 20000 in
theorem gX5_fill_X5_isSide : GoodIn wsX5_fill (va_wsS RX5 34 yX5_isSide wsX5_isSide) := goodIn_app (goodIn_of _ (by decide +kernel)) ggX5_fill_X5_isSide
set_option maxRecDepth 100000 in
theorem ggX5_fill_X0_init : GoodIn wsX5_fill wsX0_init := goodIn_r _ [27, 28, 29, 30, 31, 32, 33, 34, 83, 84, 85, 86] rfl (by decide +kernel)
set_option maxRecDepth 20000 in
theorem gX5_fill_X0_init : GoodIn wsX5_fill (wsX0_init) := ggX5_fill_X0_init
set_option maxRecDepth 100000 in
theorem ggX5_fill_X0_shared : GoodIn wsX5_fill wsX0_shared := goodIn_r _ [38, 31, 39, 40, 41, 42, 32, 33, 43, 44, 45, 34, 46, 3, 4, 47, 26, 27, 28, 29, 30, 83, 84, 85, 86] rfl (by decide +kernel)
set_option maxRecDepth 20000 in
theorem gX5_fill_X0_shared : GoodIn wsX5_fill (wsV RX5 54 RX0 yX0_shared wsX0_shared) := goodIn_app (goodIn_of _ (by decide +kernel)) ggX5_fill_X0_shared
set_option maxRecDepth 100000 in
theorem ggX5_fill_X0_size : GoodIn wsX5_fill wsX0_size := goodIn_r _ [51, 33, 34, 83, 84, 85, 86] rfl (by decide +kernel)
set_option maxRecDepth 20000 in
theorem gX5_fill_X0_size : GoodIn wsX5_fill (wsV RX5 61 RX0 yX0_size wsX0_size) := goodIn_app (goodIn_of _ (by decide +kernel)) ggX5_fill_X0_size
set_option maxRecDepth 100000 in
theorem ggX5_fill_J7_fill_fda19 : GoodIn wsX5_fill wsJ7_fill_fda19 := goodIn_r _ [55, 56, 57, 54, 58] rfl (by decide +kernel)
set_option maxRecDepth 20000 in
theorem gX5_fill_J7_fill_fda19 : GoodIn wsX5_fill (va_wsS RX5 98 yJ7_fill_fda19 wsJ7_fill_fda19) := goodIn_app (goodIn_of _ (by decide +kernel)) ggX5_fill_J7_fill_fda19
set_option maxRecDepth 100000 in
theorem ggX5_fill_X5_putDots : GoodIn wsX5_fill wsX5_putDots := goodIn_r _ [62, 63, 64, 65, 66, 5, 67, 68, 69, 70, 71, 16, 72, 73, 74, 75, 76, 9, 77, 83, 84, 85, 86, 87, 88, 89, 90, 91, 78, 79, 80, 81, 82] rfl (by decide +kernel)
set_option maxRecDepth 20000 in
theorem gX5_fill_X5_putDots : GoodIn wsX5_fill (wsV RX5 104 RX5 yX5_putDots wsX5_putDots) := goodIn_app (goodIn_of _ (by decide +kernel)) ggX5_fill_X5_putDots
theorem dX5_fill_0 : decode cX5_fill 0 = .ok (.aload_n 0, 1) := by decide +kernel
theorem dX5_fill_1 : decode cX5_fill 1 = .ok (.iload_n 1, 1) := by decide +kernel
theorem dX5_fill_2 : decode cX5_fill 2 = .ok (.invokevirtual 41, 3) := by decide +kernel
theorem dX5_fill_5 : decode cX5_fill 5 = .ok (.astore 8, 2) := by decide +kernel
theorem dX5_fill_7 : decode cX5_fill 7 = .ok (.aload 8, 2) := by decide +kernel
theorem dX5_fill_9 : decode cX5_fill 9 = .ok (.ifnull 37, 3) := by decide +kernel
theorem dX5_fill_12 : decode cX5_fill 12 = .ok (.aload 8, 2) := by decide +kernel
theorem dX5_fill_14 : decode cX5_fill 14 = .ok (.iload 6, 2) := by decide +kernel
theorem dX5_fill_16 : decode cX5_fill 16 = .ok (.invokevirtual 69, 3) := by decide +kernel
theorem dX5_fill_19 : decode cX5_fill 19 = .ok (.ifCond .eq 27, 3) := by decide +kernel
theorem dX5_fill_22 : decode cX5_fill 22 = .ok (.iload 7, 2) := by decide +kernel
theorem dX5_fill_24 : decode cX5_fill 24 = .ok (.invokestatic 95, 3) := by decide +kernel
theorem dX5_fill_27 : decode cX5_fill 27 = .ok (.ifCond .eq 19, 3) := by decide +kernel
theorem dX5_fill_30 : decode cX5_fill 30 = .ok (.iload 4, 2) := by decide +kernel
theorem dX5_fill_32 : decode cX5_fill 32 = .ok (.invokestatic 34, 3) := by decide +kernel
theorem dX5_fill_35 : decode cX5_fill 35 = .ok (.ifCond .eq 11, 3) := by decide +kernel
theorem dX5_fill_38 : decode cX5_fill 38 = .ok (.iload 5, 2) := by decide +kernel
theorem dX5_fill_40 : decode cX5_fill 40 = .ok (.invokestatic 34, 3) := by decide +kernel
theorem dX5_fill_43 : decode cX5_fill 43 = .ok (.ifCond .ne 5, 3) := by decide +kernel
theorem dX5_fill_46 : decode cX5_fill 46 = .ok (.iconst (-1), 1) := by decide +kernel
theorem dX5_fill_47 : decode cX5_fill 47 = .ok (.ireturn, 1) := by decide +kernel
theorem dX5_fill_48 : decode cX5_fill 48 = .ok (.aload 8, 2) := by decide +kernel
theorem dX5_fill_50 : decode cX5_fill 50 = .ok (.getfield 58, 3) := by decide +kernel
theorem dX5_fill_53 : decode cX5_fill 53 = .ok (.new 49, 3) := by decide +kernel
theorem dX5_fill_56 : decode cX5_fill 56 = .ok (.dup, 1) := by decide +kernel
theorem dX5_fill_57 : decode cX5_fill 57 = .ok (.iload_n 2, 1) := by decide +kernel
theorem dX5_fill_58 : decode cX5_fill 58 = .ok (.i2l, 1) := by decide +kernel
theorem dX5_fill_59 : decode cX5_fill 59 = .ok (.iload_n 3, 1) := by decide +kernel
theorem dX5_fill_60 : decode cX5_fill 60 = .ok (.i2l, 1) := by decide +kernel
theorem dX5_fill_61 : decode cX5_fill 61 = .ok (.iload 4, 2) := by decide +kernel
theorem dX5_fill_63 : decode cX5_fill 63 = .ok (.iload 5, 2) := by decide +kernel
theorem dX5_fill_65 : decode cX5_fill 65 = .ok (.invokespecial 51, 3) := by decide +kernel
theorem dX5_fill_68 : decode cX5_fill 68 = .ok (.invokevirtual 54, 3) := by decide +kernel
theorem dX5_fill_71 : decode cX5_fill 71 = .ok (.astore 9, 2) := by decide +kernel
theorem dX5_fill_73 : decode cX5_fill 73 = .ok (.aload_n 0, 1) := by decide +kernel
theorem dX5_fill_74 : decode cX5_fill 74 = .ok (.getfield 30, 3) := by decide +kernel
theorem dX5_fill_77 : decode cX5_fill 77 = .ok (.iconst 0, 1) := by decide +kernel
theorem dX5_fill_78 : decode cX5_fill 78 = .ok (.aload 9, 2) := by decide +kernel
theorem dX5_fill_80 : decode cX5_fill 80 = .ok (.invokevirtual 61, 3) := by decide +kernel
theorem dX5_fill_83 : decode cX5_fill 83 = .ok (.iload 6, 2) := by decide +kernel
theorem dX5_fill_85 : decode cX5_fill 85 = .ok (.invokestatic 98, 3) := by decide +kernel
theorem dX5_fill_88 : decode cX5_fill 88 = .ok (.aload_n 0, 1) := by decide +kernel
theorem dX5_fill_89 : decode cX5_fill 89 = .ok (.aload 8, 2) := by decide +kernel
theorem dX5_fill_91 : decode cX5_fill 91 = .ok (.aload 9, 2) := by decide +kernel
theorem dX5_fill_93 : decode cX5_fill 93 = .ok (.iload 7, 2) := by decide +kernel
theorem dX5_fill_95 : decode cX5_fill 95 = .ok (.invokevirtual 104, 3) := by decide +kernel
theorem dX5_fill_98 : decode cX5_fill 98 = .ok (.aload 9, 2) := by decide +kernel
theorem dX5_fill_100 : decode cX5_fill 100 = .ok (.invokevirtual 61, 3) := by decide +kernel
theorem dX5_fill_103 : decode cX5_fill 103 = .ok (.ireturn, 1) := by decide +kernel
set_option maxRecDepth 100000 in
theorem ggX5_copy_X5_surfaceAt : GoodIn wsX5_copy wsX5_surfaceAt := goodIn_r _ [10, 11, 12, 112, 113, 114, 115, 116] rfl (by decide +kernel)
set_option maxRecDepth 20000 in
theorem gX5_copy_X5_surfaceAt : GoodIn wsX5_copy (wsV RX5 41 RX5 yX5_surfaceAt wsX5_surfaceAt) := goodIn_app (goodIn_of _ (by decide +kernel)) ggX5_copy_X5_surfaceAt
set_option maxRecDepth 100000 in
theorem ggX5_copy_X0_init : GoodIn wsX5_copy wsX0_init := goodIn_r _ [15, 16, 17, 18, 19, 20, 21, 22, 104, 105, 106, 107] rfl (by decide +kernel)
set_option maxRecDepth 20000 in
theorem gX5_copy_X0_init : GoodIn wsX5_copy (wsX0_init) := ggX5_copy_X0_init
set_option maxRecDepth 100000 in
theorem ggX5_copy_X5_moveOf : GoodIn wsX5_copy wsX5_moveOf := goodIn_r _ [25, 26, 27, 28, 29, 30, 31, 32, 9, 33, 34, 35, 36, 37, 17, 18, 38, 39, 40, 41, 42, 43, 44, 45, 46, 47, 48, 3, 49, 19, 50, 51, 52, 53, 20, 21, 54, 55, 56, 22, 57, 2, 58, 14, 15, 16, 59, 60, 61, 62, 104, 105, 106, 107, 108, 109, 110, 111, 117, 118, 119, 120, 121] rfl (by decide +kernel)
set_option maxRecDepth 20000 in
theorem gX5_copy_X5_moveOf : GoodIn wsX5_copy (va_wsS RX5 108 yX5_moveOf wsX5_moveOf) := goodIn_app (goodIn_of _ (by decide +kernel)) ggX5_copy_X5_moveOf
set_option maxRecDepth 100000 in
theorem ggX5_copy_X1_keepsDepth : GoodIn wsX5_copy wsX1_keepsDepth := goodIn_r _ [66, 40, 67, 41, 108, 109, 110, 111, 117, 118, 119, 120, 121] rfl (by decide +kernel)
set_option maxRecDepth 20000 in
theorem gX5_copy_X1_keepsDepth : GoodIn wsX5_copy (wsV RX5 112 RX1 yX1_keepsDepth wsX1_keepsDepth) := goodIn_app (goodIn_of _ (by decide +kernel)) ggX5_copy_X1_keepsDepth
set_option maxRecDepth 100000 in
theorem ggX5_copy_X5_isOperation : GoodIn wsX5_copy wsX5_isOperation := goodIn_r _ [70] rfl (by decide +kernel)
set_option maxRecDepth 20000 in
theorem gX5_copy_X5_isOperation : GoodIn wsX5_copy (va_wsS RX5 95 yX5_isOperation wsX5_isOperation) := goodIn_app (goodIn_of _ (by decide +kernel)) ggX5_copy_X5_isOperation
set_option maxRecDepth 100000 in
theorem ggX5_copy_X5_takeDots : GoodIn wsX5_copy wsX5_takeDots := goodIn_r _ [74, 75, 27, 76, 77, 78, 79, 80, 26, 81, 82, 83, 84, 85, 86, 87, 88, 89, 90, 91, 108, 109, 110, 111, 104, 105, 106, 107, 117, 118, 119, 120, 121, 112, 113, 114, 115, 116] rfl (by decide +kernel)
set_option maxRecDepth 20000 in
theorem gX5_copy_X5_takeDots : GoodIn wsX5_copy (wsV RX5 118 RX5 yX5_takeDots wsX5_takeDots) := goodIn_app (goodIn_of _ (by decide +kernel)) ggX5_copy_X5_takeDots
set_option maxRecDepth 100000 in
theorem ggX5_copy_X5_putDots : GoodIn wsX5_copy wsX5_putDots := goodIn_r _ [95, 27, 77, 78, 26, 80, 79, 96, 85, 86, 87, 88, 89, 90, 91, 97, 98, 9, 99, 104, 105, 106, 107, 112, 113, 114, 115, 116, 117, 118, 119, 120, 121] rfl (by decide +kernel)
set_option maxRecDepth 20000 in
theorem gX5_copy_X5_putDots : GoodIn wsX5_copy (wsV RX5 104 RX5 yX5_putDots wsX5_putDots) := goodIn_app (goodIn_of _ (by decide +kernel)) ggX5_copy_X5_putDots
set_option maxRecDepth 100000 in
theorem ggX5_copy_X0_size : GoodIn wsX5_copy wsX0_size := goodIn_r _ [103, 21, 22, 104, 105, 106, 107] rfl (by decide +kernel)
set_option maxRecDepth 20000 in
theorem gX5_copy_X0_size : GoodIn wsX5_copy (wsV RX5 61 RX0 yX0_size wsX0_size) := goodIn_app (goodIn_of _ (by decide +kernel)) ggX5_copy_X0_size
theorem dX5_copy_0 : decode cX5_copy 0 = .ok (.aload_n 0, 1) := by decide +kernel
theorem dX5_copy_1 : decode cX5_copy 1 = .ok (.iload_n 1, 1) := by decide +kernel
theorem dX5_copy_2 : decode cX5_copy 2 = .ok (.invokevirtual 41, 3) := by decide +kernel
theorem dX5_copy_5 : decode cX5_copy 5 = .ok (.new 49, 3) := by decide +kernel
theorem dX5_copy_8 : decode cX5_copy 8 = .ok (.dup, 1) := by decide +kernel
theorem dX5_copy_9 : decode cX5_copy 9 = .ok (.iload_n 2, 1) := by decide +kernel
theorem dX5_copy_10 : decode cX5_copy 10 = .ok (.i2l, 1) := by decide +kernel
theorem dX5_copy_11 : decode cX5_copy 11 = .ok (.iload_n 3, 1) := by decide +kernel
theorem dX5_copy_12 : decode cX5_copy 12 = .ok (.i2l, 1) := by decide +kernel
theorem dX5_copy_13 : decode cX5_copy 13 = .ok (.iload 4, 2) := by decide +kernel
theorem dX5_copy_15 : decode cX5_copy 15 = .ok (.iload 5, 2) := by decide +kernel
theorem dX5_copy_17 : decode cX5_copy 17 = .ok (.invokespecial 51, 3) := by decide +kernel
theorem dX5_copy_20 : decode cX5_copy 20 = .ok (.aload_n 0, 1) := by decide +kernel
theorem dX5_copy_21 : decode cX5_copy 21 = .ok (.iload 6, 2) := by decide +kernel
theorem dX5_copy_23 : decode cX5_copy 23 = .ok (.invokevirtual 41, 3) := by decide +kernel
theorem dX5_copy_26 : decode cX5_copy 26 = .ok (.iload 7, 2) := by decide +kernel
theorem dX5_copy_28 : decode cX5_copy 28 = .ok (.iload 8, 2) := by decide +kernel
theorem dX5_copy_30 : decode cX5_copy 30 = .ok (.invokestatic 108, 3) := by decide +kernel
theorem dX5_copy_33 : decode cX5_copy 33 = .ok (.astore 10, 2) := by decide +kernel
theorem dX5_copy_35 : decode cX5_copy 35 = .ok (.aload 10, 2) := by decide +kernel
theorem dX5_copy_37 : decode cX5_copy 37 = .ok (.ifnull 19, 3) := by decide +kernel
theorem dX5_copy_40 : decode cX5_copy 40 = .ok (.aload 10, 2) := by decide +kernel
theorem dX5_copy_42 : decode cX5_copy 42 = .ok (.invokevirtual 112, 3) := by decide +kernel
theorem dX5_copy_45 : decode cX5_copy 45 = .ok (.ifCond .eq 11, 3) := by decide +kernel
theorem dX5_copy_48 : decode cX5_copy 48 = .ok (.iload 9, 2) := by decide +kernel
theorem dX5_copy_50 : decode cX5_copy 50 = .ok (.invokestatic 95, 3) := by decide +kernel
theorem dX5_copy_53 : decode cX5_copy 53 = .ok (.ifCond .ne 5, 3) := by decide +kernel
theorem dX5_copy_56 : decode cX5_copy 56 = .ok (.iconst (-1), 1) := by decide +kernel
theorem dX5_copy_57 : decode cX5_copy 57 = .ok (.ireturn, 1) := by decide +kernel
theorem dX5_copy_58 : decode cX5_copy 58 = .ok (.aload_n 0, 1) := by decide +kernel
theorem dX5_copy_59 : decode cX5_copy 59 = .ok (.aload 10, 2) := by decide +kernel
theorem dX5_copy_61 : decode cX5_copy 61 = .ok (.invokevirtual 118, 3) := by decide +kernel
theorem dX5_copy_64 : decode cX5_copy 64 = .ok (.aload_n 0, 1) := by decide +kernel
theorem dX5_copy_65 : decode cX5_copy 65 = .ok (.aload 10, 2) := by decide +kernel
theorem dX5_copy_67 : decode cX5_copy 67 = .ok (.getfield 122, 3) := by decide +kernel
theorem dX5_copy_70 : decode cX5_copy 70 = .ok (.aload 10, 2) := by decide +kernel
theorem dX5_copy_72 : decode cX5_copy 72 = .ok (.getfield 126, 3) := by decide +kernel
theorem dX5_copy_75 : decode cX5_copy 75 = .ok (.iload 9, 2) := by decide +kernel
theorem dX5_copy_77 : decode cX5_copy 77 = .ok (.invokevirtual 104, 3) := by decide +kernel
theorem dX5_copy_80 : decode cX5_copy 80 = .ok (.aload 10, 2) := by decide +kernel
theorem dX5_copy_82 : decode cX5_copy 82 = .ok (.getfield 126, 3) := by decide +kernel
theorem dX5_copy_85 : decode cX5_copy 85 = .ok (.invokevirtual 61, 3) := by decide +kernel
theorem dX5_copy_88 : decode cX5_copy 88 = .ok (.ireturn, 1) := by decide +kernel
set_option maxRecDepth 100000 in
theorem ggX5_keyed_X5_surfaceAt : GoodIn wsX5_keyed wsX5_surfaceAt := goodIn_r _ [10, 11, 12, 118, 119, 120, 121, 122] rfl (by decide +kernel)
set_option maxRecDepth 20000 in
theorem gX5_keyed_X5_surfaceAt : GoodIn wsX5_keyed (wsV RX5 41 RX5 yX5_surfaceAt wsX5_surfaceAt) := goodIn_app (goodIn_of _ (by decide +kernel)) ggX5_keyed_X5_surfaceAt
set_option maxRecDepth 100000 in
theorem ggX5_keyed_X0_init : GoodIn wsX5_keyed wsX0_init := goodIn_r _ [15, 16, 17, 18, 19, 20, 21, 22, 110, 111, 112, 113] rfl (by decide +kernel)
set_option maxRecDepth 20000 in
theorem gX5_keyed_X0_init : GoodIn wsX5_keyed (wsX0_init) := ggX5_keyed_X0_init
set_option maxRecDepth 100000 in
theorem ggX5_keyed_X5_moveOf : GoodIn wsX5_keyed wsX5_moveOf := goodIn_r _ [25, 26, 27, 28, 29, 30, 31, 32, 9, 33, 34, 35, 36, 37, 17, 18, 38, 39, 40, 41, 42, 43, 44, 45, 46, 47, 48, 3, 49, 19, 50, 51, 52, 53, 20, 21, 54, 55, 56, 22, 57, 2, 58, 14, 15, 16, 59, 60, 61, 62, 110, 111, 112, 113, 114, 115, 116, 117, 123, 124, 125, 126, 127] rfl (by decide +kernel)
set_option maxRecDepth 20000 in
theorem gX5_keyed_X5_moveOf : GoodIn wsX5_keyed (va_wsS RX5 108 yX5_moveOf wsX5_moveOf) := goodIn_app (goodIn_of _ (by decide +kernel)) ggX5_keyed_X5_moveOf
set_option maxRecDepth 100000 in
theorem ggX5_keyed_X1_keepsDepth : GoodIn wsX5_keyed wsX1_keepsDepth := goodIn_r _ [66, 40, 67, 41, 114, 115, 116, 117, 123, 124, 125, 126, 127] rfl (by decide +kernel)
set_option maxRecDepth 20000 in
theorem gX5_keyed_X1_keepsDepth : GoodIn wsX5_keyed (wsV RX5 112 RX1 yX1_keepsDepth wsX1_keepsDepth) := goodIn_app (goodIn_of _ (by decide +kernel)) ggX5_keyed_X1_keepsDepth
set_option maxRecDepth 100000 in
theorem ggX5_keyed_X3_fits : GoodIn wsX5_keyed wsX3_fits := goodIn_r _ [72, 73, 123, 124, 125, 126, 127] rfl (by decide +kernel)
set_option maxRecDepth 20000 in
theorem gX5_keyed_X3_fits : GoodIn wsX5_keyed (wsV RX5 69 RX3 yX3_fits wsX3_fits) := goodIn_app (goodIn_of _ (by decide +kernel)) ggX5_keyed_X3_fits
set_option maxRecDepth 100000 in
theorem ggX5_keyed_X5_takeDots : GoodIn wsX5_keyed wsX5_takeDots := goodIn_r _ [77, 78, 27, 79, 80, 81, 82, 83, 26, 84, 85, 86, 87, 88, 89, 90, 71, 91, 92, 93, 114, 115, 116, 117, 110, 111, 112, 113, 123, 124, 125, 126, 127, 118, 119, 120, 121, 122] rfl (by decide +kernel)
set_option maxRecDepth 20000 in
theorem gX5_keyed_X5_takeDots : GoodIn wsX5_keyed (wsV RX5 118 RX5 yX5_takeDots wsX5_takeDots) := goodIn_app (goodIn_of _ (by decide +kernel)) ggX5_keyed_X5_takeDots
set_option maxRecDepth 100000 in
theorem ggX5_keyed_X0_size : GoodIn wsX5_keyed wsX0_size := goodIn_r _ [97, 21, 22, 110, 111, 112, 113] rfl (by decide +kernel)
set_option maxRecDepth 20000 in
theorem gX5_keyed_X0_size : GoodIn wsX5_keyed (wsV RX5 61 RX0 yX0_size wsX0_size) := goodIn_app (goodIn_of _ (by decide +kernel)) ggX5_keyed_X0_size
set_option maxRecDepth 100000 in
theorem ggX5_keyed_X5_dropKey : GoodIn wsX5_keyed wsX5_dropKey := goodIn_r _ [101, 83, 118, 119, 120, 121, 122] rfl (by decide +kernel)
set_option maxRecDepth 20000 in
theorem gX5_keyed_X5_dropKey : GoodIn wsX5_keyed (wsV RX5 129 RX5 yX5_dropKey wsX5_dropKey) := goodIn_app (goodIn_of _ (by decide +kernel)) ggX5_keyed_X5_dropKey
set_option maxRecDepth 100000 in
theorem ggX5_keyed_X5_putDots : GoodIn wsX5_keyed wsX5_putDots := goodIn_r _ [105, 27, 80, 81, 26, 83, 82, 106, 88, 89, 90, 71, 91, 92, 93, 107, 108, 9, 109, 110, 111, 112, 113, 118, 119, 120, 121, 122, 123, 124, 125, 126, 127] rfl (by decide +kernel)
set_option maxRecDepth 20000 in
theorem gX5_keyed_X5_putDots : GoodIn wsX5_keyed (wsV RX5 104 RX5 yX5_putDots wsX5_putDots) := goodIn_app (goodIn_of _ (by decide +kernel)) ggX5_keyed_X5_putDots
theorem dX5_keyed_0 : decode cX5_keyed 0 = .ok (.aload_n 0, 1) := by decide +kernel
theorem dX5_keyed_1 : decode cX5_keyed 1 = .ok (.iload_n 1, 1) := by decide +kernel
theorem dX5_keyed_2 : decode cX5_keyed 2 = .ok (.invokevirtual 41, 3) := by decide +kernel
theorem dX5_keyed_5 : decode cX5_keyed 5 = .ok (.new 49, 3) := by decide +kernel
theorem dX5_keyed_8 : decode cX5_keyed 8 = .ok (.dup, 1) := by decide +kernel
theorem dX5_keyed_9 : decode cX5_keyed 9 = .ok (.iload_n 2, 1) := by decide +kernel
theorem dX5_keyed_10 : decode cX5_keyed 10 = .ok (.i2l, 1) := by decide +kernel
theorem dX5_keyed_11 : decode cX5_keyed 11 = .ok (.iload_n 3, 1) := by decide +kernel
theorem dX5_keyed_12 : decode cX5_keyed 12 = .ok (.i2l, 1) := by decide +kernel
theorem dX5_keyed_13 : decode cX5_keyed 13 = .ok (.iload 4, 2) := by decide +kernel
theorem dX5_keyed_15 : decode cX5_keyed 15 = .ok (.iload 5, 2) := by decide +kernel
theorem dX5_keyed_17 : decode cX5_keyed 17 = .ok (.invokespecial 51, 3) := by decide +kernel
theorem dX5_keyed_20 : decode cX5_keyed 20 = .ok (.aload_n 0, 1) := by decide +kernel
theorem dX5_keyed_21 : decode cX5_keyed 21 = .ok (.iload 6, 2) := by decide +kernel
theorem dX5_keyed_23 : decode cX5_keyed 23 = .ok (.invokevirtual 41, 3) := by decide +kernel
theorem dX5_keyed_26 : decode cX5_keyed 26 = .ok (.iload 7, 2) := by decide +kernel
theorem dX5_keyed_28 : decode cX5_keyed 28 = .ok (.iload 8, 2) := by decide +kernel
theorem dX5_keyed_30 : decode cX5_keyed 30 = .ok (.invokestatic 108, 3) := by decide +kernel
theorem dX5_keyed_33 : decode cX5_keyed 33 = .ok (.astore 10, 2) := by decide +kernel
theorem dX5_keyed_35 : decode cX5_keyed 35 = .ok (.aload 10, 2) := by decide +kernel
theorem dX5_keyed_37 : decode cX5_keyed 37 = .ok (.ifnull 24, 3) := by decide +kernel
theorem dX5_keyed_40 : decode cX5_keyed 40 = .ok (.aload 10, 2) := by decide +kernel
theorem dX5_keyed_42 : decode cX5_keyed 42 = .ok (.invokevirtual 112, 3) := by decide +kernel
theorem dX5_keyed_45 : decode cX5_keyed 45 = .ok (.ifCond .eq 16, 3) := by decide +kernel
theorem dX5_keyed_48 : decode cX5_keyed 48 = .ok (.aload 10, 2) := by decide +kernel
theorem dX5_keyed_50 : decode cX5_keyed 50 = .ok (.getfield 122, 3) := by decide +kernel
theorem dX5_keyed_53 : decode cX5_keyed 53 = .ok (.iload 9, 2) := by decide +kernel
theorem dX5_keyed_55 : decode cX5_keyed 55 = .ok (.invokevirtual 69, 3) := by decide +kernel
theorem dX5_keyed_58 : decode cX5_keyed 58 = .ok (.ifCond .ne 5, 3) := by decide +kernel
theorem dX5_keyed_61 : decode cX5_keyed 61 = .ok (.iconst (-1), 1) := by decide +kernel
theorem dX5_keyed_62 : decode cX5_keyed 62 = .ok (.ireturn, 1) := by decide +kernel
theorem dX5_keyed_63 : decode cX5_keyed 63 = .ok (.aload_n 0, 1) := by decide +kernel
theorem dX5_keyed_64 : decode cX5_keyed 64 = .ok (.aload 10, 2) := by decide +kernel
theorem dX5_keyed_66 : decode cX5_keyed 66 = .ok (.invokevirtual 118, 3) := by decide +kernel
theorem dX5_keyed_69 : decode cX5_keyed 69 = .ok (.aload_n 0, 1) := by decide +kernel
theorem dX5_keyed_70 : decode cX5_keyed 70 = .ok (.aload 10, 2) := by decide +kernel
theorem dX5_keyed_72 : decode cX5_keyed 72 = .ok (.getfield 126, 3) := by decide +kernel
theorem dX5_keyed_75 : decode cX5_keyed 75 = .ok (.invokevirtual 61, 3) := by decide +kernel
theorem dX5_keyed_78 : decode cX5_keyed 78 = .ok (.iload 9, 2) := by decide +kernel
theorem dX5_keyed_80 : decode cX5_keyed 80 = .ok (.invokevirtual 129, 3) := by decide +kernel
theorem dX5_keyed_83 : decode cX5_keyed 83 = .ok (.aload_n 0, 1) := by decide +kernel
theorem dX5_keyed_84 : decode cX5_keyed 84 = .ok (.aload 10, 2) := by decide +kernel
theorem dX5_keyed_86 : decode cX5_keyed 86 = .ok (.getfield 122, 3) := by decide +kernel
theorem dX5_keyed_89 : decode cX5_keyed 89 = .ok (.aload 10, 2) := by decide +kernel
theorem dX5_keyed_91 : decode cX5_keyed 91 = .ok (.getfield 126, 3) := by decide +kernel
theorem dX5_keyed_94 : decode cX5_keyed 94 = .ok (.bipush 12, 2) := by decide +kernel
theorem dX5_keyed_96 : decode cX5_keyed 96 = .ok (.invokevirtual 104, 3) := by decide +kernel
theorem dX5_keyed_99 : decode cX5_keyed 99 = .ok (.aload 10, 2) := by decide +kernel
theorem dX5_keyed_101 : decode cX5_keyed 101 = .ok (.getfield 126, 3) := by decide +kernel
theorem dX5_keyed_104 : decode cX5_keyed 104 = .ok (.invokevirtual 61, 3) := by decide +kernel
theorem dX5_keyed_107 : decode cX5_keyed 107 = .ok (.ireturn, 1) := by decide +kernel
set_option maxRecDepth 100000 in
theorem ggX5_masked_X5_surfaceAt : GoodIn wsX5_masked wsX5_surfaceAt := goodIn_r _ [12, 13, 14, 129, 130, 131, 132, 133] rfl (by decide +kernel)
set_option maxRecDepth 20000 in
theorem gX5_masked_X5_surfaceAt : GoodIn wsX5_masked (wsV RX5 41 RX5 yX5_surfaceAt wsX5_surfaceAt) := goodIn_app (goodIn_of _ (by decide +kernel)) ggX5_masked_X5_surfaceAt
set_option maxRecDepth 100000 in
theorem ggX5_masked_X0_init : GoodIn wsX5_masked wsX0_init := goodIn_r _ [17, 18, 19, 20, 21, 22, 23, 24, 116, 117, 118, 119] rfl (by decide +kernel)
set_option maxRecDepth 20000 in
theorem gX5_masked_X0_init : GoodIn wsX5_masked (wsX0_init) := ggX5_masked_X0_init
set_option maxRecDepth 100000 in
theorem ggX5_masked_X5_moveOf : GoodIn wsX5_masked wsX5_moveOf := goodIn_r _ [27, 28, 29, 30, 31, 32, 33, 34, 11, 35, 36, 37, 38, 39, 19, 20, 40, 41, 42, 43, 44, 45, 46, 47, 48, 49, 50, 3, 51, 21, 52, 53, 54, 55, 22, 23, 56, 57, 58, 24, 59, 2, 60, 16, 17, 18, 61, 62, 63, 64, 116, 117, 118, 119, 125, 126, 127, 128, 120, 121, 122, 123, 124] rfl (by decide +kernel)
set_option maxRecDepth 20000 in
theorem gX5_masked_X5_moveOf : GoodIn wsX5_masked (va_wsS RX5 108 yX5_moveOf wsX5_moveOf) := goodIn_app (goodIn_of _ (by decide +kernel)) ggX5_masked_X5_moveOf
set_option maxRecDepth 100000 in
theorem ggX5_masked_X1_keepsDepth : GoodIn wsX5_masked wsX1_keepsDepth := goodIn_r _ [68, 42, 69, 43, 125, 126, 127, 128, 120, 121, 122, 123, 124] rfl (by decide +kernel)
set_option maxRecDepth 20000 in
theorem gX5_masked_X1_keepsDepth : GoodIn wsX5_masked (wsV RX5 112 RX1 yX1_keepsDepth wsX1_keepsDepth) := goodIn_app (goodIn_of _ (by decide +kernel)) ggX5_masked_X1_keepsDepth
set_option maxRecDepth 100000 in
theorem ggX5_masked_X5_takeDots : GoodIn wsX5_masked wsX5_takeDots := goodIn_r _ [73, 5, 29, 74, 75, 76, 77, 78, 28, 79, 80, 81, 82, 83, 84, 85, 86, 87, 88, 89, 125, 126, 127, 128, 116, 117, 118, 119, 120, 121, 122, 123, 124, 129, 130, 131, 132, 133] rfl (by decide +kernel)
set_option maxRecDepth 20000 in
theorem gX5_masked_X5_takeDots : GoodIn wsX5_masked (wsV RX5 118 RX5 yX5_takeDots wsX5_takeDots) := goodIn_app (goodIn_of _ (by decide +kernel)) ggX5_masked_X5_takeDots
set_option maxRecDepth 100000 in
theorem ggX5_masked_X5_dropMasked : GoodIn wsX5_masked wsX5_dropMasked := goodIn_r _ [93, 29, 28, 75, 76, 78, 94, 95, 96, 86, 97, 88, 98, 99, 100, 101, 3, 102, 21, 23, 22, 24, 103, 84, 85, 87, 89, 116, 117, 118, 119, 129, 130, 131, 132, 133, 120, 121, 122, 123, 124] rfl (by decide +kernel)
set_option maxRecDepth 20000 in
theorem gX5_masked_X5_dropMasked : GoodIn wsX5_masked (wsV RX5 136 RX5 yX5_dropMasked wsX5_dropMasked) := goodIn_app (goodIn_of _ (by decide +kernel)) ggX5_masked_X5_dropMasked
set_option maxRecDepth 100000 in
theorem ggX5_masked_X5_putDots : GoodIn wsX5_masked wsX5_putDots := goodIn_r _ [107, 29, 75, 76, 28, 78, 77, 108, 83, 84, 85, 86, 87, 88, 89, 109, 110, 11, 111, 116, 117, 118, 119, 129, 130, 131, 132, 133, 120, 121, 122, 123, 124] rfl (by decide +kernel)
set_option maxRecDepth 20000 in
theorem gX5_masked_X5_putDots : GoodIn wsX5_masked (wsV RX5 104 RX5 yX5_putDots wsX5_putDots) := goodIn_app (goodIn_of _ (by decide +kernel)) ggX5_masked_X5_putDots
set_option maxRecDepth 100000 in
theorem ggX5_masked_X0_size : GoodIn wsX5_masked wsX0_size := goodIn_r _ [115, 23, 24, 116, 117, 118, 119] rfl (by decide +kernel)
set_option maxRecDepth 20000 in
theorem gX5_masked_X0_size : GoodIn wsX5_masked (wsV RX5 61 RX0 yX0_size wsX0_size) := goodIn_app (goodIn_of _ (by decide +kernel)) ggX5_masked_X0_size
theorem dX5_masked_0 : decode cX5_masked 0 = .ok (.aload_n 0, 1) := by decide +kernel
theorem dX5_masked_1 : decode cX5_masked 1 = .ok (.iload_n 1, 1) := by decide +kernel
theorem dX5_masked_2 : decode cX5_masked 2 = .ok (.invokevirtual 41, 3) := by decide +kernel
theorem dX5_masked_5 : decode cX5_masked 5 = .ok (.new 49, 3) := by decide +kernel
theorem dX5_masked_8 : decode cX5_masked 8 = .ok (.dup, 1) := by decide +kernel
theorem dX5_masked_9 : decode cX5_masked 9 = .ok (.iload_n 2, 1) := by decide +kernel
theorem dX5_masked_10 : decode cX5_masked 10 = .ok (.i2l, 1) := by decide +kernel
theorem dX5_masked_11 : decode cX5_masked 11 = .ok (.iload_n 3, 1) := by decide +kernel
theorem dX5_masked_12 : decode cX5_masked 12 = .ok (.i2l, 1) := by decide +kernel
theorem dX5_masked_13 : decode cX5_masked 13 = .ok (.iload 4, 2) := by decide +kernel
theorem dX5_masked_15 : decode cX5_masked 15 = .ok (.iload 5, 2) := by decide +kernel
theorem dX5_masked_17 : decode cX5_masked 17 = .ok (.invokespecial 51, 3) := by decide +kernel
theorem dX5_masked_20 : decode cX5_masked 20 = .ok (.aload_n 0, 1) := by decide +kernel
theorem dX5_masked_21 : decode cX5_masked 21 = .ok (.iload 6, 2) := by decide +kernel
theorem dX5_masked_23 : decode cX5_masked 23 = .ok (.invokevirtual 41, 3) := by decide +kernel
theorem dX5_masked_26 : decode cX5_masked 26 = .ok (.iload 7, 2) := by decide +kernel
theorem dX5_masked_28 : decode cX5_masked 28 = .ok (.iload 8, 2) := by decide +kernel
theorem dX5_masked_30 : decode cX5_masked 30 = .ok (.invokestatic 108, 3) := by decide +kernel
theorem dX5_masked_33 : decode cX5_masked 33 = .ok (.astore 10, 2) := by decide +kernel
theorem dX5_masked_35 : decode cX5_masked 35 = .ok (.aload_n 0, 1) := by decide +kernel
theorem dX5_masked_36 : decode cX5_masked 36 = .ok (.iload 9, 2) := by decide +kernel
theorem dX5_masked_38 : decode cX5_masked 38 = .ok (.invokevirtual 41, 3) := by decide +kernel
theorem dX5_masked_41 : decode cX5_masked 41 = .ok (.astore 11, 2) := by decide +kernel
theorem dX5_masked_43 : decode cX5_masked 43 = .ok (.aload 10, 2) := by decide +kernel
theorem dX5_masked_45 : decode cX5_masked 45 = .ok (.ifnull 25, 3) := by decide +kernel
theorem dX5_masked_48 : decode cX5_masked 48 = .ok (.aload 10, 2) := by decide +kernel
theorem dX5_masked_50 : decode cX5_masked 50 = .ok (.invokevirtual 112, 3) := by decide +kernel
theorem dX5_masked_53 : decode cX5_masked 53 = .ok (.ifCond .eq 17, 3) := by decide +kernel
theorem dX5_masked_56 : decode cX5_masked 56 = .ok (.aload 11, 2) := by decide +kernel
theorem dX5_masked_58 : decode cX5_masked 58 = .ok (.ifnull 12, 3) := by decide +kernel
theorem dX5_masked_61 : decode cX5_masked 61 = .ok (.aload 11, 2) := by decide +kernel
theorem dX5_masked_63 : decode cX5_masked 63 = .ok (.getfield 79, 3) := by decide +kernel
theorem dX5_masked_66 : decode cX5_masked 66 = .ok (.iconst 1, 1) := by decide +kernel
theorem dX5_masked_67 : decode cX5_masked 67 = .ok (.if_icmp .eq 5, 3) := by decide +kernel
theorem dX5_masked_70 : decode cX5_masked 70 = .ok (.iconst (-1), 1) := by decide +kernel
theorem dX5_masked_71 : decode cX5_masked 71 = .ok (.ireturn, 1) := by decide +kernel
theorem dX5_masked_72 : decode cX5_masked 72 = .ok (.aload_n 0, 1) := by decide +kernel
theorem dX5_masked_73 : decode cX5_masked 73 = .ok (.aload 10, 2) := by decide +kernel
theorem dX5_masked_75 : decode cX5_masked 75 = .ok (.invokevirtual 118, 3) := by decide +kernel
theorem dX5_masked_78 : decode cX5_masked 78 = .ok (.aload_n 0, 1) := by decide +kernel
theorem dX5_masked_79 : decode cX5_masked 79 = .ok (.aload 10, 2) := by decide +kernel
theorem dX5_masked_81 : decode cX5_masked 81 = .ok (.getfield 133, 3) := by decide +kernel
theorem dX5_masked_84 : decode cX5_masked 84 = .ok (.aload 11, 2) := by decide +kernel
theorem dX5_masked_86 : decode cX5_masked 86 = .ok (.invokevirtual 136, 3) := by decide +kernel
theorem dX5_masked_89 : decode cX5_masked 89 = .ok (.aload_n 0, 1) := by decide +kernel
theorem dX5_masked_90 : decode cX5_masked 90 = .ok (.aload 10, 2) := by decide +kernel
theorem dX5_masked_92 : decode cX5_masked 92 = .ok (.getfield 122, 3) := by decide +kernel
theorem dX5_masked_95 : decode cX5_masked 95 = .ok (.aload 10, 2) := by decide +kernel
theorem dX5_masked_97 : decode cX5_masked 97 = .ok (.getfield 126, 3) := by decide +kernel
theorem dX5_masked_100 : decode cX5_masked 100 = .ok (.bipush 12, 2) := by decide +kernel
theorem dX5_masked_102 : decode cX5_masked 102 = .ok (.invokevirtual 104, 3) := by decide +kernel
theorem dX5_masked_105 : decode cX5_masked 105 = .ok (.aload 10, 2) := by decide +kernel
theorem dX5_masked_107 : decode cX5_masked 107 = .ok (.getfield 126, 3) := by decide +kernel
theorem dX5_masked_110 : decode cX5_masked 110 = .ok (.invokevirtual 61, 3) := by decide +kernel
theorem dX5_masked_113 : decode cX5_masked 113 = .ok (.ireturn, 1) := by decide +kernel
set_option maxRecDepth 100000 in
theorem ggX5_spread_X5_surfaceAt : GoodIn wsX5_spread wsX5_surfaceAt := goodIn_r _ [13, 14, 15, 115, 116, 117, 118, 119] rfl (by decide +kernel)
set_option maxRecDepth 20000 in
theorem gX5_spread_X5_surfaceAt : GoodIn wsX5_spread (wsV RX5 41 RX5 yX5_surfaceAt wsX5_surfaceAt) := goodIn_app (goodIn_of _ (by decide +kernel)) ggX5_spread_X5_surfaceAt
set_option maxRecDepth 100000 in
theorem ggX5_spread_X0_init : GoodIn wsX5_spread wsX0_init := goodIn_r _ [18, 19, 20, 21, 22, 23, 24, 25, 102, 103, 104, 105] rfl (by decide +kernel)
set_option maxRecDepth 20000 in
theorem gX5_spread_X0_init : GoodIn wsX5_spread (wsX0_init) := ggX5_spread_X0_init
set_option maxRecDepth 100000 in
theorem ggX5_spread_X5_moveOf : GoodIn wsX5_spread wsX5_moveOf := goodIn_r _ [28, 29, 30, 31, 32, 33, 34, 35, 12, 36, 37, 38, 39, 40, 20, 21, 41, 42, 43, 44, 45, 46, 47, 48, 49, 50, 51, 3, 52, 22, 53, 54, 55, 56, 23, 24, 57, 58, 59, 25, 60, 2, 61, 17, 18, 19, 62, 63, 64, 65, 102, 103, 104, 105, 106, 107, 108, 109, 110, 111, 112, 113, 114] rfl (by decide +kernel)
set_option maxRecDepth 20000 in
theorem gX5_spread_X5_moveOf : GoodIn wsX5_spread (va_wsS RX5 108 yX5_moveOf wsX5_moveOf) := goodIn_app (goodIn_of _ (by decide +kernel)) ggX5_spread_X5_moveOf
set_option maxRecDepth 100000 in
theorem ggX5_spread_X3_fits : GoodIn wsX5_spread wsX3_fits := goodIn_r _ [70, 71, 110, 111, 112, 113, 114] rfl (by decide +kernel)
set_option maxRecDepth 20000 in
theorem gX5_spread_X3_fits : GoodIn wsX5_spread (wsV RX5 69 RX3 yX3_fits wsX3_fits) := goodIn_app (goodIn_of _ (by decide +kernel)) ggX5_spread_X3_fits
set_option maxRecDepth 100000 in
theorem ggX5_spread_X5_takeDots : GoodIn wsX5_spread wsX5_takeDots := goodIn_r _ [75, 76, 30, 4, 77, 78, 79, 8, 29, 80, 81, 82, 83, 84, 85, 86, 69, 87, 88, 89, 106, 107, 108, 109, 102, 103, 104, 105, 110, 111, 112, 113, 114, 115, 116, 117, 118, 119] rfl (by decide +kernel)
set_option maxRecDepth 20000 in
theorem gX5_spread_X5_takeDots : GoodIn wsX5_spread (wsV RX5 118 RX5 yX5_takeDots wsX5_takeDots) := goodIn_app (goodIn_of _ (by decide +kernel)) ggX5_spread_X5_takeDots
set_option maxRecDepth 100000 in
theorem ggX5_spread_X0_size : GoodIn wsX5_spread wsX0_size := goodIn_r _ [93, 24, 25, 102, 103, 104, 105] rfl (by decide +kernel)
set_option maxRecDepth 20000 in
theorem gX5_spread_X0_size : GoodIn wsX5_spread (wsV RX5 61 RX0 yX0_size wsX0_size) := goodIn_app (goodIn_of _ (by decide +kernel)) ggX5_spread_X0_size
set_option maxRecDepth 100000 in
theorem ggX5_spread_X5_putDots : GoodIn wsX5_spread wsX5_putDots := goodIn_r _ [97, 30, 77, 78, 29, 8, 79, 98, 84, 85, 86, 69, 87, 88, 89, 99, 100, 12, 101, 102, 103, 104, 105, 115, 116, 117, 118, 119, 110, 111, 112, 113, 114] rfl (by decide +kernel)
set_option maxRecDepth 20000 in
theorem gX5_spread_X5_putDots : GoodIn wsX5_spread (wsV RX5 104 RX5 yX5_putDots wsX5_putDots) := goodIn_app (goodIn_of _ (by decide +kernel)) ggX5_spread_X5_putDots
theorem dX5_spread_0 : decode cX5_spread 0 = .ok (.aload_n 0, 1) := by decide +kernel
theorem dX5_spread_1 : decode cX5_spread 1 = .ok (.iload_n 1, 1) := by decide +kernel
theorem dX5_spread_2 : decode cX5_spread 2 = .ok (.invokevirtual 41, 3) := by decide +kernel
theorem dX5_spread_5 : decode cX5_spread 5 = .ok (.new 49, 3) := by decide +kernel
theorem dX5_spread_8 : decode cX5_spread 8 = .ok (.dup, 1) := by decide +kernel
theorem dX5_spread_9 : decode cX5_spread 9 = .ok (.iload_n 2, 1) := by decide +kernel
theorem dX5_spread_10 : decode cX5_spread 10 = .ok (.i2l, 1) := by decide +kernel
theorem dX5_spread_11 : decode cX5_spread 11 = .ok (.iload_n 3, 1) := by decide +kernel
theorem dX5_spread_12 : decode cX5_spread 12 = .ok (.i2l, 1) := by decide +kernel
theorem dX5_spread_13 : decode cX5_spread 13 = .ok (.iload 4, 2) := by decide +kernel
theorem dX5_spread_15 : decode cX5_spread 15 = .ok (.iload 5, 2) := by decide +kernel
theorem dX5_spread_17 : decode cX5_spread 17 = .ok (.invokespecial 51, 3) := by decide +kernel
theorem dX5_spread_20 : decode cX5_spread 20 = .ok (.aload_n 0, 1) := by decide +kernel
theorem dX5_spread_21 : decode cX5_spread 21 = .ok (.iload 6, 2) := by decide +kernel
theorem dX5_spread_23 : decode cX5_spread 23 = .ok (.invokevirtual 41, 3) := by decide +kernel
theorem dX5_spread_26 : decode cX5_spread 26 = .ok (.iload 7, 2) := by decide +kernel
theorem dX5_spread_28 : decode cX5_spread 28 = .ok (.iload 8, 2) := by decide +kernel
theorem dX5_spread_30 : decode cX5_spread 30 = .ok (.invokestatic 108, 3) := by decide +kernel
theorem dX5_spread_33 : decode cX5_spread 33 = .ok (.astore 11, 2) := by decide +kernel
theorem dX5_spread_35 : decode cX5_spread 35 = .ok (.aload 11, 2) := by decide +kernel
theorem dX5_spread_37 : decode cX5_spread 37 = .ok (.ifnull 41, 3) := by decide +kernel
theorem dX5_spread_40 : decode cX5_spread 40 = .ok (.aload 11, 2) := by decide +kernel
theorem dX5_spread_42 : decode cX5_spread 42 = .ok (.getfield 140, 3) := by decide +kernel
theorem dX5_spread_45 : decode cX5_spread 45 = .ok (.getfield 79, 3) := by decide +kernel
theorem dX5_spread_48 : decode cX5_spread 48 = .ok (.iconst 1, 1) := by decide +kernel
theorem dX5_spread_49 : decode cX5_spread 49 = .ok (.if_icmp .ne 29, 3) := by decide +kernel
theorem dX5_spread_52 : decode cX5_spread 52 = .ok (.aload 11, 2) := by decide +kernel
theorem dX5_spread_54 : decode cX5_spread 54 = .ok (.getfield 122, 3) := by decide +kernel
theorem dX5_spread_57 : decode cX5_spread 57 = .ok (.iload 9, 2) := by decide +kernel
theorem dX5_spread_59 : decode cX5_spread 59 = .ok (.invokevirtual 69, 3) := by decide +kernel
theorem dX5_spread_62 : decode cX5_spread 62 = .ok (.ifCond .eq 16, 3) := by decide +kernel
theorem dX5_spread_65 : decode cX5_spread 65 = .ok (.aload 11, 2) := by decide +kernel
theorem dX5_spread_67 : decode cX5_spread 67 = .ok (.getfield 122, 3) := by decide +kernel
theorem dX5_spread_70 : decode cX5_spread 70 = .ok (.iload 10, 2) := by decide +kernel
theorem dX5_spread_72 : decode cX5_spread 72 = .ok (.invokevirtual 69, 3) := by decide +kernel
theorem dX5_spread_75 : decode cX5_spread 75 = .ok (.ifCond .ne 5, 3) := by decide +kernel
theorem dX5_spread_78 : decode cX5_spread 78 = .ok (.iconst (-1), 1) := by decide +kernel
theorem dX5_spread_79 : decode cX5_spread 79 = .ok (.ireturn, 1) := by decide +kernel
theorem dX5_spread_80 : decode cX5_spread 80 = .ok (.aload_n 0, 1) := by decide +kernel
theorem dX5_spread_81 : decode cX5_spread 81 = .ok (.aload 11, 2) := by decide +kernel
theorem dX5_spread_83 : decode cX5_spread 83 = .ok (.invokevirtual 118, 3) := by decide +kernel
theorem dX5_spread_86 : decode cX5_spread 86 = .ok (.iconst 0, 1) := by decide +kernel
theorem dX5_spread_87 : decode cX5_spread 87 = .ok (.istore 12, 2) := by decide +kernel
theorem dX5_spread_89 : decode cX5_spread 89 = .ok (.iload 12, 2) := by decide +kernel
theorem dX5_spread_91 : decode cX5_spread 91 = .ok (.aload 11, 2) := by decide +kernel
theorem dX5_spread_93 : decode cX5_spread 93 = .ok (.getfield 126, 3) := by decide +kernel
theorem dX5_spread_96 : decode cX5_spread 96 = .ok (.invokevirtual 61, 3) := by decide +kernel
theorem dX5_spread_99 : decode cX5_spread 99 = .ok (.if_icmp .ge 33, 3) := by decide +kernel
theorem dX5_spread_102 : decode cX5_spread 102 = .ok (.aload_n 0, 1) := by decide +kernel
theorem dX5_spread_103 : decode cX5_spread 103 = .ok (.getfield 30, 3) := by decide +kernel
theorem dX5_spread_106 : decode cX5_spread 106 = .ok (.iload 12, 2) := by decide +kernel
theorem dX5_spread_108 : decode cX5_spread 108 = .ok (.aload_n 0, 1) := by decide +kernel
theorem dX5_spread_109 : decode cX5_spread 109 = .ok (.getfield 30, 3) := by decide +kernel
theorem dX5_spread_112 : decode cX5_spread 112 = .ok (.iload 12, 2) := by decide +kernel
theorem dX5_spread_114 : decode cX5_spread 114 = .ok (.iaload, 1) := by decide +kernel
theorem dX5_spread_115 : decode cX5_spread 115 = .ok (.ifCond .ne 8, 3) := by decide +kernel
theorem dX5_spread_118 : decode cX5_spread 118 = .ok (.iload 9, 2) := by decide +kernel
theorem dX5_spread_120 : decode cX5_spread 120 = .ok (.goto 5, 3) := by decide +kernel
theorem dX5_spread_123 : decode cX5_spread 123 = .ok (.iload 10, 2) := by decide +kernel
theorem dX5_spread_125 : decode cX5_spread 125 = .ok (.iastore, 1) := by decide +kernel
theorem dX5_spread_126 : decode cX5_spread 126 = .ok (.iinc 12 1, 3) := by decide +kernel
theorem dX5_spread_129 : decode cX5_spread 129 = .ok (.goto (-40), 3) := by decide +kernel
theorem dX5_spread_132 : decode cX5_spread 132 = .ok (.aload_n 0, 1) := by decide +kernel
theorem dX5_spread_133 : decode cX5_spread 133 = .ok (.aload 11, 2) := by decide +kernel
theorem dX5_spread_135 : decode cX5_spread 135 = .ok (.getfield 122, 3) := by decide +kernel
theorem dX5_spread_138 : decode cX5_spread 138 = .ok (.aload 11, 2) := by decide +kernel
theorem dX5_spread_140 : decode cX5_spread 140 = .ok (.getfield 126, 3) := by decide +kernel
theorem dX5_spread_143 : decode cX5_spread 143 = .ok (.bipush 12, 2) := by decide +kernel
theorem dX5_spread_145 : decode cX5_spread 145 = .ok (.invokevirtual 104, 3) := by decide +kernel
theorem dX5_spread_148 : decode cX5_spread 148 = .ok (.aload 11, 2) := by decide +kernel
theorem dX5_spread_150 : decode cX5_spread 150 = .ok (.getfield 126, 3) := by decide +kernel
theorem dX5_spread_153 : decode cX5_spread 153 = .ok (.invokevirtual 61, 3) := by decide +kernel
theorem dX5_spread_156 : decode cX5_spread 156 = .ok (.ireturn, 1) := by decide +kernel
set_option maxRecDepth 100000 in
theorem ggX5_turn_X5_surfaceAt : GoodIn wsX5_turn wsX5_surfaceAt := goodIn_r _ [5, 6, 7, 29, 30, 31, 32, 33] rfl (by decide +kernel)
set_option maxRecDepth 20000 in
theorem gX5_turn_X5_surfaceAt : GoodIn wsX5_turn (wsV RX5 41 RX5 yX5_surfaceAt wsX5_surfaceAt) := goodIn_app (goodIn_of _ (by decide +kernel)) ggX5_turn_X5_surfaceAt
set_option maxRecDepth 100000 in
theorem ggX5_turn_X3_swapLeftAndRight : GoodIn wsX5_turn wsX3_swapLeftAndRight := goodIn_r _ [12, 13, 14, 15, 16, 17, 18, 11, 19, 20, 21, 22, 23, 24, 34, 35, 36, 37, 38, 39, 40, 41, 42] rfl (by decide +kernel)
set_option maxRecDepth 20000 in
theorem gX5_turn_X3_swapLeftAndRight : GoodIn wsX5_turn (wsV RX5 143 RX3 yX3_swapLeftAndRight wsX3_swapLeftAndRight) := goodIn_app (goodIn_of _ (by decide +kernel)) ggX5_turn_X3_swapLeftAndRight
set_option maxRecDepth 100000 in
theorem ggX5_turn_X3_swapTopAndBottom : GoodIn wsX5_turn wsX3_swapTopAndBottom := goodIn_r _ [28, 13, 14, 15, 16, 17, 18, 11, 19, 20, 21, 22, 23, 24, 34, 35, 36, 37, 38, 39, 40, 41, 42] rfl (by decide +kernel)
set_option maxRecDepth 20000 in
theorem gX5_turn_X3_swapTopAndBottom : GoodIn wsX5_turn (wsV RX5 146 RX3 yX3_swapTopAndBottom wsX3_swapTopAndBottom) := goodIn_app (goodIn_of _ (by decide +kernel)) ggX5_turn_X3_swapTopAndBottom
theorem dX5_turn_0 : decode cX5_turn 0 = .ok (.aload_n 0, 1) := by decide +kernel
theorem dX5_turn_1 : decode cX5_turn 1 = .ok (.iload_n 1, 1) := by decide +kernel
theorem dX5_turn_2 : decode cX5_turn 2 = .ok (.invokevirtual 41, 3) := by decide +kernel
theorem dX5_turn_5 : decode cX5_turn 5 = .ok (.astore_n 3, 1) := by decide +kernel
theorem dX5_turn_6 : decode cX5_turn 6 = .ok (.aload_n 3, 1) := by decide +kernel
theorem dX5_turn_7 : decode cX5_turn 7 = .ok (.ifnull 12, 3) := by decide +kernel
theorem dX5_turn_10 : decode cX5_turn 10 = .ok (.iload_n 2, 1) := by decide +kernel
theorem dX5_turn_11 : decode cX5_turn 11 = .ok (.ifCond .lt 8, 3) := by decide +kernel
theorem dX5_turn_14 : decode cX5_turn 14 = .ok (.iload_n 2, 1) := by decide +kernel
theorem dX5_turn_15 : decode cX5_turn 15 = .ok (.iconst 1, 1) := by decide +kernel
theorem dX5_turn_16 : decode cX5_turn 16 = .ok (.if_icmp .le 5, 3) := by decide +kernel
theorem dX5_turn_19 : decode cX5_turn 19 = .ok (.iconst 0, 1) := by decide +kernel
theorem dX5_turn_20 : decode cX5_turn 20 = .ok (.ireturn, 1) := by decide +kernel
theorem dX5_turn_21 : decode cX5_turn 21 = .ok (.iload_n 2, 1) := by decide +kernel
theorem dX5_turn_22 : decode cX5_turn 22 = .ok (.ifCond .ne 10, 3) := by decide +kernel
theorem dX5_turn_25 : decode cX5_turn 25 = .ok (.aload_n 3, 1) := by decide +kernel
theorem dX5_turn_26 : decode cX5_turn 26 = .ok (.invokevirtual 143, 3) := by decide +kernel
theorem dX5_turn_29 : decode cX5_turn 29 = .ok (.goto 7, 3) := by decide +kernel
theorem dX5_turn_32 : decode cX5_turn 32 = .ok (.aload_n 3, 1) := by decide +kernel
theorem dX5_turn_33 : decode cX5_turn 33 = .ok (.invokevirtual 146, 3) := by decide +kernel
theorem dX5_turn_36 : decode cX5_turn 36 = .ok (.iconst 1, 1) := by decide +kernel
theorem dX5_turn_37 : decode cX5_turn 37 = .ok (.ireturn, 1) := by decide +kernel
set_option maxRecDepth 100000 in
theorem ggX5_count_X5_surfaceAt : GoodIn wsX5_count wsX5_surfaceAt := goodIn_r _ [6, 7, 8, 14, 15, 16, 17, 18] rfl (by decide +kernel)
set_option maxRecDepth 20000 in
theorem gX5_count_X5_surfaceAt : GoodIn wsX5_count (wsV RX5 41 RX5 yX5_surfaceAt wsX5_surfaceAt) := goodIn_app (goodIn_of _ (by decide +kernel)) ggX5_count_X5_surfaceAt
theorem dX5_count_0 : decode cX5_count 0 = .ok (.aload_n 0, 1) := by decide +kernel
theorem dX5_count_1 : decode cX5_count 1 = .ok (.iload_n 1, 1) := by decide +kernel
theorem dX5_count_2 : decode cX5_count 2 = .ok (.invokevirtual 41, 3) := by decide +kernel
theorem dX5_count_5 : decode cX5_count 5 = .ok (.astore_n 3, 1) := by decide +kernel
theorem dX5_count_6 : decode cX5_count 6 = .ok (.aload_n 3, 1) := by decide +kernel
theorem dX5_count_7 : decode cX5_count 7 = .ok (.ifnonnull 5, 3) := by decide +kernel
theorem dX5_count_10 : decode cX5_count 10 = .ok (.iconst (-1), 1) := by decide +kernel
theorem dX5_count_11 : decode cX5_count 11 = .ok (.ireturn, 1) := by decide +kernel
theorem dX5_count_12 : decode cX5_count 12 = .ok (.iconst 0, 1) := by decide +kernel
theorem dX5_count_13 : decode cX5_count 13 = .ok (.istore 4, 2) := by decide +kernel
theorem dX5_count_15 : decode cX5_count 15 = .ok (.aload_n 3, 1) := by decide +kernel
theorem dX5_count_16 : decode cX5_count 16 = .ok (.getfield 72, 3) := by decide +kernel
theorem dX5_count_19 : decode cX5_count 19 = .ok (.astore 5, 2) := by decide +kernel
theorem dX5_count_21 : decode cX5_count 21 = .ok (.aload 5, 2) := by decide +kernel
theorem dX5_count_23 : decode cX5_count 23 = .ok (.arraylength, 1) := by decide +kernel
theorem dX5_count_24 : decode cX5_count 24 = .ok (.istore 6, 2) := by decide +kernel
theorem dX5_count_26 : decode cX5_count 26 = .ok (.iconst 0, 1) := by decide +kernel
theorem dX5_count_27 : decode cX5_count 27 = .ok (.istore 7, 2) := by decide +kernel
theorem dX5_count_29 : decode cX5_count 29 = .ok (.iload 7, 2) := by decide +kernel
theorem dX5_count_31 : decode cX5_count 31 = .ok (.iload 6, 2) := by decide +kernel
theorem dX5_count_33 : decode cX5_count 33 = .ok (.if_icmp .ge 25, 3) := by decide +kernel
theorem dX5_count_36 : decode cX5_count 36 = .ok (.aload 5, 2) := by decide +kernel
theorem dX5_count_38 : decode cX5_count 38 = .ok (.iload 7, 2) := by decide +kernel
theorem dX5_count_40 : decode cX5_count 40 = .ok (.iaload, 1) := by decide +kernel
theorem dX5_count_41 : decode cX5_count 41 = .ok (.istore 8, 2) := by decide +kernel
theorem dX5_count_43 : decode cX5_count 43 = .ok (.iload 8, 2) := by decide +kernel
theorem dX5_count_45 : decode cX5_count 45 = .ok (.iload_n 2, 1) := by decide +kernel
theorem dX5_count_46 : decode cX5_count 46 = .ok (.if_icmp .ne 6, 3) := by decide +kernel
theorem dX5_count_49 : decode cX5_count 49 = .ok (.iinc 4 1, 3) := by decide +kernel
theorem dX5_count_52 : decode cX5_count 52 = .ok (.iinc 7 1, 3) := by decide +kernel
theorem dX5_count_55 : decode cX5_count 55 = .ok (.goto (-26), 3) := by decide +kernel
theorem dX5_count_58 : decode cX5_count 58 = .ok (.iload 4, 2) := by decide +kernel
theorem dX5_count_60 : decode cX5_count 60 = .ok (.ireturn, 1) := by decide +kernel
set_option maxRecDepth 100000 in
theorem ggX5_tell_X5_spriteAt : GoodIn wsX5_tell wsX5_spriteAt := goodIn_r _ [12, 6, 79, 80, 81, 82, 83] rfl (by decide +kernel)
set_option maxRecDepth 20000 in
theorem gX5_tell_X5_spriteAt : GoodIn wsX5_tell (wsV RX5 149 RX5 yX5_spriteAt wsX5_spriteAt) := goodIn_app (goodIn_of _ (by decide +kernel)) ggX5_tell_X5_spriteAt
set_option maxRecDepth 100000 in
theorem ggX5_tell_X5_surfaceAt : GoodIn wsX5_tell wsX5_surfaceAt := goodIn_r _ [16, 17, 18, 79, 80, 81, 82, 83] rfl (by decide +kernel)
set_option maxRecDepth 20000 in
theorem gX5_tell_X5_surfaceAt : GoodIn wsX5_tell (wsV RX5 41 RX5 yX5_surfaceAt wsX5_surfaceAt) := goodIn_app (goodIn_of _ (by decide +kernel)) ggX5_tell_X5_surfaceAt
set_option maxRecDepth 100000 in
theorem ggX5_tell_X2_empty : GoodIn wsX5_tell wsX2_empty := goodIn_r _ [23, 24, 25, 87, 88, 89] rfl (by decide +kernel)
set_option maxRecDepth 20000 in
theorem gX5_tell_X2_empty : GoodIn wsX5_tell (wsV RX5 153 RX2 yX2_empty wsX2_empty) := goodIn_app (goodIn_of _ (by decide +kernel)) ggX5_tell_X2_empty
set_option maxRecDepth 100000 in
theorem ggX5_tell_X4_init : GoodIn wsX5_tell wsX4_init := goodIn_r _ [28, 29, 30, 31, 32, 33, 34, 84, 85, 86] rfl (by decide +kernel)
set_option maxRecDepth 20000 in
theorem gX5_tell_X4_init : GoodIn wsX5_tell (wsX4_init) := ggX5_tell_X4_init
set_option maxRecDepth 100000 in
theorem ggX5_tell_X4_addRows : GoodIn wsX5_tell wsX4_addRows := goodIn_r _ [38, 32, 39, 40, 34, 41, 42, 43, 44, 45, 46, 47, 48, 49, 50, 4, 51, 52, 53, 54, 55, 56, 57, 33, 58, 59, 60, 61, 62, 63, 64, 65, 66, 67, 68, 69, 70, 71, 72, 73, 74, 75, 76, 22, 77, 24, 25, 78, 84, 85, 86, 90, 91, 92, 93, 94, 95, 96, 97, 98, 87, 88, 89] rfl (by decide +kernel)
set_option maxRecDepth 20000 in
theorem gX5_tell_X4_addRows : GoodIn wsX5_tell (wsV RX5 161 RX4 yX4_addRows wsX4_addRows) := goodIn_app (goodIn_of _ (by decide +kernel)) ggX5_tell_X4_addRows
theorem dX5_tell_0 : decode cX5_tell 0 = .ok (.aload_n 0, 1) := by decide +kernel
theorem dX5_tell_1 : decode cX5_tell 1 = .ok (.iload_n 1, 1) := by decide +kernel
theorem dX5_tell_2 : decode cX5_tell 2 = .ok (.invokevirtual 149, 3) := by decide +kernel
theorem dX5_tell_5 : decode cX5_tell 5 = .ok (.astore 4, 2) := by decide +kernel
theorem dX5_tell_7 : decode cX5_tell 7 = .ok (.aload_n 0, 1) := by decide +kernel
theorem dX5_tell_8 : decode cX5_tell 8 = .ok (.iload_n 2, 1) := by decide +kernel
theorem dX5_tell_9 : decode cX5_tell 9 = .ok (.invokevirtual 41, 3) := by decide +kernel
theorem dX5_tell_12 : decode cX5_tell 12 = .ok (.astore 5, 2) := by decide +kernel
theorem dX5_tell_14 : decode cX5_tell 14 = .ok (.aload 4, 2) := by decide +kernel
theorem dX5_tell_16 : decode cX5_tell 16 = .ok (.ifnull 8, 3) := by decide +kernel
theorem dX5_tell_19 : decode cX5_tell 19 = .ok (.aload 5, 2) := by decide +kernel
theorem dX5_tell_21 : decode cX5_tell 21 = .ok (.ifnonnull 5, 3) := by decide +kernel
theorem dX5_tell_24 : decode cX5_tell 24 = .ok (.iconst (-1), 1) := by decide +kernel
theorem dX5_tell_25 : decode cX5_tell 25 = .ok (.ireturn, 1) := by decide +kernel
theorem dX5_tell_26 : decode cX5_tell 26 = .ok (.aload_n 0, 1) := by decide +kernel
theorem dX5_tell_27 : decode cX5_tell 27 = .ok (.getfield 26, 3) := by decide +kernel
theorem dX5_tell_30 : decode cX5_tell 30 = .ok (.invokevirtual 153, 3) := by decide +kernel
theorem dX5_tell_33 : decode cX5_tell 33 = .ok (.new 156, 3) := by decide +kernel
theorem dX5_tell_36 : decode cX5_tell 36 = .ok (.dup, 1) := by decide +kernel
theorem dX5_tell_37 : decode cX5_tell 37 = .ok (.aload 5, 2) := by decide +kernel
theorem dX5_tell_39 : decode cX5_tell 39 = .ok (.iload_n 3, 1) := by decide +kernel
theorem dX5_tell_40 : decode cX5_tell 40 = .ok (.aload_n 0, 1) := by decide +kernel
theorem dX5_tell_41 : decode cX5_tell 41 = .ok (.getfield 26, 3) := by decide +kernel
theorem dX5_tell_44 : decode cX5_tell 44 = .ok (.invokespecial 158, 3) := by decide +kernel
theorem dX5_tell_47 : decode cX5_tell 47 = .ok (.invokevirtual 161, 3) := by decide +kernel
theorem dX5_tell_50 : decode cX5_tell 50 = .ok (.aload_n 0, 1) := by decide +kernel
theorem dX5_tell_51 : decode cX5_tell 51 = .ok (.getfield 26, 3) := by decide +kernel
theorem dX5_tell_54 : decode cX5_tell 54 = .ok (.getfield 164, 3) := by decide +kernel
theorem dX5_tell_57 : decode cX5_tell 57 = .ok (.ifCond .eq 5, 3) := by decide +kernel
theorem dX5_tell_60 : decode cX5_tell 60 = .ok (.iconst (-1), 1) := by decide +kernel
theorem dX5_tell_61 : decode cX5_tell 61 = .ok (.ireturn, 1) := by decide +kernel
theorem dX5_tell_62 : decode cX5_tell 62 = .ok (.aload_n 0, 1) := by decide +kernel
theorem dX5_tell_63 : decode cX5_tell 63 = .ok (.getfield 21, 3) := by decide +kernel
theorem dX5_tell_66 : decode cX5_tell 66 = .ok (.iload_n 1, 1) := by decide +kernel
theorem dX5_tell_67 : decode cX5_tell 67 = .ok (.aload_n 0, 1) := by decide +kernel
theorem dX5_tell_68 : decode cX5_tell 68 = .ok (.getfield 26, 3) := by decide +kernel
theorem dX5_tell_71 : decode cX5_tell 71 = .ok (.aastore, 1) := by decide +kernel
theorem dX5_tell_72 : decode cX5_tell 72 = .ok (.aload_n 0, 1) := by decide +kernel
theorem dX5_tell_73 : decode cX5_tell 73 = .ok (.aload 4, 2) := by decide +kernel
theorem dX5_tell_75 : decode cX5_tell 75 = .ok (.putfield 26, 3) := by decide +kernel
theorem dX5_tell_78 : decode cX5_tell 78 = .ok (.aload_n 0, 1) := by decide +kernel
theorem dX5_tell_79 : decode cX5_tell 79 = .ok (.getfield 21, 3) := by decide +kernel
theorem dX5_tell_82 : decode cX5_tell 82 = .ok (.iload_n 1, 1) := by decide +kernel
theorem dX5_tell_83 : decode cX5_tell 83 = .ok (.aaload, 1) := by decide +kernel
theorem dX5_tell_84 : decode cX5_tell 84 = .ok (.getfield 168, 3) := by decide +kernel
theorem dX5_tell_87 : decode cX5_tell 87 = .ok (.ireturn, 1) := by decide +kernel
set_option maxRecDepth 100000 in
theorem ggX5_load_X5_spriteAt : GoodIn wsX5_load wsX5_spriteAt := goodIn_r _ [6, 7, 19, 20, 21, 22, 23] rfl (by decide +kernel)
set_option maxRecDepth 20000 in
theorem gX5_load_X5_spriteAt : GoodIn wsX5_load (wsV RX5 149 RX5 yX5_spriteAt wsX5_spriteAt) := goodIn_app (goodIn_of _ (by decide +kernel)) ggX5_load_X5_spriteAt
set_option maxRecDepth 100000 in
theorem ggX5_load_X2_append : GoodIn wsX5_load wsX2_append := goodIn_r _ [12, 13, 14, 15, 16, 17, 18] rfl (by decide +kernel)
set_option maxRecDepth 20000 in
theorem gX5_load_X2_append : GoodIn wsX5_load (wsV RX5 170 RX2 yX2_append wsX2_append) := goodIn_app (goodIn_of _ (by decide +kernel)) ggX5_load_X2_append
theorem dX5_load_0 : decode cX5_load 0 = .ok (.aload_n 0, 1) := by decide +kernel
theorem dX5_load_1 : decode cX5_load 1 = .ok (.iload_n 1, 1) := by decide +kernel
theorem dX5_load_2 : decode cX5_load 2 = .ok (.invokevirtual 149, 3) := by decide +kernel
theorem dX5_load_5 : decode cX5_load 5 = .ok (.astore 5, 2) := by decide +kernel
theorem dX5_load_7 : decode cX5_load 7 = .ok (.aload 5, 2) := by decide +kernel
theorem dX5_load_9 : decode cX5_load 9 = .ok (.ifnull 30, 3) := by decide +kernel
theorem dX5_load_12 : decode cX5_load 12 = .ok (.iload 4, 2) := by decide +kernel
theorem dX5_load_14 : decode cX5_load 14 = .ok (.iconst 1, 1) := by decide +kernel
theorem dX5_load_15 : decode cX5_load 15 = .ok (.if_icmp .lt 24, 3) := by decide +kernel
theorem dX5_load_18 : decode cX5_load 18 = .ok (.iload 4, 2) := by decide +kernel
theorem dX5_load_20 : decode cX5_load 20 = .ok (.bipush 8, 2) := by decide +kernel
theorem dX5_load_22 : decode cX5_load 22 = .ok (.if_icmp .gt 17, 3) := by decide +kernel
theorem dX5_load_25 : decode cX5_load 25 = .ok (.aload 5, 2) := by decide +kernel
theorem dX5_load_27 : decode cX5_load 27 = .ok (.getfield 168, 3) := by decide +kernel
theorem dX5_load_30 : decode cX5_load 30 = .ok (.iload 4, 2) := by decide +kernel
theorem dX5_load_32 : decode cX5_load 32 = .ok (.iadd, 1) := by decide +kernel
theorem dX5_load_33 : decode cX5_load 33 = .ok (.sipush 5000, 3) := by decide +kernel
theorem dX5_load_36 : decode cX5_load 36 = .ok (.if_icmp .le 5, 3) := by decide +kernel
theorem dX5_load_39 : decode cX5_load 39 = .ok (.iconst (-1), 1) := by decide +kernel
theorem dX5_load_40 : decode cX5_load 40 = .ok (.ireturn, 1) := by decide +kernel
theorem dX5_load_41 : decode cX5_load 41 = .ok (.iload 4, 2) := by decide +kernel
theorem dX5_load_43 : decode cX5_load 43 = .ok (.iconst 1, 1) := by decide +kernel
theorem dX5_load_44 : decode cX5_load 44 = .ok (.isub, 1) := by decide +kernel
theorem dX5_load_45 : decode cX5_load 45 = .ok (.istore 6, 2) := by decide +kernel
theorem dX5_load_47 : decode cX5_load 47 = .ok (.iload 6, 2) := by decide +kernel
theorem dX5_load_49 : decode cX5_load 49 = .ok (.ifCond .lt 26, 3) := by decide +kernel
theorem dX5_load_52 : decode cX5_load 52 = .ok (.aload 5, 2) := by decide +kernel
theorem dX5_load_54 : decode cX5_load 54 = .ok (.lload_n 2, 1) := by decide +kernel
theorem dX5_load_55 : decode cX5_load 55 = .ok (.bipush 8, 2) := by decide +kernel
theorem dX5_load_57 : decode cX5_load 57 = .ok (.iload 6, 2) := by decide +kernel
theorem dX5_load_59 : decode cX5_load 59 = .ok (.imul, 1) := by decide +kernel
theorem dX5_load_60 : decode cX5_load 60 = .ok (.lushr, 1) := by decide +kernel
theorem dX5_load_61 : decode cX5_load 61 = .ok (.l2i, 1) := by decide +kernel
theorem dX5_load_62 : decode cX5_load 62 = .ok (.sipush 255, 3) := by decide +kernel
theorem dX5_load_65 : decode cX5_load 65 = .ok (.iand, 1) := by decide +kernel
theorem dX5_load_66 : decode cX5_load 66 = .ok (.invokevirtual 170, 3) := by decide +kernel
theorem dX5_load_69 : decode cX5_load 69 = .ok (.iinc 6 (-1), 3) := by decide +kernel
theorem dX5_load_72 : decode cX5_load 72 = .ok (.goto (-25), 3) := by decide +kernel
theorem dX5_load_75 : decode cX5_load 75 = .ok (.aload 5, 2) := by decide +kernel
theorem dX5_load_77 : decode cX5_load 77 = .ok (.getfield 168, 3) := by decide +kernel
theorem dX5_load_80 : decode cX5_load 80 = .ok (.ireturn, 1) := by decide +kernel
set_option maxRecDepth 100000 in
theorem ggX5_forget_X5_spriteAt : GoodIn wsX5_forget wsX5_spriteAt := goodIn_r _ [6, 7, 18, 19, 20, 21, 22] rfl (by decide +kernel)
set_option maxRecDepth 20000 in
theorem gX5_forget_X5_spriteAt : GoodIn wsX5_forget (wsV RX5 149 RX5 yX5_spriteAt wsX5_spriteAt) := goodIn_app (goodIn_of _ (by decide +kernel)) ggX5_forget_X5_spriteAt
set_option maxRecDepth 100000 in
theorem ggX5_forget_X2_empty : GoodIn wsX5_forget wsX2_empty := goodIn_r _ [12, 13, 14, 15, 16, 17] rfl (by decide +kernel)
set_option maxRecDepth 20000 in
theorem gX5_forget_X2_empty : GoodIn wsX5_forget (wsV RX5 153 RX2 yX2_empty wsX2_empty) := goodIn_app (goodIn_of _ (by decide +kernel)) ggX5_forget_X2_empty
theorem dX5_forget_0 : decode cX5_forget 0 = .ok (.aload_n 0, 1) := by decide +kernel
theorem dX5_forget_1 : decode cX5_forget 1 = .ok (.iload_n 1, 1) := by decide +kernel
theorem dX5_forget_2 : decode cX5_forget 2 = .ok (.invokevirtual 149, 3) := by decide +kernel
theorem dX5_forget_5 : decode cX5_forget 5 = .ok (.astore_n 2, 1) := by decide +kernel
theorem dX5_forget_6 : decode cX5_forget 6 = .ok (.aload_n 2, 1) := by decide +kernel
theorem dX5_forget_7 : decode cX5_forget 7 = .ok (.ifnonnull 5, 3) := by decide +kernel
theorem dX5_forget_10 : decode cX5_forget 10 = .ok (.iconst (-1), 1) := by decide +kernel
theorem dX5_forget_11 : decode cX5_forget 11 = .ok (.ireturn, 1) := by decide +kernel
theorem dX5_forget_12 : decode cX5_forget 12 = .ok (.aload_n 2, 1) := by decide +kernel
theorem dX5_forget_13 : decode cX5_forget 13 = .ok (.getfield 168, 3) := by decide +kernel
theorem dX5_forget_16 : decode cX5_forget 16 = .ok (.istore_n 3, 1) := by decide +kernel
theorem dX5_forget_17 : decode cX5_forget 17 = .ok (.aload_n 2, 1) := by decide +kernel
theorem dX5_forget_18 : decode cX5_forget 18 = .ok (.invokevirtual 153, 3) := by decide +kernel
theorem dX5_forget_21 : decode cX5_forget 21 = .ok (.iload_n 3, 1) := by decide +kernel
theorem dX5_forget_22 : decode cX5_forget 22 = .ok (.ireturn, 1) := by decide +kernel
set_option maxRecDepth 100000 in
theorem ggX5_part_X5_spriteAt : GoodIn wsX5_part wsX5_spriteAt := goodIn_r _ [7, 8, 12, 13, 14, 15, 16] rfl (by decide +kernel)
set_option maxRecDepth 20000 in
theorem gX5_part_X5_spriteAt : GoodIn wsX5_part (wsV RX5 149 RX5 yX5_spriteAt wsX5_spriteAt) := goodIn_app (goodIn_of _ (by decide +kernel)) ggX5_part_X5_spriteAt
theorem dX5_part_0 : decode cX5_part 0 = .ok (.aload_n 0, 1) := by decide +kernel
theorem dX5_part_1 : decode cX5_part 1 = .ok (.iload_n 1, 1) := by decide +kernel
theorem dX5_part_2 : decode cX5_part 2 = .ok (.invokevirtual 149, 3) := by decide +kernel
theorem dX5_part_5 : decode cX5_part 5 = .ok (.astore_n 3, 1) := by decide +kernel
theorem dX5_part_6 : decode cX5_part 6 = .ok (.aload_n 3, 1) := by decide +kernel
theorem dX5_part_7 : decode cX5_part 7 = .ok (.ifnull 15, 3) := by decide +kernel
theorem dX5_part_10 : decode cX5_part 10 = .ok (.iload_n 2, 1) := by decide +kernel
theorem dX5_part_11 : decode cX5_part 11 = .ok (.ifCond .lt 11, 3) := by decide +kernel
theorem dX5_part_14 : decode cX5_part 14 = .ok (.iload_n 2, 1) := by decide +kernel
theorem dX5_part_15 : decode cX5_part 15 = .ok (.aload_n 3, 1) := by decide +kernel
theorem dX5_part_16 : decode cX5_part 16 = .ok (.getfield 168, 3) := by decide +kernel
theorem dX5_part_19 : decode cX5_part 19 = .ok (.if_icmp .lt 5, 3) := by decide +kernel
theorem dX5_part_22 : decode cX5_part 22 = .ok (.iconst (-1), 1) := by decide +kernel
theorem dX5_part_23 : decode cX5_part 23 = .ok (.ireturn, 1) := by decide +kernel
theorem dX5_part_24 : decode cX5_part 24 = .ok (.aload_n 3, 1) := by decide +kernel
theorem dX5_part_25 : decode cX5_part 25 = .ok (.getfield 174, 3) := by decide +kernel
theorem dX5_part_28 : decode cX5_part 28 = .ok (.iload_n 2, 1) := by decide +kernel
theorem dX5_part_29 : decode cX5_part 29 = .ok (.iaload, 1) := by decide +kernel
theorem dX5_part_30 : decode cX5_part 30 = .ok (.ireturn, 1) := by decide +kernel
set_option maxRecDepth 100000 in
theorem ggX5_draw_X5_spriteAt : GoodIn wsX5_draw wsX5_spriteAt := goodIn_r _ [6, 7, 64, 65, 66, 67, 68] rfl (by decide +kernel)
set_option maxRecDepth 20000 in
theorem gX5_draw_X5_spriteAt : GoodIn wsX5_draw (wsV RX5 149 RX5 yX5_spriteAt wsX5_spriteAt) := goodIn_app (goodIn_of _ (by decide +kernel)) ggX5_draw_X5_spriteAt
set_option maxRecDepth 100000 in
theorem ggX5_draw_X5_surfaceAt : GoodIn wsX5_draw wsX5_surfaceAt := goodIn_r _ [11, 12, 13, 64, 65, 66, 67, 68] rfl (by decide +kernel)
set_option maxRecDepth 20000 in
theorem gX5_draw_X5_surfaceAt : GoodIn wsX5_draw (wsV RX5 41 RX5 yX5_surfaceAt wsX5_surfaceAt) := goodIn_app (goodIn_of _ (by decide +kernel)) ggX5_draw_X5_surfaceAt
set_option maxRecDepth 100000 in
theorem ggX5_draw_X2_firstWrong : GoodIn wsX5_draw wsX2_firstWrong := goodIn_r _ [18, 19, 20, 21, 22, 17, 23, 24, 25, 26, 27, 28, 29, 69, 70, 71] rfl (by decide +kernel)
set_option maxRecDepth 20000 in
theorem gX5_draw_X2_firstWrong : GoodIn wsX5_draw (wsV RX5 180 RX2 yX2_firstWrong wsX2_firstWrong) := goodIn_app (goodIn_of _ (by decide +kernel)) ggX5_draw_X2_firstWrong
set_option maxRecDepth 100000 in
theorem ggX5_draw_X2_paint : GoodIn wsX5_draw wsX2_paint := goodIn_r _ [33, 19, 20, 34, 35, 17, 36, 37, 38, 39, 40, 41, 42, 43, 44, 45, 46, 47, 48, 49, 50, 51, 52, 53, 54, 55, 56, 57, 58, 27, 28, 29, 21, 22, 23, 69, 70, 71, 59, 60, 61, 62, 63, 72, 73, 74, 75] rfl (by decide +kernel)
set_option maxRecDepth 20000 in
theorem gX5_draw_X2_paint : GoodIn wsX5_draw (wsV RX5 184 RX2 yX2_paint wsX2_paint) := goodIn_app (goodIn_of _ (by decide +kernel)) ggX5_draw_X2_paint
theorem dX5_draw_0 : decode cX5_draw 0 = .ok (.aload_n 0, 1) := by decide +kernel
theorem dX5_draw_1 : decode cX5_draw 1 = .ok (.iload_n 1, 1) := by decide +kernel
theorem dX5_draw_2 : decode cX5_draw 2 = .ok (.invokevirtual 149, 3) := by decide +kernel
theorem dX5_draw_5 : decode cX5_draw 5 = .ok (.astore 5, 2) := by decide +kernel
theorem dX5_draw_7 : decode cX5_draw 7 = .ok (.aload_n 0, 1) := by decide +kernel
theorem dX5_draw_8 : decode cX5_draw 8 = .ok (.iload_n 2, 1) := by decide +kernel
theorem dX5_draw_9 : decode cX5_draw 9 = .ok (.invokevirtual 41, 3) := by decide +kernel
theorem dX5_draw_12 : decode cX5_draw 12 = .ok (.astore 6, 2) := by decide +kernel
theorem dX5_draw_14 : decode cX5_draw 14 = .ok (.aload 5, 2) := by decide +kernel
theorem dX5_draw_16 : decode cX5_draw 16 = .ok (.ifnull 8, 3) := by decide +kernel
theorem dX5_draw_19 : decode cX5_draw 19 = .ok (.aload 6, 2) := by decide +kernel
theorem dX5_draw_21 : decode cX5_draw 21 = .ok (.ifnonnull 5, 3) := by decide +kernel
theorem dX5_draw_24 : decode cX5_draw 24 = .ok (.iconst (-1), 1) := by decide +kernel
theorem dX5_draw_25 : decode cX5_draw 25 = .ok (.ireturn, 1) := by decide +kernel
theorem dX5_draw_26 : decode cX5_draw 26 = .ok (.aload 5, 2) := by decide +kernel
theorem dX5_draw_28 : decode cX5_draw 28 = .ok (.aload 6, 2) := by decide +kernel
theorem dX5_draw_30 : decode cX5_draw 30 = .ok (.getfield 177, 3) := by decide +kernel
theorem dX5_draw_33 : decode cX5_draw 33 = .ok (.invokevirtual 180, 3) := by decide +kernel
theorem dX5_draw_36 : decode cX5_draw 36 = .ok (.istore 7, 2) := by decide +kernel
theorem dX5_draw_38 : decode cX5_draw 38 = .ok (.iload 7, 2) := by decide +kernel
theorem dX5_draw_40 : decode cX5_draw 40 = .ok (.ifCond .ne 13, 3) := by decide +kernel
theorem dX5_draw_43 : decode cX5_draw 43 = .ok (.aload 5, 2) := by decide +kernel
theorem dX5_draw_45 : decode cX5_draw 45 = .ok (.aload 6, 2) := by decide +kernel
theorem dX5_draw_47 : decode cX5_draw 47 = .ok (.iload_n 3, 1) := by decide +kernel
theorem dX5_draw_48 : decode cX5_draw 48 = .ok (.iload 4, 2) := by decide +kernel
theorem dX5_draw_50 : decode cX5_draw 50 = .ok (.invokevirtual 184, 3) := by decide +kernel
theorem dX5_draw_53 : decode cX5_draw 53 = .ok (.iload 7, 2) := by decide +kernel
theorem dX5_draw_55 : decode cX5_draw 55 = .ok (.ireturn, 1) := by decide +kernel
set_option maxRecDepth 100000 in
theorem ggX5_check_X3_isSound : GoodIn wsX5_check wsX3_isSound := goodIn_r _ [7, 8, 9, 10, 11, 12, 13, 14, 15, 16, 17, 6, 18, 19, 25, 26, 27, 28, 29, 30, 31, 32, 33] rfl (by decide +kernel)
set_option maxRecDepth 20000 in
theorem gX5_check_X3_isSound : GoodIn wsX5_check (wsV RX5 188 RX3 yX3_isSound wsX3_isSound) := goodIn_app (goodIn_of _ (by decide +kernel)) ggX5_check_X3_isSound
theorem dX5_check_0 : decode cX5_check 0 = .ok (.iconst 0, 1) := by decide +kernel
theorem dX5_check_1 : decode cX5_check 1 = .ok (.istore_n 1, 1) := by decide +kernel
theorem dX5_check_2 : decode cX5_check 2 = .ok (.iload_n 1, 1) := by decide +kernel
theorem dX5_check_3 : decode cX5_check 3 = .ok (.aload_n 0, 1) := by decide +kernel
theorem dX5_check_4 : decode cX5_check 4 = .ok (.getfield 15, 3) := by decide +kernel
theorem dX5_check_7 : decode cX5_check 7 = .ok (.if_icmp .ge 23, 3) := by decide +kernel
theorem dX5_check_10 : decode cX5_check 10 = .ok (.aload_n 0, 1) := by decide +kernel
theorem dX5_check_11 : decode cX5_check 11 = .ok (.getfield 11, 3) := by decide +kernel
theorem dX5_check_14 : decode cX5_check 14 = .ok (.iload_n 1, 1) := by decide +kernel
theorem dX5_check_15 : decode cX5_check 15 = .ok (.aaload, 1) := by decide +kernel
theorem dX5_check_16 : decode cX5_check 16 = .ok (.invokevirtual 188, 3) := by decide +kernel
theorem dX5_check_19 : decode cX5_check 19 = .ok (.ifCond .ne 5, 3) := by decide +kernel
theorem dX5_check_22 : decode cX5_check 22 = .ok (.iconst 0, 1) := by decide +kernel
theorem dX5_check_23 : decode cX5_check 23 = .ok (.ireturn, 1) := by decide +kernel
theorem dX5_check_24 : decode cX5_check 24 = .ok (.iinc 1 1, 3) := by decide +kernel
theorem dX5_check_27 : decode cX5_check 27 = .ok (.goto (-25), 3) := by decide +kernel
theorem dX5_check_30 : decode cX5_check 30 = .ok (.iconst 1, 1) := by decide +kernel
theorem dX5_check_31 : decode cX5_check 31 = .ok (.ireturn, 1) := by decide +kernel
theorem dX5_surfaceAt_0 : decode cX5_surfaceAt 0 = .ok (.iload_n 1, 1) := by decide +kernel
theorem dX5_surfaceAt_1 : decode cX5_surfaceAt 1 = .ok (.ifCond .lt 20, 3) := by decide +kernel
theorem dX5_surfaceAt_4 : decode cX5_surfaceAt 4 = .ok (.iload_n 1, 1) := by decide +kernel
theorem dX5_surfaceAt_5 : decode cX5_surfaceAt 5 = .ok (.aload_n 0, 1) := by decide +kernel
theorem dX5_surfaceAt_6 : decode cX5_surfaceAt 6 = .ok (.getfield 15, 3) := by decide +kernel
theorem dX5_surfaceAt_9 : decode cX5_surfaceAt 9 = .ok (.if_icmp .ge 12, 3) := by decide +kernel
theorem dX5_surfaceAt_12 : decode cX5_surfaceAt 12 = .ok (.aload_n 0, 1) := by decide +kernel
theorem dX5_surfaceAt_13 : decode cX5_surfaceAt 13 = .ok (.getfield 11, 3) := by decide +kernel
theorem dX5_surfaceAt_16 : decode cX5_surfaceAt 16 = .ok (.iload_n 1, 1) := by decide +kernel
theorem dX5_surfaceAt_17 : decode cX5_surfaceAt 17 = .ok (.aaload, 1) := by decide +kernel
theorem dX5_surfaceAt_18 : decode cX5_surfaceAt 18 = .ok (.goto 4, 3) := by decide +kernel
theorem dX5_surfaceAt_21 : decode cX5_surfaceAt 21 = .ok (.aconst_null, 1) := by decide +kernel
theorem dX5_surfaceAt_22 : decode cX5_surfaceAt 22 = .ok (.areturn, 1) := by decide +kernel
theorem dX5_spriteAt_0 : decode cX5_spriteAt 0 = .ok (.iload_n 1, 1) := by decide +kernel
theorem dX5_spriteAt_1 : decode cX5_spriteAt 1 = .ok (.ifCond .lt 17, 3) := by decide +kernel
theorem dX5_spriteAt_4 : decode cX5_spriteAt 4 = .ok (.iload_n 1, 1) := by decide +kernel
theorem dX5_spriteAt_5 : decode cX5_spriteAt 5 = .ok (.iconst 4, 1) := by decide +kernel
theorem dX5_spriteAt_6 : decode cX5_spriteAt 6 = .ok (.if_icmp .ge 12, 3) := by decide +kernel
theorem dX5_spriteAt_9 : decode cX5_spriteAt 9 = .ok (.aload_n 0, 1) := by decide +kernel
theorem dX5_spriteAt_10 : decode cX5_spriteAt 10 = .ok (.getfield 21, 3) := by decide +kernel
theorem dX5_spriteAt_13 : decode cX5_spriteAt 13 = .ok (.iload_n 1, 1) := by decide +kernel
theorem dX5_spriteAt_14 : decode cX5_spriteAt 14 = .ok (.aaload, 1) := by decide +kernel
theorem dX5_spriteAt_15 : decode cX5_spriteAt 15 = .ok (.goto 4, 3) := by decide +kernel
theorem dX5_spriteAt_18 : decode cX5_spriteAt 18 = .ok (.aconst_null, 1) := by decide +kernel
theorem dX5_spriteAt_19 : decode cX5_spriteAt 19 = .ok (.areturn, 1) := by decide +kernel
theorem dX5_isSide_0 : decode cX5_isSide 0 = .ok (.iload_n 0, 1) := by decide +kernel
theorem dX5_isSide_1 : decode cX5_isSide 1 = .ok (.ifCond .lt 13, 3) := by decide +kernel
theorem dX5_isSide_4 : decode cX5_isSide 4 = .ok (.iload_n 0, 1) := by decide +kernel
theorem dX5_isSide_5 : decode cX5_isSide 5 = .ok (.bipush 64, 2) := by decide +kernel
theorem dX5_isSide_7 : decode cX5_isSide 7 = .ok (.if_icmp .gt 7, 3) := by decide +kernel
theorem dX5_isSide_10 : decode cX5_isSide 10 = .ok (.iconst 1, 1) := by decide +kernel
theorem dX5_isSide_11 : decode cX5_isSide 11 = .ok (.goto 4, 3) := by decide +kernel
theorem dX5_isSide_14 : decode cX5_isSide 14 = .ok (.iconst 0, 1) := by decide +kernel
theorem dX5_isSide_15 : decode cX5_isSide 15 = .ok (.ireturn, 1) := by decide +kernel
theorem dX5_isOperation_0 : decode cX5_isOperation 0 = .ok (.iload_n 0, 1) := by decide +kernel
theorem dX5_isOperation_1 : decode cX5_isOperation 1 = .ok (.ifCond .lt 13, 3) := by decide +kernel
theorem dX5_isOperation_4 : decode cX5_isOperation 4 = .ok (.iload_n 0, 1) := by decide +kernel
theorem dX5_isOperation_5 : decode cX5_isOperation 5 = .ok (.bipush 15, 2) := by decide +kernel
theorem dX5_isOperation_7 : decode cX5_isOperation 7 = .ok (.if_icmp .gt 7, 3) := by decide +kernel
theorem dX5_isOperation_10 : decode cX5_isOperation 10 = .ok (.iconst 1, 1) := by decide +kernel
theorem dX5_isOperation_11 : decode cX5_isOperation 11 = .ok (.goto 4, 3) := by decide +kernel
theorem dX5_isOperation_14 : decode cX5_isOperation 14 = .ok (.iconst 0, 1) := by decide +kernel
theorem dX5_isOperation_15 : decode cX5_isOperation 15 = .ok (.ireturn, 1) := by decide +kernel
set_option maxRecDepth 100000 in
theorem ggX5_moveOf_X5_isSide : GoodIn wsX5_moveOf wsX5_isSide := goodIn_r _ [9] rfl (by decide +kernel)
set_option maxRecDepth 20000 in
theorem gX5_moveOf_X5_isSide : GoodIn wsX5_moveOf (va_wsS RX5 34 yX5_isSide wsX5_isSide) := goodIn_app (goodIn_of _ (by decide +kernel)) ggX5_moveOf_X5_isSide
set_option maxRecDepth 100000 in
theorem ggX5_moveOf_X1_init : GoodIn wsX5_moveOf wsX1_init := goodIn_r _ [12, 13, 14, 15, 16, 17, 18, 19, 20, 21, 22, 23, 24, 25, 26, 27, 28, 29, 30, 31, 32, 33, 34, 35, 36, 37, 38, 39, 40, 41, 42, 43, 44, 45, 46, 47, 48, 49, 50, 51, 52, 53, 54, 55, 56, 57, 58, 59, 60, 61, 62] rfl (by decide +kernel)
set_option maxRecDepth 20000 in
theorem gX5_moveOf_X1_init : GoodIn wsX5_moveOf (wsX1_init) := ggX5_moveOf_X1_init
theorem dX5_moveOf_0 : decode cX5_moveOf 0 = .ok (.aload_n 0, 1) := by decide +kernel
theorem dX5_moveOf_1 : decode cX5_moveOf 1 = .ok (.ifnull 27, 3) := by decide +kernel
theorem dX5_moveOf_4 : decode cX5_moveOf 4 = .ok (.aload_n 2, 1) := by decide +kernel
theorem dX5_moveOf_5 : decode cX5_moveOf 5 = .ok (.ifnull 23, 3) := by decide +kernel
theorem dX5_moveOf_8 : decode cX5_moveOf 8 = .ok (.aload_n 1, 1) := by decide +kernel
theorem dX5_moveOf_9 : decode cX5_moveOf 9 = .ok (.getfield 82, 3) := by decide +kernel
theorem dX5_moveOf_12 : decode cX5_moveOf 12 = .ok (.invokestatic 34, 3) := by decide +kernel
theorem dX5_moveOf_15 : decode cX5_moveOf 15 = .ok (.ifCond .eq 13, 3) := by decide +kernel
theorem dX5_moveOf_18 : decode cX5_moveOf 18 = .ok (.aload_n 1, 1) := by decide +kernel
theorem dX5_moveOf_19 : decode cX5_moveOf 19 = .ok (.getfield 85, 3) := by decide +kernel
theorem dX5_moveOf_22 : decode cX5_moveOf 22 = .ok (.invokestatic 34, 3) := by decide +kernel
theorem dX5_moveOf_25 : decode cX5_moveOf 25 = .ok (.ifCond .ne 5, 3) := by decide +kernel
theorem dX5_moveOf_28 : decode cX5_moveOf 28 = .ok (.aconst_null, 1) := by decide +kernel
theorem dX5_moveOf_29 : decode cX5_moveOf 29 = .ok (.areturn, 1) := by decide +kernel
theorem dX5_moveOf_30 : decode cX5_moveOf 30 = .ok (.new 113, 3) := by decide +kernel
theorem dX5_moveOf_33 : decode cX5_moveOf 33 = .ok (.dup, 1) := by decide +kernel
theorem dX5_moveOf_34 : decode cX5_moveOf 34 = .ok (.aload_n 0, 1) := by decide +kernel
theorem dX5_moveOf_35 : decode cX5_moveOf 35 = .ok (.aload_n 1, 1) := by decide +kernel
theorem dX5_moveOf_36 : decode cX5_moveOf 36 = .ok (.aload_n 2, 1) := by decide +kernel
theorem dX5_moveOf_37 : decode cX5_moveOf 37 = .ok (.iload_n 3, 1) := by decide +kernel
theorem dX5_moveOf_38 : decode cX5_moveOf 38 = .ok (.iload 4, 2) := by decide +kernel
theorem dX5_moveOf_40 : decode cX5_moveOf 40 = .ok (.invokespecial 191, 3) := by decide +kernel
theorem dX5_moveOf_43 : decode cX5_moveOf 43 = .ok (.areturn, 1) := by decide +kernel
set_option maxRecDepth 100000 in
theorem ggX5_takeDots_X3_indexOf : GoodIn wsX5_takeDots wsX3_indexOf := goodIn_r _ [17, 18, 19, 28, 29, 30, 31, 32, 24, 25, 26, 27] rfl (by decide +kernel)
set_option maxRecDepth 20000 in
theorem gX5_takeDots_X3_indexOf : GoodIn wsX5_takeDots (wsV RX5 75 RX3 yX3_indexOf wsX3_indexOf) := goodIn_app (goodIn_of _ (by decide +kernel)) ggX5_takeDots_X3_indexOf
theorem dX5_takeDots_0 : decode cX5_takeDots 0 = .ok (.aload_n 1, 1) := by decide +kernel
theorem dX5_takeDots_1 : decode cX5_takeDots 1 = .ok (.getfield 133, 3) := by decide +kernel
theorem dX5_takeDots_4 : decode cX5_takeDots 4 = .ok (.astore_n 2, 1) := by decide +kernel
theorem dX5_takeDots_5 : decode cX5_takeDots 5 = .ok (.iconst 0, 1) := by decide +kernel
theorem dX5_takeDots_6 : decode cX5_takeDots 6 = .ok (.istore_n 3, 1) := by decide +kernel
theorem dX5_takeDots_7 : decode cX5_takeDots 7 = .ok (.iload_n 3, 1) := by decide +kernel
theorem dX5_takeDots_8 : decode cX5_takeDots 8 = .ok (.aload_n 2, 1) := by decide +kernel
theorem dX5_takeDots_9 : decode cX5_takeDots 9 = .ok (.getfield 85, 3) := by decide +kernel
theorem dX5_takeDots_12 : decode cX5_takeDots 12 = .ok (.if_icmp .ge 55, 3) := by decide +kernel
theorem dX5_takeDots_15 : decode cX5_takeDots 15 = .ok (.aload_n 1, 1) := by decide +kernel
theorem dX5_takeDots_16 : decode cX5_takeDots 16 = .ok (.getfield 140, 3) := by decide +kernel
theorem dX5_takeDots_19 : decode cX5_takeDots 19 = .ok (.aload_n 2, 1) := by decide +kernel
theorem dX5_takeDots_20 : decode cX5_takeDots 20 = .ok (.getfield 88, 3) := by decide +kernel
theorem dX5_takeDots_23 : decode cX5_takeDots 23 = .ok (.aload_n 2, 1) := by decide +kernel
theorem dX5_takeDots_24 : decode cX5_takeDots 24 = .ok (.getfield 92, 3) := by decide +kernel
theorem dX5_takeDots_27 : decode cX5_takeDots 27 = .ok (.iload_n 3, 1) := by decide +kernel
theorem dX5_takeDots_28 : decode cX5_takeDots 28 = .ok (.i2l, 1) := by decide +kernel
theorem dX5_takeDots_29 : decode cX5_takeDots 29 = .ok (.ladd, 1) := by decide +kernel
theorem dX5_takeDots_30 : decode cX5_takeDots 30 = .ok (.invokevirtual 75, 3) := by decide +kernel
theorem dX5_takeDots_33 : decode cX5_takeDots 33 = .ok (.istore 4, 2) := by decide +kernel
theorem dX5_takeDots_35 : decode cX5_takeDots 35 = .ok (.aload_n 1, 1) := by decide +kernel
theorem dX5_takeDots_36 : decode cX5_takeDots 36 = .ok (.getfield 140, 3) := by decide +kernel
theorem dX5_takeDots_39 : decode cX5_takeDots 39 = .ok (.getfield 72, 3) := by decide +kernel
theorem dX5_takeDots_42 : decode cX5_takeDots 42 = .ok (.iload 4, 2) := by decide +kernel
theorem dX5_takeDots_44 : decode cX5_takeDots 44 = .ok (.aload_n 0, 1) := by decide +kernel
theorem dX5_takeDots_45 : decode cX5_takeDots 45 = .ok (.getfield 30, 3) := by decide +kernel
theorem dX5_takeDots_48 : decode cX5_takeDots 48 = .ok (.iload_n 3, 1) := by decide +kernel
theorem dX5_takeDots_49 : decode cX5_takeDots 49 = .ok (.aload_n 2, 1) := by decide +kernel
theorem dX5_takeDots_50 : decode cX5_takeDots 50 = .ok (.getfield 82, 3) := by decide +kernel
theorem dX5_takeDots_53 : decode cX5_takeDots 53 = .ok (.imul, 1) := by decide +kernel
theorem dX5_takeDots_54 : decode cX5_takeDots 54 = .ok (.aload_n 2, 1) := by decide +kernel
theorem dX5_takeDots_55 : decode cX5_takeDots 55 = .ok (.getfield 82, 3) := by decide +kernel
theorem dX5_takeDots_58 : decode cX5_takeDots 58 = .ok (.invokestatic 194, 3) := by decide +kernel
theorem dX5_takeDots_61 : decode cX5_takeDots 61 = .ok (.iinc 3 1, 3) := by decide +kernel
theorem dX5_takeDots_64 : decode cX5_takeDots 64 = .ok (.goto (-57), 3) := by decide +kernel
theorem dX5_takeDots_67 : decode cX5_takeDots 67 = .ok (.return_, 1) := by decide +kernel
theorem dX5_dropKey_0 : decode cX5_dropKey 0 = .ok (.iconst 0, 1) := by decide +kernel
theorem dX5_dropKey_1 : decode cX5_dropKey 1 = .ok (.istore_n 3, 1) := by decide +kernel
theorem dX5_dropKey_2 : decode cX5_dropKey 2 = .ok (.iload_n 3, 1) := by decide +kernel
theorem dX5_dropKey_3 : decode cX5_dropKey 3 = .ok (.iload_n 1, 1) := by decide +kernel
theorem dX5_dropKey_4 : decode cX5_dropKey 4 = .ok (.if_icmp .ge 26, 3) := by decide +kernel
end
section
theorem dX5_dropKey_7 : decode cX5_dropKey 7 = .ok (.aload_n 0, 1) := by decide +kernel
theorem dX5_dropKey_8 : decode cX5_dropKey 8 = .ok (.getfield 30, 3) := by decide +kernel
theorem dX5_dropKey_11 : decode cX5_dropKey 11 = .ok (.iload_n 3, 1) := by decide +kernel
theorem dX5_dropKey_12 : decode cX5_dropKey 12 = .ok (.iaload, 1) := by decide +kernel
theorem dX5_dropKey_13 : decode cX5_dropKey 13 = .ok (.iload_n 2, 1) := by decide +kernel
theorem dX5_dropKey_14 : decode cX5_dropKey 14 = .ok (.if_icmp .ne 10, 3) := by decide +kernel
theorem dX5_dropKey_17 : decode cX5_dropKey 17 = .ok (.aload_n 0, 1) := by decide +kernel
theorem dX5_dropKey_18 : decode cX5_dropKey 18 = .ok (.getfield 30, 3) := by decide +kernel
theorem dX5_dropKey_21 : decode cX5_dropKey 21 = .ok (.iload_n 3, 1) := by decide +kernel
theorem dX5_dropKey_22 : decode cX5_dropKey 22 = .ok (.iconst (-1), 1) := by decide +kernel
theorem dX5_dropKey_23 : decode cX5_dropKey 23 = .ok (.iastore, 1) := by decide +kernel
theorem dX5_dropKey_24 : decode cX5_dropKey 24 = .ok (.iinc 3 1, 3) := by decide +kernel
theorem dX5_dropKey_27 : decode cX5_dropKey 27 = .ok (.goto (-25), 3) := by decide +kernel
theorem dX5_dropKey_30 : decode cX5_dropKey 30 = .ok (.return_, 1) := by decide +kernel
set_option maxRecDepth 100000 in
theorem ggX5_dropMasked_X3_isOne : GoodIn wsX5_dropMasked wsX3_isOne := goodIn_r _ [10, 11, 12, 13, 14, 15, 16, 17, 18, 19, 20, 21, 22, 23, 24, 9, 25, 26, 36, 37, 38, 39, 40, 27, 28, 29, 30] rfl (by decide +kernel)
set_option maxRecDepth 20000 in
theorem gX5_dropMasked_X3_isOne : GoodIn wsX5_dropMasked (wsV RX5 200 RX3 yX3_isOne wsX3_isOne) := goodIn_app (goodIn_of _ (by decide +kernel)) ggX5_dropMasked_X3_isOne
theorem dX5_dropMasked_0 : decode cX5_dropMasked 0 = .ok (.iconst 0, 1) := by decide +kernel
theorem dX5_dropMasked_1 : decode cX5_dropMasked 1 = .ok (.istore_n 3, 1) := by decide +kernel
theorem dX5_dropMasked_2 : decode cX5_dropMasked 2 = .ok (.iload_n 3, 1) := by decide +kernel
theorem dX5_dropMasked_3 : decode cX5_dropMasked 3 = .ok (.aload_n 1, 1) := by decide +kernel
theorem dX5_dropMasked_4 : decode cX5_dropMasked 4 = .ok (.getfield 85, 3) := by decide +kernel
theorem dX5_dropMasked_7 : decode cX5_dropMasked 7 = .ok (.if_icmp .ge 64, 3) := by decide +kernel
theorem dX5_dropMasked_10 : decode cX5_dropMasked 10 = .ok (.iconst 0, 1) := by decide +kernel
theorem dX5_dropMasked_11 : decode cX5_dropMasked 11 = .ok (.istore 4, 2) := by decide +kernel
theorem dX5_dropMasked_13 : decode cX5_dropMasked 13 = .ok (.iload 4, 2) := by decide +kernel
theorem dX5_dropMasked_15 : decode cX5_dropMasked 15 = .ok (.aload_n 1, 1) := by decide +kernel
theorem dX5_dropMasked_16 : decode cX5_dropMasked 16 = .ok (.getfield 82, 3) := by decide +kernel
theorem dX5_dropMasked_19 : decode cX5_dropMasked 19 = .ok (.if_icmp .ge 46, 3) := by decide +kernel
theorem dX5_dropMasked_22 : decode cX5_dropMasked 22 = .ok (.aload_n 2, 1) := by decide +kernel
theorem dX5_dropMasked_23 : decode cX5_dropMasked 23 = .ok (.aload_n 1, 1) := by decide +kernel
theorem dX5_dropMasked_24 : decode cX5_dropMasked 24 = .ok (.getfield 88, 3) := by decide +kernel
theorem dX5_dropMasked_27 : decode cX5_dropMasked 27 = .ok (.iload 4, 2) := by decide +kernel
theorem dX5_dropMasked_29 : decode cX5_dropMasked 29 = .ok (.i2l, 1) := by decide +kernel
theorem dX5_dropMasked_30 : decode cX5_dropMasked 30 = .ok (.ladd, 1) := by decide +kernel
theorem dX5_dropMasked_31 : decode cX5_dropMasked 31 = .ok (.aload_n 1, 1) := by decide +kernel
theorem dX5_dropMasked_32 : decode cX5_dropMasked 32 = .ok (.getfield 92, 3) := by decide +kernel
theorem dX5_dropMasked_35 : decode cX5_dropMasked 35 = .ok (.iload_n 3, 1) := by decide +kernel
theorem dX5_dropMasked_36 : decode cX5_dropMasked 36 = .ok (.i2l, 1) := by decide +kernel
theorem dX5_dropMasked_37 : decode cX5_dropMasked 37 = .ok (.ladd, 1) := by decide +kernel
theorem dX5_dropMasked_38 : decode cX5_dropMasked 38 = .ok (.invokevirtual 200, 3) := by decide +kernel
theorem dX5_dropMasked_41 : decode cX5_dropMasked 41 = .ok (.ifCond .ne 18, 3) := by decide +kernel
theorem dX5_dropMasked_44 : decode cX5_dropMasked 44 = .ok (.aload_n 0, 1) := by decide +kernel
theorem dX5_dropMasked_45 : decode cX5_dropMasked 45 = .ok (.getfield 30, 3) := by decide +kernel
theorem dX5_dropMasked_48 : decode cX5_dropMasked 48 = .ok (.iload_n 3, 1) := by decide +kernel
theorem dX5_dropMasked_49 : decode cX5_dropMasked 49 = .ok (.aload_n 1, 1) := by decide +kernel
theorem dX5_dropMasked_50 : decode cX5_dropMasked 50 = .ok (.getfield 82, 3) := by decide +kernel
theorem dX5_dropMasked_53 : decode cX5_dropMasked 53 = .ok (.imul, 1) := by decide +kernel
theorem dX5_dropMasked_54 : decode cX5_dropMasked 54 = .ok (.iload 4, 2) := by decide +kernel
theorem dX5_dropMasked_56 : decode cX5_dropMasked 56 = .ok (.iadd, 1) := by decide +kernel
theorem dX5_dropMasked_57 : decode cX5_dropMasked 57 = .ok (.iconst (-1), 1) := by decide +kernel
theorem dX5_dropMasked_58 : decode cX5_dropMasked 58 = .ok (.iastore, 1) := by decide +kernel
theorem dX5_dropMasked_59 : decode cX5_dropMasked 59 = .ok (.iinc 4 1, 3) := by decide +kernel
theorem dX5_dropMasked_62 : decode cX5_dropMasked 62 = .ok (.goto (-49), 3) := by decide +kernel
theorem dX5_dropMasked_65 : decode cX5_dropMasked 65 = .ok (.iinc 3 1, 3) := by decide +kernel
theorem dX5_dropMasked_68 : decode cX5_dropMasked 68 = .ok (.goto (-66), 3) := by decide +kernel
theorem dX5_dropMasked_71 : decode cX5_dropMasked 71 = .ok (.return_, 1) := by decide +kernel
set_option maxRecDepth 100000 in
theorem ggX5_putDots_X3_indexOf : GoodIn wsX5_putDots wsX3_indexOf := goodIn_r _ [12, 13, 14, 28, 29, 30, 31, 32, 19, 20, 21, 22] rfl (by decide +kernel)
set_option maxRecDepth 20000 in
theorem gX5_putDots_X3_indexOf : GoodIn wsX5_putDots (wsV RX5 75 RX3 yX3_indexOf wsX3_indexOf) := goodIn_app (goodIn_of _ (by decide +kernel)) ggX5_putDots_X3_indexOf
set_option maxRecDepth 100000 in
theorem ggX5_putDots_X5_combined : GoodIn wsX5_putDots wsX5_combined := goodIn_r _ [18] rfl (by decide +kernel)
set_option maxRecDepth 20000 in
theorem gX5_putDots_X5_combined : GoodIn wsX5_putDots (va_wsS RX5 203 yX5_combined wsX5_combined) := goodIn_app (goodIn_of _ (by decide +kernel)) ggX5_putDots_X5_combined
theorem dX5_putDots_0 : decode cX5_putDots 0 = .ok (.iconst 0, 1) := by decide +kernel
theorem dX5_putDots_1 : decode cX5_putDots 1 = .ok (.istore 4, 2) := by decide +kernel
theorem dX5_putDots_3 : decode cX5_putDots 3 = .ok (.iload 4, 2) := by decide +kernel
theorem dX5_putDots_5 : decode cX5_putDots 5 = .ok (.aload_n 2, 1) := by decide +kernel
theorem dX5_putDots_6 : decode cX5_putDots 6 = .ok (.getfield 85, 3) := by decide +kernel
theorem dX5_putDots_9 : decode cX5_putDots 9 = .ok (.if_icmp .ge 103, 3) := by decide +kernel
theorem dX5_putDots_12 : decode cX5_putDots 12 = .ok (.aload_n 1, 1) := by decide +kernel
theorem dX5_putDots_13 : decode cX5_putDots 13 = .ok (.aload_n 2, 1) := by decide +kernel
theorem dX5_putDots_14 : decode cX5_putDots 14 = .ok (.getfield 88, 3) := by decide +kernel
theorem dX5_putDots_17 : decode cX5_putDots 17 = .ok (.aload_n 2, 1) := by decide +kernel
theorem dX5_putDots_18 : decode cX5_putDots 18 = .ok (.getfield 92, 3) := by decide +kernel
theorem dX5_putDots_21 : decode cX5_putDots 21 = .ok (.iload 4, 2) := by decide +kernel
theorem dX5_putDots_23 : decode cX5_putDots 23 = .ok (.i2l, 1) := by decide +kernel
theorem dX5_putDots_24 : decode cX5_putDots 24 = .ok (.ladd, 1) := by decide +kernel
theorem dX5_putDots_25 : decode cX5_putDots 25 = .ok (.invokevirtual 75, 3) := by decide +kernel
theorem dX5_putDots_28 : decode cX5_putDots 28 = .ok (.istore 5, 2) := by decide +kernel
theorem dX5_putDots_30 : decode cX5_putDots 30 = .ok (.iconst 0, 1) := by decide +kernel
theorem dX5_putDots_31 : decode cX5_putDots 31 = .ok (.istore 6, 2) := by decide +kernel
theorem dX5_putDots_33 : decode cX5_putDots 33 = .ok (.iload 6, 2) := by decide +kernel
theorem dX5_putDots_35 : decode cX5_putDots 35 = .ok (.aload_n 2, 1) := by decide +kernel
theorem dX5_putDots_36 : decode cX5_putDots 36 = .ok (.getfield 82, 3) := by decide +kernel
theorem dX5_putDots_39 : decode cX5_putDots 39 = .ok (.if_icmp .ge 67, 3) := by decide +kernel
theorem dX5_putDots_42 : decode cX5_putDots 42 = .ok (.aload_n 0, 1) := by decide +kernel
theorem dX5_putDots_43 : decode cX5_putDots 43 = .ok (.getfield 30, 3) := by decide +kernel
theorem dX5_putDots_46 : decode cX5_putDots 46 = .ok (.iload 4, 2) := by decide +kernel
theorem dX5_putDots_48 : decode cX5_putDots 48 = .ok (.aload_n 2, 1) := by decide +kernel
theorem dX5_putDots_49 : decode cX5_putDots 49 = .ok (.getfield 82, 3) := by decide +kernel
theorem dX5_putDots_52 : decode cX5_putDots 52 = .ok (.imul, 1) := by decide +kernel
theorem dX5_putDots_53 : decode cX5_putDots 53 = .ok (.iload 6, 2) := by decide +kernel
theorem dX5_putDots_55 : decode cX5_putDots 55 = .ok (.iadd, 1) := by decide +kernel
theorem dX5_putDots_56 : decode cX5_putDots 56 = .ok (.iaload, 1) := by decide +kernel
theorem dX5_putDots_57 : decode cX5_putDots 57 = .ok (.istore 7, 2) := by decide +kernel
theorem dX5_putDots_59 : decode cX5_putDots 59 = .ok (.iload 7, 2) := by decide +kernel
theorem dX5_putDots_61 : decode cX5_putDots 61 = .ok (.iconst (-1), 1) := by decide +kernel
theorem dX5_putDots_62 : decode cX5_putDots 62 = .ok (.if_icmp .eq 38, 3) := by decide +kernel
theorem dX5_putDots_65 : decode cX5_putDots 65 = .ok (.aload_n 1, 1) := by decide +kernel
theorem dX5_putDots_66 : decode cX5_putDots 66 = .ok (.getfield 72, 3) := by decide +kernel
theorem dX5_putDots_69 : decode cX5_putDots 69 = .ok (.iload 5, 2) := by decide +kernel
theorem dX5_putDots_71 : decode cX5_putDots 71 = .ok (.iload 6, 2) := by decide +kernel
theorem dX5_putDots_73 : decode cX5_putDots 73 = .ok (.iadd, 1) := by decide +kernel
theorem dX5_putDots_74 : decode cX5_putDots 74 = .ok (.iaload, 1) := by decide +kernel
theorem dX5_putDots_75 : decode cX5_putDots 75 = .ok (.istore 8, 2) := by decide +kernel
theorem dX5_putDots_77 : decode cX5_putDots 77 = .ok (.aload_n 1, 1) := by decide +kernel
theorem dX5_putDots_78 : decode cX5_putDots 78 = .ok (.getfield 72, 3) := by decide +kernel
theorem dX5_putDots_81 : decode cX5_putDots 81 = .ok (.iload 5, 2) := by decide +kernel
theorem dX5_putDots_83 : decode cX5_putDots 83 = .ok (.iload 6, 2) := by decide +kernel
theorem dX5_putDots_85 : decode cX5_putDots 85 = .ok (.iadd, 1) := by decide +kernel
theorem dX5_putDots_86 : decode cX5_putDots 86 = .ok (.iload_n 3, 1) := by decide +kernel
theorem dX5_putDots_87 : decode cX5_putDots 87 = .ok (.iload 7, 2) := by decide +kernel
theorem dX5_putDots_89 : decode cX5_putDots 89 = .ok (.iload 8, 2) := by decide +kernel
theorem dX5_putDots_91 : decode cX5_putDots 91 = .ok (.invokestatic 203, 3) := by decide +kernel
theorem dX5_putDots_94 : decode cX5_putDots 94 = .ok (.aload_n 1, 1) := by decide +kernel
theorem dX5_putDots_95 : decode cX5_putDots 95 = .ok (.getfield 177, 3) := by decide +kernel
theorem dX5_putDots_98 : decode cX5_putDots 98 = .ok (.iand, 1) := by decide +kernel
theorem dX5_putDots_99 : decode cX5_putDots 99 = .ok (.iastore, 1) := by decide +kernel
theorem dX5_putDots_100 : decode cX5_putDots 100 = .ok (.iinc 6 1, 3) := by decide +kernel
theorem dX5_putDots_103 : decode cX5_putDots 103 = .ok (.goto (-70), 3) := by decide +kernel
theorem dX5_putDots_106 : decode cX5_putDots 106 = .ok (.iinc 4 1, 3) := by decide +kernel
theorem dX5_putDots_109 : decode cX5_putDots 109 = .ok (.goto (-106), 3) := by decide +kernel
theorem dX5_putDots_112 : decode cX5_putDots 112 = .ok (.return_, 1) := by decide +kernel
theorem dX5_combined_0 : decode cX5_combined 0 = .ok (.iconst 0, 1) := by decide +kernel
theorem dX5_combined_1 : decode cX5_combined 1 = .ok (.istore_n 3, 1) := by decide +kernel
theorem dX5_combined_2 : decode cX5_combined 2 = .ok (.iload_n 0, 1) := by decide +kernel
theorem dX5_combined_3 : decode cX5_combined 3 = .ok (.iconst 1, 1) := by decide +kernel
theorem dX5_combined_4 : decode cX5_combined 4 = .ok (.iand, 1) := by decide +kernel
theorem dX5_combined_5 : decode cX5_combined 5 = .ok (.ifCond .eq 13, 3) := by decide +kernel
theorem dX5_combined_8 : decode cX5_combined 8 = .ok (.iload_n 3, 1) := by decide +kernel
theorem dX5_combined_9 : decode cX5_combined 9 = .ok (.iload_n 1, 1) := by decide +kernel
theorem dX5_combined_10 : decode cX5_combined 10 = .ok (.iconst (-1), 1) := by decide +kernel
theorem dX5_combined_11 : decode cX5_combined 11 = .ok (.ixor, 1) := by decide +kernel
theorem dX5_combined_12 : decode cX5_combined 12 = .ok (.iload_n 2, 1) := by decide +kernel
theorem dX5_combined_13 : decode cX5_combined 13 = .ok (.iconst (-1), 1) := by decide +kernel
theorem dX5_combined_14 : decode cX5_combined 14 = .ok (.ixor, 1) := by decide +kernel
theorem dX5_combined_15 : decode cX5_combined 15 = .ok (.iand, 1) := by decide +kernel
theorem dX5_combined_16 : decode cX5_combined 16 = .ok (.ior, 1) := by decide +kernel
theorem dX5_combined_17 : decode cX5_combined 17 = .ok (.istore_n 3, 1) := by decide +kernel
theorem dX5_combined_18 : decode cX5_combined 18 = .ok (.iload_n 0, 1) := by decide +kernel
theorem dX5_combined_19 : decode cX5_combined 19 = .ok (.iconst 2, 1) := by decide +kernel
theorem dX5_combined_20 : decode cX5_combined 20 = .ok (.iand, 1) := by decide +kernel
theorem dX5_combined_21 : decode cX5_combined 21 = .ok (.ifCond .eq 11, 3) := by decide +kernel
theorem dX5_combined_24 : decode cX5_combined 24 = .ok (.iload_n 3, 1) := by decide +kernel
theorem dX5_combined_25 : decode cX5_combined 25 = .ok (.iload_n 1, 1) := by decide +kernel
theorem dX5_combined_26 : decode cX5_combined 26 = .ok (.iconst (-1), 1) := by decide +kernel
theorem dX5_combined_27 : decode cX5_combined 27 = .ok (.ixor, 1) := by decide +kernel
theorem dX5_combined_28 : decode cX5_combined 28 = .ok (.iload_n 2, 1) := by decide +kernel
theorem dX5_combined_29 : decode cX5_combined 29 = .ok (.iand, 1) := by decide +kernel
theorem dX5_combined_30 : decode cX5_combined 30 = .ok (.ior, 1) := by decide +kernel
theorem dX5_combined_31 : decode cX5_combined 31 = .ok (.istore_n 3, 1) := by decide +kernel
theorem dX5_combined_32 : decode cX5_combined 32 = .ok (.iload_n 0, 1) := by decide +kernel
theorem dX5_combined_33 : decode cX5_combined 33 = .ok (.iconst 4, 1) := by decide +kernel
theorem dX5_combined_34 : decode cX5_combined 34 = .ok (.iand, 1) := by decide +kernel
theorem dX5_combined_35 : decode cX5_combined 35 = .ok (.ifCond .eq 11, 3) := by decide +kernel
theorem dX5_combined_38 : decode cX5_combined 38 = .ok (.iload_n 3, 1) := by decide +kernel
theorem dX5_combined_39 : decode cX5_combined 39 = .ok (.iload_n 1, 1) := by decide +kernel
theorem dX5_combined_40 : decode cX5_combined 40 = .ok (.iload_n 2, 1) := by decide +kernel
theorem dX5_combined_41 : decode cX5_combined 41 = .ok (.iconst (-1), 1) := by decide +kernel
theorem dX5_combined_42 : decode cX5_combined 42 = .ok (.ixor, 1) := by decide +kernel
theorem dX5_combined_43 : decode cX5_combined 43 = .ok (.iand, 1) := by decide +kernel
theorem dX5_combined_44 : decode cX5_combined 44 = .ok (.ior, 1) := by decide +kernel
theorem dX5_combined_45 : decode cX5_combined 45 = .ok (.istore_n 3, 1) := by decide +kernel
theorem dX5_combined_46 : decode cX5_combined 46 = .ok (.iload_n 0, 1) := by decide +kernel
theorem dX5_combined_47 : decode cX5_combined 47 = .ok (.bipush 8, 2) := by decide +kernel
theorem dX5_combined_49 : decode cX5_combined 49 = .ok (.iand, 1) := by decide +kernel
theorem dX5_combined_50 : decode cX5_combined 50 = .ok (.ifCond .eq 9, 3) := by decide +kernel
theorem dX5_combined_53 : decode cX5_combined 53 = .ok (.iload_n 3, 1) := by decide +kernel
theorem dX5_combined_54 : decode cX5_combined 54 = .ok (.iload_n 1, 1) := by decide +kernel
theorem dX5_combined_55 : decode cX5_combined 55 = .ok (.iload_n 2, 1) := by decide +kernel
theorem dX5_combined_56 : decode cX5_combined 56 = .ok (.iand, 1) := by decide +kernel
theorem dX5_combined_57 : decode cX5_combined 57 = .ok (.ior, 1) := by decide +kernel
theorem dX5_combined_58 : decode cX5_combined 58 = .ok (.istore_n 3, 1) := by decide +kernel
theorem dX5_combined_59 : decode cX5_combined 59 = .ok (.iload_n 3, 1) := by decide +kernel
theorem dX5_combined_60 : decode cX5_combined 60 = .ok (.ireturn, 1) := by decide +kernel
theorem dX6_init_0 : decode cX6_init 0 = .ok (.aload_n 0, 1) := by decide +kernel
theorem dX6_init_1 : decode cX6_init 1 = .ok (.invokespecial 1, 3) := by decide +kernel
theorem dX6_init_4 : decode cX6_init 4 = .ok (.aload_n 0, 1) := by decide +kernel
theorem dX6_init_5 : decode cX6_init 5 = .ok (.bipush 8, 2) := by decide +kernel
theorem dX6_init_7 : decode cX6_init 7 = .ok (.newarray .int, 2) := by decide +kernel
theorem dX6_init_9 : decode cX6_init 9 = .ok (.putfield 7, 3) := by decide +kernel
theorem dX6_init_12 : decode cX6_init 12 = .ok (.aload_n 0, 1) := by decide +kernel
theorem dX6_init_13 : decode cX6_init 13 = .ok (.bipush 8, 2) := by decide +kernel
theorem dX6_init_15 : decode cX6_init 15 = .ok (.newarray .int, 2) := by decide +kernel
theorem dX6_init_17 : decode cX6_init 17 = .ok (.putfield 13, 3) := by decide +kernel
theorem dX6_init_20 : decode cX6_init 20 = .ok (.aload_n 0, 1) := by decide +kernel
theorem dX6_init_21 : decode cX6_init 21 = .ok (.bipush 8, 2) := by decide +kernel
theorem dX6_init_23 : decode cX6_init 23 = .ok (.newarray .int, 2) := by decide +kernel
theorem dX6_init_25 : decode cX6_init 25 = .ok (.putfield 16, 3) := by decide +kernel
theorem dX6_init_28 : decode cX6_init 28 = .ok (.aload_n 0, 1) := by decide +kernel
theorem dX6_init_29 : decode cX6_init 29 = .ok (.bipush 32, 2) := by decide +kernel
theorem dX6_init_31 : decode cX6_init 31 = .ok (.newarray .int, 2) := by decide +kernel
theorem dX6_init_33 : decode cX6_init 33 = .ok (.putfield 19, 3) := by decide +kernel
theorem dX6_init_36 : decode cX6_init 36 = .ok (.aload_n 0, 1) := by decide +kernel
theorem dX6_init_37 : decode cX6_init 37 = .ok (.ldc 22, 2) := by decide +kernel
theorem dX6_init_39 : decode cX6_init 39 = .ok (.newarray .int, 2) := by decide +kernel
theorem dX6_init_41 : decode cX6_init 41 = .ok (.putfield 23, 3) := by decide +kernel
theorem dX6_init_44 : decode cX6_init 44 = .ok (.aload_n 0, 1) := by decide +kernel
theorem dX6_init_45 : decode cX6_init 45 = .ok (.sipush 4096, 3) := by decide +kernel
theorem dX6_init_48 : decode cX6_init 48 = .ok (.newarray .int, 2) := by decide +kernel
theorem dX6_init_50 : decode cX6_init 50 = .ok (.putfield 26, 3) := by decide +kernel
theorem dX6_init_53 : decode cX6_init 53 = .ok (.aload_n 0, 1) := by decide +kernel
theorem dX6_init_54 : decode cX6_init 54 = .ok (.sipush 4096, 3) := by decide +kernel
theorem dX6_init_57 : decode cX6_init 57 = .ok (.newarray .boolean, 2) := by decide +kernel
theorem dX6_init_59 : decode cX6_init 59 = .ok (.putfield 29, 3) := by decide +kernel
theorem dX6_init_62 : decode cX6_init 62 = .ok (.aload_n 0, 1) := by decide +kernel
theorem dX6_init_63 : decode cX6_init 63 = .ok (.iconst 4, 1) := by decide +kernel
theorem dX6_init_64 : decode cX6_init 64 = .ok (.newarray .int, 2) := by decide +kernel
theorem dX6_init_66 : decode cX6_init 66 = .ok (.putfield 33, 3) := by decide +kernel
theorem dX6_init_69 : decode cX6_init 69 = .ok (.aload_n 0, 1) := by decide +kernel
theorem dX6_init_70 : decode cX6_init 70 = .ok (.sipush 20000, 3) := by decide +kernel
theorem dX6_init_73 : decode cX6_init 73 = .ok (.newarray .int, 2) := by decide +kernel
theorem dX6_init_75 : decode cX6_init 75 = .ok (.putfield 36, 3) := by decide +kernel
theorem dX6_init_78 : decode cX6_init 78 = .ok (.aload_n 0, 1) := by decide +kernel
theorem dX6_init_79 : decode cX6_init 79 = .ok (.sipush 7000, 3) := by decide +kernel
theorem dX6_init_82 : decode cX6_init 82 = .ok (.newarray .int, 2) := by decide +kernel
theorem dX6_init_84 : decode cX6_init 84 = .ok (.putfield 39, 3) := by decide +kernel
theorem dX6_init_87 : decode cX6_init 87 = .ok (.aload_n 0, 1) := by decide +kernel
theorem dX6_init_88 : decode cX6_init 88 = .ok (.sipush 4096, 3) := by decide +kernel
theorem dX6_init_91 : decode cX6_init 91 = .ok (.newarray .int, 2) := by decide +kernel
theorem dX6_init_93 : decode cX6_init 93 = .ok (.putfield 42, 3) := by decide +kernel
theorem dX6_init_96 : decode cX6_init 96 = .ok (.aload_n 0, 1) := by decide +kernel
theorem dX6_init_97 : decode cX6_init 97 = .ok (.sipush 4096, 3) := by decide +kernel
theorem dX6_init_100 : decode cX6_init 100 = .ok (.newarray .int, 2) := by decide +kernel
theorem dX6_init_102 : decode cX6_init 102 = .ok (.putfield 45, 3) := by decide +kernel
theorem dX6_init_105 : decode cX6_init 105 = .ok (.aload_n 0, 1) := by decide +kernel
theorem dX6_init_106 : decode cX6_init 106 = .ok (.sipush 4096, 3) := by decide +kernel
theorem dX6_init_109 : decode cX6_init 109 = .ok (.newarray .int, 2) := by decide +kernel
theorem dX6_init_111 : decode cX6_init 111 = .ok (.putfield 48, 3) := by decide +kernel
theorem dX6_init_114 : decode cX6_init 114 = .ok (.return_, 1) := by decide +kernel
theorem dX6_isSurface_0 : decode cX6_isSurface 0 = .ok (.iload_n 1, 1) := by decide +kernel
theorem dX6_isSurface_1 : decode cX6_isSurface 1 = .ok (.ifCond .lt 15, 3) := by decide +kernel
theorem dX6_isSurface_4 : decode cX6_isSurface 4 = .ok (.iload_n 1, 1) := by decide +kernel
theorem dX6_isSurface_5 : decode cX6_isSurface 5 = .ok (.aload_n 0, 1) := by decide +kernel
theorem dX6_isSurface_6 : decode cX6_isSurface 6 = .ok (.getfield 51, 3) := by decide +kernel
theorem dX6_isSurface_9 : decode cX6_isSurface 9 = .ok (.if_icmp .ge 7, 3) := by decide +kernel
theorem dX6_isSurface_12 : decode cX6_isSurface 12 = .ok (.iconst 1, 1) := by decide +kernel
theorem dX6_isSurface_13 : decode cX6_isSurface 13 = .ok (.goto 4, 3) := by decide +kernel
theorem dX6_isSurface_16 : decode cX6_isSurface 16 = .ok (.iconst 0, 1) := by decide +kernel
theorem dX6_isSurface_17 : decode cX6_isSurface 17 = .ok (.ireturn, 1) := by decide +kernel
theorem dX6_isSpan_0 : decode cX6_isSpan 0 = .ok (.iload_n 0, 1) := by decide +kernel
theorem dX6_isSpan_1 : decode cX6_isSpan 1 = .ok (.ifCond .lt 13, 3) := by decide +kernel
theorem dX6_isSpan_4 : decode cX6_isSpan 4 = .ok (.iload_n 0, 1) := by decide +kernel
theorem dX6_isSpan_5 : decode cX6_isSpan 5 = .ok (.bipush 64, 2) := by decide +kernel
theorem dX6_isSpan_7 : decode cX6_isSpan 7 = .ok (.if_icmp .gt 7, 3) := by decide +kernel
theorem dX6_isSpan_10 : decode cX6_isSpan 10 = .ok (.iconst 1, 1) := by decide +kernel
theorem dX6_isSpan_11 : decode cX6_isSpan 11 = .ok (.goto 4, 3) := by decide +kernel
theorem dX6_isSpan_14 : decode cX6_isSpan 14 = .ok (.iconst 0, 1) := by decide +kernel
theorem dX6_isSpan_15 : decode cX6_isSpan 15 = .ok (.ireturn, 1) := by decide +kernel
theorem dX6_isPlace_0 : decode cX6_isPlace 0 = .ok (.lload_n 2, 1) := by decide +kernel
theorem dX6_isPlace_1 : decode cX6_isPlace 1 = .ok (.lconst 0, 1) := by decide +kernel
theorem dX6_isPlace_2 : decode cX6_isPlace 2 = .ok (.lcmp, 1) := by decide +kernel
theorem dX6_isPlace_3 : decode cX6_isPlace 3 = .ok (.ifCond .lt 39, 3) := by decide +kernel
theorem dX6_isPlace_6 : decode cX6_isPlace 6 = .ok (.lload_n 2, 1) := by decide +kernel
theorem dX6_isPlace_7 : decode cX6_isPlace 7 = .ok (.aload_n 0, 1) := by decide +kernel
theorem dX6_isPlace_8 : decode cX6_isPlace 8 = .ok (.getfield 13, 3) := by decide +kernel
theorem dX6_isPlace_11 : decode cX6_isPlace 11 = .ok (.iload_n 1, 1) := by decide +kernel
theorem dX6_isPlace_12 : decode cX6_isPlace 12 = .ok (.iaload, 1) := by decide +kernel
theorem dX6_isPlace_13 : decode cX6_isPlace 13 = .ok (.i2l, 1) := by decide +kernel
theorem dX6_isPlace_14 : decode cX6_isPlace 14 = .ok (.lcmp, 1) := by decide +kernel
theorem dX6_isPlace_15 : decode cX6_isPlace 15 = .ok (.ifCond .ge 27, 3) := by decide +kernel
theorem dX6_isPlace_18 : decode cX6_isPlace 18 = .ok (.lload 4, 2) := by decide +kernel
theorem dX6_isPlace_20 : decode cX6_isPlace 20 = .ok (.lconst 0, 1) := by decide +kernel
theorem dX6_isPlace_21 : decode cX6_isPlace 21 = .ok (.lcmp, 1) := by decide +kernel
theorem dX6_isPlace_22 : decode cX6_isPlace 22 = .ok (.ifCond .lt 20, 3) := by decide +kernel
theorem dX6_isPlace_25 : decode cX6_isPlace 25 = .ok (.lload 4, 2) := by decide +kernel
theorem dX6_isPlace_27 : decode cX6_isPlace 27 = .ok (.aload_n 0, 1) := by decide +kernel
theorem dX6_isPlace_28 : decode cX6_isPlace 28 = .ok (.getfield 16, 3) := by decide +kernel
theorem dX6_isPlace_31 : decode cX6_isPlace 31 = .ok (.iload_n 1, 1) := by decide +kernel
theorem dX6_isPlace_32 : decode cX6_isPlace 32 = .ok (.iaload, 1) := by decide +kernel
theorem dX6_isPlace_33 : decode cX6_isPlace 33 = .ok (.i2l, 1) := by decide +kernel
theorem dX6_isPlace_34 : decode cX6_isPlace 34 = .ok (.lcmp, 1) := by decide +kernel
theorem dX6_isPlace_35 : decode cX6_isPlace 35 = .ok (.ifCond .ge 7, 3) := by decide +kernel
theorem dX6_isPlace_38 : decode cX6_isPlace 38 = .ok (.iconst 1, 1) := by decide +kernel
theorem dX6_isPlace_39 : decode cX6_isPlace 39 = .ok (.goto 4, 3) := by decide +kernel
theorem dX6_isPlace_42 : decode cX6_isPlace 42 = .ok (.iconst 0, 1) := by decide +kernel
theorem dX6_isPlace_43 : decode cX6_isPlace 43 = .ok (.ireturn, 1) := by decide +kernel
theorem dX6_isInClip_0 : decode cX6_isInClip 0 = .ok (.iconst 4, 1) := by decide +kernel
theorem dX6_isInClip_1 : decode cX6_isInClip 1 = .ok (.iload_n 1, 1) := by decide +kernel
theorem dX6_isInClip_2 : decode cX6_isInClip 2 = .ok (.imul, 1) := by decide +kernel
theorem dX6_isInClip_3 : decode cX6_isInClip 3 = .ok (.istore 6, 2) := by decide +kernel
theorem dX6_isInClip_5 : decode cX6_isInClip 5 = .ok (.lload_n 2, 1) := by decide +kernel
theorem dX6_isInClip_6 : decode cX6_isInClip 6 = .ok (.aload_n 0, 1) := by decide +kernel
theorem dX6_isInClip_7 : decode cX6_isInClip 7 = .ok (.getfield 19, 3) := by decide +kernel
theorem dX6_isInClip_10 : decode cX6_isInClip 10 = .ok (.iload 6, 2) := by decide +kernel
theorem dX6_isInClip_12 : decode cX6_isInClip 12 = .ok (.iaload, 1) := by decide +kernel
theorem dX6_isInClip_13 : decode cX6_isInClip 13 = .ok (.i2l, 1) := by decide +kernel
theorem dX6_isInClip_14 : decode cX6_isInClip 14 = .ok (.lcmp, 1) := by decide +kernel
theorem dX6_isInClip_15 : decode cX6_isInClip 15 = .ok (.ifCond .lt 72, 3) := by decide +kernel
theorem dX6_isInClip_18 : decode cX6_isInClip 18 = .ok (.lload_n 2, 1) := by decide +kernel
theorem dX6_isInClip_19 : decode cX6_isInClip 19 = .ok (.aload_n 0, 1) := by decide +kernel
theorem dX6_isInClip_20 : decode cX6_isInClip 20 = .ok (.getfield 19, 3) := by decide +kernel
theorem dX6_isInClip_23 : decode cX6_isInClip 23 = .ok (.iload 6, 2) := by decide +kernel
theorem dX6_isInClip_25 : decode cX6_isInClip 25 = .ok (.iaload, 1) := by decide +kernel
theorem dX6_isInClip_26 : decode cX6_isInClip 26 = .ok (.aload_n 0, 1) := by decide +kernel
theorem dX6_isInClip_27 : decode cX6_isInClip 27 = .ok (.getfield 19, 3) := by decide +kernel
theorem dX6_isInClip_30 : decode cX6_isInClip 30 = .ok (.iload 6, 2) := by decide +kernel
theorem dX6_isInClip_32 : decode cX6_isInClip 32 = .ok (.iconst 2, 1) := by decide +kernel
theorem dX6_isInClip_33 : decode cX6_isInClip 33 = .ok (.iadd, 1) := by decide +kernel
theorem dX6_isInClip_34 : decode cX6_isInClip 34 = .ok (.iaload, 1) := by decide +kernel
theorem dX6_isInClip_35 : decode cX6_isInClip 35 = .ok (.iadd, 1) := by decide +kernel
theorem dX6_isInClip_36 : decode cX6_isInClip 36 = .ok (.i2l, 1) := by decide +kernel
theorem dX6_isInClip_37 : decode cX6_isInClip 37 = .ok (.lcmp, 1) := by decide +kernel
theorem dX6_isInClip_38 : decode cX6_isInClip 38 = .ok (.ifCond .ge 49, 3) := by decide +kernel
theorem dX6_isInClip_41 : decode cX6_isInClip 41 = .ok (.lload 4, 2) := by decide +kernel
theorem dX6_isInClip_43 : decode cX6_isInClip 43 = .ok (.aload_n 0, 1) := by decide +kernel
theorem dX6_isInClip_44 : decode cX6_isInClip 44 = .ok (.getfield 19, 3) := by decide +kernel
theorem dX6_isInClip_47 : decode cX6_isInClip 47 = .ok (.iload 6, 2) := by decide +kernel
theorem dX6_isInClip_49 : decode cX6_isInClip 49 = .ok (.iconst 1, 1) := by decide +kernel
theorem dX6_isInClip_50 : decode cX6_isInClip 50 = .ok (.iadd, 1) := by decide +kernel
theorem dX6_isInClip_51 : decode cX6_isInClip 51 = .ok (.iaload, 1) := by decide +kernel
theorem dX6_isInClip_52 : decode cX6_isInClip 52 = .ok (.i2l, 1) := by decide +kernel
theorem dX6_isInClip_53 : decode cX6_isInClip 53 = .ok (.lcmp, 1) := by decide +kernel
theorem dX6_isInClip_54 : decode cX6_isInClip 54 = .ok (.ifCond .lt 33, 3) := by decide +kernel
theorem dX6_isInClip_57 : decode cX6_isInClip 57 = .ok (.lload 4, 2) := by decide +kernel
theorem dX6_isInClip_59 : decode cX6_isInClip 59 = .ok (.aload_n 0, 1) := by decide +kernel
theorem dX6_isInClip_60 : decode cX6_isInClip 60 = .ok (.getfield 19, 3) := by decide +kernel
theorem dX6_isInClip_63 : decode cX6_isInClip 63 = .ok (.iload 6, 2) := by decide +kernel
theorem dX6_isInClip_65 : decode cX6_isInClip 65 = .ok (.iconst 1, 1) := by decide +kernel
theorem dX6_isInClip_66 : decode cX6_isInClip 66 = .ok (.iadd, 1) := by decide +kernel
theorem dX6_isInClip_67 : decode cX6_isInClip 67 = .ok (.iaload, 1) := by decide +kernel
theorem dX6_isInClip_68 : decode cX6_isInClip 68 = .ok (.aload_n 0, 1) := by decide +kernel
theorem dX6_isInClip_69 : decode cX6_isInClip 69 = .ok (.getfield 19, 3) := by decide +kernel
theorem dX6_isInClip_72 : decode cX6_isInClip 72 = .ok (.iload 6, 2) := by decide +kernel
theorem dX6_isInClip_74 : decode cX6_isInClip 74 = .ok (.iconst 3, 1) := by decide +kernel
theorem dX6_isInClip_75 : decode cX6_isInClip 75 = .ok (.iadd, 1) := by decide +kernel
theorem dX6_isInClip_76 : decode cX6_isInClip 76 = .ok (.iaload, 1) := by decide +kernel
theorem dX6_isInClip_77 : decode cX6_isInClip 77 = .ok (.iadd, 1) := by decide +kernel
theorem dX6_isInClip_78 : decode cX6_isInClip 78 = .ok (.i2l, 1) := by decide +kernel
theorem dX6_isInClip_79 : decode cX6_isInClip 79 = .ok (.lcmp, 1) := by decide +kernel
theorem dX6_isInClip_80 : decode cX6_isInClip 80 = .ok (.ifCond .ge 7, 3) := by decide +kernel
theorem dX6_isInClip_83 : decode cX6_isInClip 83 = .ok (.iconst 1, 1) := by decide +kernel
theorem dX6_isInClip_84 : decode cX6_isInClip 84 = .ok (.goto 4, 3) := by decide +kernel
theorem dX6_isInClip_87 : decode cX6_isInClip 87 = .ok (.iconst 0, 1) := by decide +kernel
theorem dX6_isInClip_88 : decode cX6_isInClip 88 = .ok (.ireturn, 1) := by decide +kernel
theorem dX6_fits_0 : decode cX6_fits 0 = .ok (.iload_n 2, 1) := by decide +kernel
theorem dX6_fits_1 : decode cX6_fits 1 = .ok (.ifCond .lt 19, 3) := by decide +kernel
theorem dX6_fits_4 : decode cX6_fits 4 = .ok (.iload_n 2, 1) := by decide +kernel
theorem dX6_fits_5 : decode cX6_fits 5 = .ok (.iconst 1, 1) := by decide +kernel
theorem dX6_fits_6 : decode cX6_fits 6 = .ok (.aload_n 0, 1) := by decide +kernel
theorem dX6_fits_7 : decode cX6_fits 7 = .ok (.getfield 7, 3) := by decide +kernel
theorem dX6_fits_10 : decode cX6_fits 10 = .ok (.iload_n 1, 1) := by decide +kernel
theorem dX6_fits_11 : decode cX6_fits 11 = .ok (.iaload, 1) := by decide +kernel
theorem dX6_fits_12 : decode cX6_fits 12 = .ok (.ishl, 1) := by decide +kernel
theorem dX6_fits_13 : decode cX6_fits 13 = .ok (.if_icmp .ge 7, 3) := by decide +kernel
theorem dX6_fits_16 : decode cX6_fits 16 = .ok (.iconst 1, 1) := by decide +kernel
theorem dX6_fits_17 : decode cX6_fits 17 = .ok (.goto 4, 3) := by decide +kernel
theorem dX6_fits_20 : decode cX6_fits 20 = .ok (.iconst 0, 1) := by decide +kernel
theorem dX6_fits_21 : decode cX6_fits 21 = .ok (.ireturn, 1) := by decide +kernel
set_option maxRecDepth 100000 in
theorem ggX6_dot_X6_isPlace : GoodIn wsX6_dot wsX6_isPlace := goodIn_r _ [6, 7, 8, 9, 10, 11, 12, 13, 14, 15, 16, 17, 18, 19, 20, 21, 22, 23, 24] rfl (by decide +kernel)
set_option maxRecDepth 20000 in
theorem gX6_dot_X6_isPlace : GoodIn wsX6_dot (wsV RX6 55 RX6 yX6_isPlace wsX6_isPlace) := goodIn_app (goodIn_of _ (by decide +kernel)) ggX6_dot_X6_isPlace
theorem dX6_dot_0 : decode cX6_dot 0 = .ok (.aload_n 0, 1) := by decide +kernel
theorem dX6_dot_1 : decode cX6_dot 1 = .ok (.iload_n 1, 1) := by decide +kernel
theorem dX6_dot_2 : decode cX6_dot 2 = .ok (.lload_n 2, 1) := by decide +kernel
theorem dX6_dot_3 : decode cX6_dot 3 = .ok (.lload 4, 2) := by decide +kernel
theorem dX6_dot_5 : decode cX6_dot 5 = .ok (.invokevirtual 55, 3) := by decide +kernel
theorem dX6_dot_8 : decode cX6_dot 8 = .ok (.ifCond .eq 26, 3) := by decide +kernel
theorem dX6_dot_11 : decode cX6_dot 11 = .ok (.aload_n 0, 1) := by decide +kernel
theorem dX6_dot_12 : decode cX6_dot 12 = .ok (.getfield 23, 3) := by decide +kernel
theorem dX6_dot_15 : decode cX6_dot 15 = .ok (.sipush 4096, 3) := by decide +kernel
theorem dX6_dot_18 : decode cX6_dot 18 = .ok (.iload_n 1, 1) := by decide +kernel
theorem dX6_dot_19 : decode cX6_dot 19 = .ok (.imul, 1) := by decide +kernel
theorem dX6_dot_20 : decode cX6_dot 20 = .ok (.bipush 64, 2) := by decide +kernel
theorem dX6_dot_22 : decode cX6_dot 22 = .ok (.lload 4, 2) := by decide +kernel
theorem dX6_dot_24 : decode cX6_dot 24 = .ok (.l2i, 1) := by decide +kernel
theorem dX6_dot_25 : decode cX6_dot 25 = .ok (.imul, 1) := by decide +kernel
theorem dX6_dot_26 : decode cX6_dot 26 = .ok (.iadd, 1) := by decide +kernel
theorem dX6_dot_27 : decode cX6_dot 27 = .ok (.lload_n 2, 1) := by decide +kernel
theorem dX6_dot_28 : decode cX6_dot 28 = .ok (.l2i, 1) := by decide +kernel
theorem dX6_dot_29 : decode cX6_dot 29 = .ok (.iadd, 1) := by decide +kernel
theorem dX6_dot_30 : decode cX6_dot 30 = .ok (.iaload, 1) := by decide +kernel
theorem dX6_dot_31 : decode cX6_dot 31 = .ok (.goto 4, 3) := by decide +kernel
theorem dX6_dot_34 : decode cX6_dot 34 = .ok (.iconst 0, 1) := by decide +kernel
theorem dX6_dot_35 : decode cX6_dot 35 = .ok (.ireturn, 1) := by decide +kernel
theorem dX6_make_0 : decode cX6_make 0 = .ok (.iload_n 1, 1) := by decide +kernel
theorem dX6_make_1 : decode cX6_make 1 = .ok (.iconst 1, 1) := by decide +kernel
theorem dX6_make_2 : decode cX6_make 2 = .ok (.if_icmp .eq 14, 3) := by decide +kernel
theorem dX6_make_5 : decode cX6_make 5 = .ok (.iload_n 1, 1) := by decide +kernel
theorem dX6_make_6 : decode cX6_make 6 = .ok (.iconst 4, 1) := by decide +kernel
theorem dX6_make_7 : decode cX6_make 7 = .ok (.if_icmp .eq 9, 3) := by decide +kernel
theorem dX6_make_10 : decode cX6_make 10 = .ok (.iload_n 1, 1) := by decide +kernel
theorem dX6_make_11 : decode cX6_make 11 = .ok (.bipush 8, 2) := by decide +kernel
theorem dX6_make_13 : decode cX6_make 13 = .ok (.if_icmp .ne 7, 3) := by decide +kernel
theorem dX6_make_16 : decode cX6_make 16 = .ok (.iconst 1, 1) := by decide +kernel
theorem dX6_make_17 : decode cX6_make 17 = .ok (.goto 4, 3) := by decide +kernel
theorem dX6_make_20 : decode cX6_make 20 = .ok (.iconst 0, 1) := by decide +kernel
theorem dX6_make_21 : decode cX6_make 21 = .ok (.istore 4, 2) := by decide +kernel
theorem dX6_make_23 : decode cX6_make 23 = .ok (.iload 4, 2) := by decide +kernel
theorem dX6_make_25 : decode cX6_make 25 = .ok (.ifCond .eq 34, 3) := by decide +kernel
theorem dX6_make_28 : decode cX6_make 28 = .ok (.iload_n 2, 1) := by decide +kernel
theorem dX6_make_29 : decode cX6_make 29 = .ok (.iconst 1, 1) := by decide +kernel
theorem dX6_make_30 : decode cX6_make 30 = .ok (.if_icmp .lt 29, 3) := by decide +kernel
theorem dX6_make_33 : decode cX6_make 33 = .ok (.iload_n 2, 1) := by decide +kernel
theorem dX6_make_34 : decode cX6_make 34 = .ok (.bipush 64, 2) := by decide +kernel
theorem dX6_make_36 : decode cX6_make 36 = .ok (.if_icmp .gt 23, 3) := by decide +kernel
theorem dX6_make_39 : decode cX6_make 39 = .ok (.iload_n 3, 1) := by decide +kernel
theorem dX6_make_40 : decode cX6_make 40 = .ok (.iconst 1, 1) := by decide +kernel
theorem dX6_make_41 : decode cX6_make 41 = .ok (.if_icmp .lt 18, 3) := by decide +kernel
theorem dX6_make_44 : decode cX6_make 44 = .ok (.iload_n 3, 1) := by decide +kernel
theorem dX6_make_45 : decode cX6_make 45 = .ok (.bipush 64, 2) := by decide +kernel
theorem dX6_make_47 : decode cX6_make 47 = .ok (.if_icmp .gt 12, 3) := by decide +kernel
theorem dX6_make_50 : decode cX6_make 50 = .ok (.aload_n 0, 1) := by decide +kernel
theorem dX6_make_51 : decode cX6_make 51 = .ok (.getfield 51, 3) := by decide +kernel
theorem dX6_make_54 : decode cX6_make 54 = .ok (.bipush 8, 2) := by decide +kernel
theorem dX6_make_56 : decode cX6_make 56 = .ok (.if_icmp .ne 5, 3) := by decide +kernel
theorem dX6_make_59 : decode cX6_make 59 = .ok (.iconst (-1), 1) := by decide +kernel
theorem dX6_make_60 : decode cX6_make 60 = .ok (.ireturn, 1) := by decide +kernel
theorem dX6_make_61 : decode cX6_make 61 = .ok (.aload_n 0, 1) := by decide +kernel
theorem dX6_make_62 : decode cX6_make 62 = .ok (.getfield 7, 3) := by decide +kernel
theorem dX6_make_65 : decode cX6_make 65 = .ok (.aload_n 0, 1) := by decide +kernel
theorem dX6_make_66 : decode cX6_make 66 = .ok (.getfield 51, 3) := by decide +kernel
theorem dX6_make_69 : decode cX6_make 69 = .ok (.iload_n 1, 1) := by decide +kernel
theorem dX6_make_70 : decode cX6_make 70 = .ok (.iastore, 1) := by decide +kernel
theorem dX6_make_71 : decode cX6_make 71 = .ok (.aload_n 0, 1) := by decide +kernel
theorem dX6_make_72 : decode cX6_make 72 = .ok (.getfield 13, 3) := by decide +kernel
theorem dX6_make_75 : decode cX6_make 75 = .ok (.aload_n 0, 1) := by decide +kernel
theorem dX6_make_76 : decode cX6_make 76 = .ok (.getfield 51, 3) := by decide +kernel
theorem dX6_make_79 : decode cX6_make 79 = .ok (.iload_n 2, 1) := by decide +kernel
theorem dX6_make_80 : decode cX6_make 80 = .ok (.iastore, 1) := by decide +kernel
theorem dX6_make_81 : decode cX6_make 81 = .ok (.aload_n 0, 1) := by decide +kernel
theorem dX6_make_82 : decode cX6_make 82 = .ok (.getfield 16, 3) := by decide +kernel
theorem dX6_make_85 : decode cX6_make 85 = .ok (.aload_n 0, 1) := by decide +kernel
theorem dX6_make_86 : decode cX6_make 86 = .ok (.getfield 51, 3) := by decide +kernel
theorem dX6_make_89 : decode cX6_make 89 = .ok (.iload_n 3, 1) := by decide +kernel
theorem dX6_make_90 : decode cX6_make 90 = .ok (.iastore, 1) := by decide +kernel
theorem dX6_make_91 : decode cX6_make 91 = .ok (.aload_n 0, 1) := by decide +kernel
theorem dX6_make_92 : decode cX6_make 92 = .ok (.getfield 19, 3) := by decide +kernel
theorem dX6_make_95 : decode cX6_make 95 = .ok (.iconst 4, 1) := by decide +kernel
theorem dX6_make_96 : decode cX6_make 96 = .ok (.aload_n 0, 1) := by decide +kernel
theorem dX6_make_97 : decode cX6_make 97 = .ok (.getfield 51, 3) := by decide +kernel
theorem dX6_make_100 : decode cX6_make 100 = .ok (.imul, 1) := by decide +kernel
theorem dX6_make_101 : decode cX6_make 101 = .ok (.iconst 0, 1) := by decide +kernel
theorem dX6_make_102 : decode cX6_make 102 = .ok (.iastore, 1) := by decide +kernel
theorem dX6_make_103 : decode cX6_make 103 = .ok (.aload_n 0, 1) := by decide +kernel
theorem dX6_make_104 : decode cX6_make 104 = .ok (.getfield 19, 3) := by decide +kernel
theorem dX6_make_107 : decode cX6_make 107 = .ok (.iconst 4, 1) := by decide +kernel
theorem dX6_make_108 : decode cX6_make 108 = .ok (.aload_n 0, 1) := by decide +kernel
theorem dX6_make_109 : decode cX6_make 109 = .ok (.getfield 51, 3) := by decide +kernel
theorem dX6_make_112 : decode cX6_make 112 = .ok (.imul, 1) := by decide +kernel
theorem dX6_make_113 : decode cX6_make 113 = .ok (.iconst 1, 1) := by decide +kernel
theorem dX6_make_114 : decode cX6_make 114 = .ok (.iadd, 1) := by decide +kernel
theorem dX6_make_115 : decode cX6_make 115 = .ok (.iconst 0, 1) := by decide +kernel
theorem dX6_make_116 : decode cX6_make 116 = .ok (.iastore, 1) := by decide +kernel
theorem dX6_make_117 : decode cX6_make 117 = .ok (.aload_n 0, 1) := by decide +kernel
theorem dX6_make_118 : decode cX6_make 118 = .ok (.getfield 19, 3) := by decide +kernel
theorem dX6_make_121 : decode cX6_make 121 = .ok (.iconst 4, 1) := by decide +kernel
theorem dX6_make_122 : decode cX6_make 122 = .ok (.aload_n 0, 1) := by decide +kernel
theorem dX6_make_123 : decode cX6_make 123 = .ok (.getfield 51, 3) := by decide +kernel
theorem dX6_make_126 : decode cX6_make 126 = .ok (.imul, 1) := by decide +kernel
theorem dX6_make_127 : decode cX6_make 127 = .ok (.iconst 2, 1) := by decide +kernel
theorem dX6_make_128 : decode cX6_make 128 = .ok (.iadd, 1) := by decide +kernel
theorem dX6_make_129 : decode cX6_make 129 = .ok (.iload_n 2, 1) := by decide +kernel
theorem dX6_make_130 : decode cX6_make 130 = .ok (.iastore, 1) := by decide +kernel
theorem dX6_make_131 : decode cX6_make 131 = .ok (.aload_n 0, 1) := by decide +kernel
theorem dX6_make_132 : decode cX6_make 132 = .ok (.getfield 19, 3) := by decide +kernel
theorem dX6_make_135 : decode cX6_make 135 = .ok (.iconst 4, 1) := by decide +kernel
theorem dX6_make_136 : decode cX6_make 136 = .ok (.aload_n 0, 1) := by decide +kernel
theorem dX6_make_137 : decode cX6_make 137 = .ok (.getfield 51, 3) := by decide +kernel
theorem dX6_make_140 : decode cX6_make 140 = .ok (.imul, 1) := by decide +kernel
theorem dX6_make_141 : decode cX6_make 141 = .ok (.iconst 3, 1) := by decide +kernel
theorem dX6_make_142 : decode cX6_make 142 = .ok (.iadd, 1) := by decide +kernel
theorem dX6_make_143 : decode cX6_make 143 = .ok (.iload_n 3, 1) := by decide +kernel
theorem dX6_make_144 : decode cX6_make 144 = .ok (.iastore, 1) := by decide +kernel
theorem dX6_make_145 : decode cX6_make 145 = .ok (.aload_n 0, 1) := by decide +kernel
theorem dX6_make_146 : decode cX6_make 146 = .ok (.dup, 1) := by decide +kernel
theorem dX6_make_147 : decode cX6_make 147 = .ok (.getfield 51, 3) := by decide +kernel
theorem dX6_make_150 : decode cX6_make 150 = .ok (.iconst 1, 1) := by decide +kernel
theorem dX6_make_151 : decode cX6_make 151 = .ok (.iadd, 1) := by decide +kernel
theorem dX6_make_152 : decode cX6_make 152 = .ok (.putfield 51, 3) := by decide +kernel
theorem dX6_make_155 : decode cX6_make 155 = .ok (.aload_n 0, 1) := by decide +kernel
theorem dX6_make_156 : decode cX6_make 156 = .ok (.getfield 51, 3) := by decide +kernel
theorem dX6_make_159 : decode cX6_make 159 = .ok (.iconst 1, 1) := by decide +kernel
theorem dX6_make_160 : decode cX6_make 160 = .ok (.isub, 1) := by decide +kernel
theorem dX6_make_161 : decode cX6_make 161 = .ok (.ireturn, 1) := by decide +kernel
theorem dX6_lesser_0 : decode cX6_lesser 0 = .ok (.lload_n 0, 1) := by decide +kernel
theorem dX6_lesser_1 : decode cX6_lesser 1 = .ok (.lload_n 2, 1) := by decide +kernel
theorem dX6_lesser_2 : decode cX6_lesser 2 = .ok (.lcmp, 1) := by decide +kernel
theorem dX6_lesser_3 : decode cX6_lesser 3 = .ok (.ifCond .ge 7, 3) := by decide +kernel
theorem dX6_lesser_6 : decode cX6_lesser 6 = .ok (.lload_n 0, 1) := by decide +kernel
theorem dX6_lesser_7 : decode cX6_lesser 7 = .ok (.goto 4, 3) := by decide +kernel
theorem dX6_lesser_10 : decode cX6_lesser 10 = .ok (.lload_n 2, 1) := by decide +kernel
theorem dX6_lesser_11 : decode cX6_lesser 11 = .ok (.lreturn, 1) := by decide +kernel
set_option maxRecDepth 100000 in
theorem ggX6_clip_X6_isSurface : GoodIn wsX6_clip wsX6_isSurface := goodIn_r _ [8, 9, 16, 17, 18, 19, 20, 21, 22, 23, 24, 25, 26, 27, 28, 29, 30, 31] rfl (by decide +kernel)
set_option maxRecDepth 20000 in
theorem gX6_clip_X6_isSurface : GoodIn wsX6_clip (wsV RX6 59 RX6 yX6_isSurface wsX6_isSurface) := goodIn_app (goodIn_of _ (by decide +kernel)) ggX6_clip_X6_isSurface
set_option maxRecDepth 100000 in
theorem ggX6_clip_X6_isSpan : GoodIn wsX6_clip wsX6_isSpan := goodIn_r _ [12] rfl (by decide +kernel)
set_option maxRecDepth 20000 in
theorem gX6_clip_X6_isSpan : GoodIn wsX6_clip (va_wsS RX6 63 yX6_isSpan wsX6_isSpan) := goodIn_app (goodIn_of _ (by decide +kernel)) ggX6_clip_X6_isSpan
set_option maxRecDepth 100000 in
theorem ggX6_clip_X6_lesser : GoodIn wsX6_clip wsX6_lesser := goodIn_r _ [15] rfl (by decide +kernel)
set_option maxRecDepth 20000 in
theorem gX6_clip_X6_lesser : GoodIn wsX6_clip (va_wsS RX6 66 yX6_lesser wsX6_lesser) := goodIn_app (goodIn_of _ (by decide +kernel)) ggX6_clip_X6_lesser
theorem dX6_clip_0 : decode cX6_clip 0 = .ok (.aload_n 0, 1) := by decide +kernel
theorem dX6_clip_1 : decode cX6_clip 1 = .ok (.iload_n 1, 1) := by decide +kernel
theorem dX6_clip_2 : decode cX6_clip 2 = .ok (.invokevirtual 59, 3) := by decide +kernel
theorem dX6_clip_5 : decode cX6_clip 5 = .ok (.ifCond .eq 19, 3) := by decide +kernel
theorem dX6_clip_8 : decode cX6_clip 8 = .ok (.iload 4, 2) := by decide +kernel
theorem dX6_clip_10 : decode cX6_clip 10 = .ok (.invokestatic 63, 3) := by decide +kernel
theorem dX6_clip_13 : decode cX6_clip 13 = .ok (.ifCond .eq 11, 3) := by decide +kernel
theorem dX6_clip_16 : decode cX6_clip 16 = .ok (.iload 5, 2) := by decide +kernel
theorem dX6_clip_18 : decode cX6_clip 18 = .ok (.invokestatic 63, 3) := by decide +kernel
theorem dX6_clip_21 : decode cX6_clip 21 = .ok (.ifCond .ne 5, 3) := by decide +kernel
theorem dX6_clip_24 : decode cX6_clip 24 = .ok (.iconst (-1), 1) := by decide +kernel
theorem dX6_clip_25 : decode cX6_clip 25 = .ok (.ireturn, 1) := by decide +kernel
theorem dX6_clip_26 : decode cX6_clip 26 = .ok (.iload_n 2, 1) := by decide +kernel
theorem dX6_clip_27 : decode cX6_clip 27 = .ok (.ifCond .ge 7, 3) := by decide +kernel
theorem dX6_clip_30 : decode cX6_clip 30 = .ok (.lconst 0, 1) := by decide +kernel
theorem dX6_clip_31 : decode cX6_clip 31 = .ok (.goto 5, 3) := by decide +kernel
theorem dX6_clip_34 : decode cX6_clip 34 = .ok (.iload_n 2, 1) := by decide +kernel
theorem dX6_clip_35 : decode cX6_clip 35 = .ok (.i2l, 1) := by decide +kernel
theorem dX6_clip_36 : decode cX6_clip 36 = .ok (.lstore 6, 2) := by decide +kernel
theorem dX6_clip_38 : decode cX6_clip 38 = .ok (.iload_n 3, 1) := by decide +kernel
theorem dX6_clip_39 : decode cX6_clip 39 = .ok (.ifCond .ge 7, 3) := by decide +kernel
theorem dX6_clip_42 : decode cX6_clip 42 = .ok (.lconst 0, 1) := by decide +kernel
theorem dX6_clip_43 : decode cX6_clip 43 = .ok (.goto 5, 3) := by decide +kernel
theorem dX6_clip_46 : decode cX6_clip 46 = .ok (.iload_n 3, 1) := by decide +kernel
theorem dX6_clip_47 : decode cX6_clip 47 = .ok (.i2l, 1) := by decide +kernel
theorem dX6_clip_48 : decode cX6_clip 48 = .ok (.lstore 8, 2) := by decide +kernel
theorem dX6_clip_50 : decode cX6_clip 50 = .ok (.iload_n 2, 1) := by decide +kernel
theorem dX6_clip_51 : decode cX6_clip 51 = .ok (.i2l, 1) := by decide +kernel
theorem dX6_clip_52 : decode cX6_clip 52 = .ok (.iload 4, 2) := by decide +kernel
theorem dX6_clip_54 : decode cX6_clip 54 = .ok (.i2l, 1) := by decide +kernel
theorem dX6_clip_55 : decode cX6_clip 55 = .ok (.ladd, 1) := by decide +kernel
theorem dX6_clip_56 : decode cX6_clip 56 = .ok (.aload_n 0, 1) := by decide +kernel
theorem dX6_clip_57 : decode cX6_clip 57 = .ok (.getfield 13, 3) := by decide +kernel
theorem dX6_clip_60 : decode cX6_clip 60 = .ok (.iload_n 1, 1) := by decide +kernel
theorem dX6_clip_61 : decode cX6_clip 61 = .ok (.iaload, 1) := by decide +kernel
theorem dX6_clip_62 : decode cX6_clip 62 = .ok (.i2l, 1) := by decide +kernel
theorem dX6_clip_63 : decode cX6_clip 63 = .ok (.invokestatic 66, 3) := by decide +kernel
theorem dX6_clip_66 : decode cX6_clip 66 = .ok (.lload 6, 2) := by decide +kernel
theorem dX6_clip_68 : decode cX6_clip 68 = .ok (.lsub, 1) := by decide +kernel
theorem dX6_clip_69 : decode cX6_clip 69 = .ok (.lstore 10, 2) := by decide +kernel
theorem dX6_clip_71 : decode cX6_clip 71 = .ok (.iload_n 3, 1) := by decide +kernel
theorem dX6_clip_72 : decode cX6_clip 72 = .ok (.i2l, 1) := by decide +kernel
theorem dX6_clip_73 : decode cX6_clip 73 = .ok (.iload 5, 2) := by decide +kernel
theorem dX6_clip_75 : decode cX6_clip 75 = .ok (.i2l, 1) := by decide +kernel
theorem dX6_clip_76 : decode cX6_clip 76 = .ok (.ladd, 1) := by decide +kernel
theorem dX6_clip_77 : decode cX6_clip 77 = .ok (.aload_n 0, 1) := by decide +kernel
theorem dX6_clip_78 : decode cX6_clip 78 = .ok (.getfield 16, 3) := by decide +kernel
theorem dX6_clip_81 : decode cX6_clip 81 = .ok (.iload_n 1, 1) := by decide +kernel
theorem dX6_clip_82 : decode cX6_clip 82 = .ok (.iaload, 1) := by decide +kernel
theorem dX6_clip_83 : decode cX6_clip 83 = .ok (.i2l, 1) := by decide +kernel
theorem dX6_clip_84 : decode cX6_clip 84 = .ok (.invokestatic 66, 3) := by decide +kernel
theorem dX6_clip_87 : decode cX6_clip 87 = .ok (.lload 8, 2) := by decide +kernel
theorem dX6_clip_89 : decode cX6_clip 89 = .ok (.lsub, 1) := by decide +kernel
theorem dX6_clip_90 : decode cX6_clip 90 = .ok (.lstore 12, 2) := by decide +kernel
theorem dX6_clip_92 : decode cX6_clip 92 = .ok (.lload 10, 2) := by decide +kernel
theorem dX6_clip_94 : decode cX6_clip 94 = .ok (.lconst 0, 1) := by decide +kernel
theorem dX6_clip_95 : decode cX6_clip 95 = .ok (.lcmp, 1) := by decide +kernel
theorem dX6_clip_96 : decode cX6_clip 96 = .ok (.ifCond .le 14, 3) := by decide +kernel
theorem dX6_clip_99 : decode cX6_clip 99 = .ok (.lload 12, 2) := by decide +kernel
theorem dX6_clip_101 : decode cX6_clip 101 = .ok (.lconst 0, 1) := by decide +kernel
theorem dX6_clip_102 : decode cX6_clip 102 = .ok (.lcmp, 1) := by decide +kernel
theorem dX6_clip_103 : decode cX6_clip 103 = .ok (.ifCond .le 7, 3) := by decide +kernel
theorem dX6_clip_106 : decode cX6_clip 106 = .ok (.iconst 1, 1) := by decide +kernel
theorem dX6_clip_107 : decode cX6_clip 107 = .ok (.goto 4, 3) := by decide +kernel
theorem dX6_clip_110 : decode cX6_clip 110 = .ok (.iconst 0, 1) := by decide +kernel
theorem dX6_clip_111 : decode cX6_clip 111 = .ok (.istore 14, 2) := by decide +kernel
theorem dX6_clip_113 : decode cX6_clip 113 = .ok (.aload_n 0, 1) := by decide +kernel
theorem dX6_clip_114 : decode cX6_clip 114 = .ok (.getfield 19, 3) := by decide +kernel
theorem dX6_clip_117 : decode cX6_clip 117 = .ok (.iconst 4, 1) := by decide +kernel
theorem dX6_clip_118 : decode cX6_clip 118 = .ok (.iload_n 1, 1) := by decide +kernel
theorem dX6_clip_119 : decode cX6_clip 119 = .ok (.imul, 1) := by decide +kernel
theorem dX6_clip_120 : decode cX6_clip 120 = .ok (.iload 14, 2) := by decide +kernel
theorem dX6_clip_122 : decode cX6_clip 122 = .ok (.ifCond .eq 9, 3) := by decide +kernel
theorem dX6_clip_125 : decode cX6_clip 125 = .ok (.lload 6, 2) := by decide +kernel
theorem dX6_clip_127 : decode cX6_clip 127 = .ok (.l2i, 1) := by decide +kernel
theorem dX6_clip_128 : decode cX6_clip 128 = .ok (.goto 4, 3) := by decide +kernel
theorem dX6_clip_131 : decode cX6_clip 131 = .ok (.iconst 0, 1) := by decide +kernel
theorem dX6_clip_132 : decode cX6_clip 132 = .ok (.iastore, 1) := by decide +kernel
theorem dX6_clip_133 : decode cX6_clip 133 = .ok (.aload_n 0, 1) := by decide +kernel
theorem dX6_clip_134 : decode cX6_clip 134 = .ok (.getfield 19, 3) := by decide +kernel
theorem dX6_clip_137 : decode cX6_clip 137 = .ok (.iconst 4, 1) := by decide +kernel
theorem dX6_clip_138 : decode cX6_clip 138 = .ok (.iload_n 1, 1) := by decide +kernel
theorem dX6_clip_139 : decode cX6_clip 139 = .ok (.imul, 1) := by decide +kernel
theorem dX6_clip_140 : decode cX6_clip 140 = .ok (.iconst 1, 1) := by decide +kernel
theorem dX6_clip_141 : decode cX6_clip 141 = .ok (.iadd, 1) := by decide +kernel
theorem dX6_clip_142 : decode cX6_clip 142 = .ok (.iload 14, 2) := by decide +kernel
theorem dX6_clip_144 : decode cX6_clip 144 = .ok (.ifCond .eq 9, 3) := by decide +kernel
theorem dX6_clip_147 : decode cX6_clip 147 = .ok (.lload 8, 2) := by decide +kernel
theorem dX6_clip_149 : decode cX6_clip 149 = .ok (.l2i, 1) := by decide +kernel
theorem dX6_clip_150 : decode cX6_clip 150 = .ok (.goto 4, 3) := by decide +kernel
theorem dX6_clip_153 : decode cX6_clip 153 = .ok (.iconst 0, 1) := by decide +kernel
theorem dX6_clip_154 : decode cX6_clip 154 = .ok (.iastore, 1) := by decide +kernel
theorem dX6_clip_155 : decode cX6_clip 155 = .ok (.aload_n 0, 1) := by decide +kernel
theorem dX6_clip_156 : decode cX6_clip 156 = .ok (.getfield 19, 3) := by decide +kernel
theorem dX6_clip_159 : decode cX6_clip 159 = .ok (.iconst 4, 1) := by decide +kernel
theorem dX6_clip_160 : decode cX6_clip 160 = .ok (.iload_n 1, 1) := by decide +kernel
theorem dX6_clip_161 : decode cX6_clip 161 = .ok (.imul, 1) := by decide +kernel
theorem dX6_clip_162 : decode cX6_clip 162 = .ok (.iconst 2, 1) := by decide +kernel
theorem dX6_clip_163 : decode cX6_clip 163 = .ok (.iadd, 1) := by decide +kernel
theorem dX6_clip_164 : decode cX6_clip 164 = .ok (.iload 14, 2) := by decide +kernel
theorem dX6_clip_166 : decode cX6_clip 166 = .ok (.ifCond .eq 9, 3) := by decide +kernel
theorem dX6_clip_169 : decode cX6_clip 169 = .ok (.lload 10, 2) := by decide +kernel
theorem dX6_clip_171 : decode cX6_clip 171 = .ok (.l2i, 1) := by decide +kernel
theorem dX6_clip_172 : decode cX6_clip 172 = .ok (.goto 4, 3) := by decide +kernel
theorem dX6_clip_175 : decode cX6_clip 175 = .ok (.iconst 0, 1) := by decide +kernel
theorem dX6_clip_176 : decode cX6_clip 176 = .ok (.iastore, 1) := by decide +kernel
theorem dX6_clip_177 : decode cX6_clip 177 = .ok (.aload_n 0, 1) := by decide +kernel
theorem dX6_clip_178 : decode cX6_clip 178 = .ok (.getfield 19, 3) := by decide +kernel
theorem dX6_clip_181 : decode cX6_clip 181 = .ok (.iconst 4, 1) := by decide +kernel
theorem dX6_clip_182 : decode cX6_clip 182 = .ok (.iload_n 1, 1) := by decide +kernel
theorem dX6_clip_183 : decode cX6_clip 183 = .ok (.imul, 1) := by decide +kernel
theorem dX6_clip_184 : decode cX6_clip 184 = .ok (.iconst 3, 1) := by decide +kernel
theorem dX6_clip_185 : decode cX6_clip 185 = .ok (.iadd, 1) := by decide +kernel
theorem dX6_clip_186 : decode cX6_clip 186 = .ok (.iload 14, 2) := by decide +kernel
theorem dX6_clip_188 : decode cX6_clip 188 = .ok (.ifCond .eq 9, 3) := by decide +kernel
theorem dX6_clip_191 : decode cX6_clip 191 = .ok (.lload 12, 2) := by decide +kernel
theorem dX6_clip_193 : decode cX6_clip 193 = .ok (.l2i, 1) := by decide +kernel
theorem dX6_clip_194 : decode cX6_clip 194 = .ok (.goto 4, 3) := by decide +kernel
theorem dX6_clip_197 : decode cX6_clip 197 = .ok (.iconst 0, 1) := by decide +kernel
theorem dX6_clip_198 : decode cX6_clip 198 = .ok (.iastore, 1) := by decide +kernel
theorem dX6_clip_199 : decode cX6_clip 199 = .ok (.aload_n 0, 1) := by decide +kernel
theorem dX6_clip_200 : decode cX6_clip 200 = .ok (.getfield 19, 3) := by decide +kernel
theorem dX6_clip_203 : decode cX6_clip 203 = .ok (.iconst 4, 1) := by decide +kernel
theorem dX6_clip_204 : decode cX6_clip 204 = .ok (.iload_n 1, 1) := by decide +kernel
theorem dX6_clip_205 : decode cX6_clip 205 = .ok (.imul, 1) := by decide +kernel
theorem dX6_clip_206 : decode cX6_clip 206 = .ok (.iconst 2, 1) := by decide +kernel
theorem dX6_clip_207 : decode cX6_clip 207 = .ok (.iadd, 1) := by decide +kernel
theorem dX6_clip_208 : decode cX6_clip 208 = .ok (.iaload, 1) := by decide +kernel
theorem dX6_clip_209 : decode cX6_clip 209 = .ok (.aload_n 0, 1) := by decide +kernel
theorem dX6_clip_210 : decode cX6_clip 210 = .ok (.getfield 19, 3) := by decide +kernel
theorem dX6_clip_213 : decode cX6_clip 213 = .ok (.iconst 4, 1) := by decide +kernel
theorem dX6_clip_214 : decode cX6_clip 214 = .ok (.iload_n 1, 1) := by decide +kernel
theorem dX6_clip_215 : decode cX6_clip 215 = .ok (.imul, 1) := by decide +kernel
theorem dX6_clip_216 : decode cX6_clip 216 = .ok (.iconst 3, 1) := by decide +kernel
theorem dX6_clip_217 : decode cX6_clip 217 = .ok (.iadd, 1) := by decide +kernel
theorem dX6_clip_218 : decode cX6_clip 218 = .ok (.iaload, 1) := by decide +kernel
theorem dX6_clip_219 : decode cX6_clip 219 = .ok (.imul, 1) := by decide +kernel
theorem dX6_clip_220 : decode cX6_clip 220 = .ok (.ireturn, 1) := by decide +kernel
set_option maxRecDepth 100000 in
theorem ggX6_set_X6_isSurface : GoodIn wsX6_set wsX6_isSurface := goodIn_r _ [6, 7, 19, 20, 21, 22, 23, 24, 25, 26, 27, 28, 29, 30, 31, 32, 33, 34] rfl (by decide +kernel)
set_option maxRecDepth 20000 in
theorem gX6_set_X6_isSurface : GoodIn wsX6_set (wsV RX6 59 RX6 yX6_isSurface wsX6_isSurface) := goodIn_app (goodIn_of _ (by decide +kernel)) ggX6_set_X6_isSurface
set_option maxRecDepth 100000 in
theorem ggX6_set_X6_isPlace : GoodIn wsX6_set wsX6_isPlace := goodIn_r _ [11, 12, 13, 19, 20, 21, 22, 23, 24, 25, 26, 27, 28, 29, 30, 31, 32, 33, 34] rfl (by decide +kernel)
set_option maxRecDepth 20000 in
theorem gX6_set_X6_isPlace : GoodIn wsX6_set (wsV RX6 55 RX6 yX6_isPlace wsX6_isPlace) := goodIn_app (goodIn_of _ (by decide +kernel)) ggX6_set_X6_isPlace
set_option maxRecDepth 100000 in
theorem ggX6_set_X6_fits : GoodIn wsX6_set wsX6_fits := goodIn_r _ [17, 18, 19, 20, 21, 22, 23, 24, 25, 26, 27, 28, 29, 30, 31, 32, 33, 34] rfl (by decide +kernel)
set_option maxRecDepth 20000 in
theorem gX6_set_X6_fits : GoodIn wsX6_set (wsV RX6 70 RX6 yX6_fits wsX6_fits) := goodIn_app (goodIn_of _ (by decide +kernel)) ggX6_set_X6_fits
theorem dX6_set_0 : decode cX6_set 0 = .ok (.aload_n 0, 1) := by decide +kernel
theorem dX6_set_1 : decode cX6_set 1 = .ok (.iload_n 1, 1) := by decide +kernel
theorem dX6_set_2 : decode cX6_set 2 = .ok (.invokevirtual 59, 3) := by decide +kernel
theorem dX6_set_5 : decode cX6_set 5 = .ok (.ifCond .eq 25, 3) := by decide +kernel
theorem dX6_set_8 : decode cX6_set 8 = .ok (.aload_n 0, 1) := by decide +kernel
theorem dX6_set_9 : decode cX6_set 9 = .ok (.iload_n 1, 1) := by decide +kernel
theorem dX6_set_10 : decode cX6_set 10 = .ok (.iload_n 2, 1) := by decide +kernel
theorem dX6_set_11 : decode cX6_set 11 = .ok (.i2l, 1) := by decide +kernel
theorem dX6_set_12 : decode cX6_set 12 = .ok (.iload_n 3, 1) := by decide +kernel
theorem dX6_set_13 : decode cX6_set 13 = .ok (.i2l, 1) := by decide +kernel
theorem dX6_set_14 : decode cX6_set 14 = .ok (.invokevirtual 55, 3) := by decide +kernel
theorem dX6_set_17 : decode cX6_set 17 = .ok (.ifCond .eq 13, 3) := by decide +kernel
theorem dX6_set_20 : decode cX6_set 20 = .ok (.aload_n 0, 1) := by decide +kernel
theorem dX6_set_21 : decode cX6_set 21 = .ok (.iload_n 1, 1) := by decide +kernel
theorem dX6_set_22 : decode cX6_set 22 = .ok (.iload 4, 2) := by decide +kernel
theorem dX6_set_24 : decode cX6_set 24 = .ok (.invokevirtual 70, 3) := by decide +kernel
theorem dX6_set_27 : decode cX6_set 27 = .ok (.ifCond .ne 5, 3) := by decide +kernel
theorem dX6_set_30 : decode cX6_set 30 = .ok (.iconst 0, 1) := by decide +kernel
theorem dX6_set_31 : decode cX6_set 31 = .ok (.ireturn, 1) := by decide +kernel
theorem dX6_set_32 : decode cX6_set 32 = .ok (.aload_n 0, 1) := by decide +kernel
theorem dX6_set_33 : decode cX6_set 33 = .ok (.getfield 23, 3) := by decide +kernel
theorem dX6_set_36 : decode cX6_set 36 = .ok (.sipush 4096, 3) := by decide +kernel
theorem dX6_set_39 : decode cX6_set 39 = .ok (.iload_n 1, 1) := by decide +kernel
theorem dX6_set_40 : decode cX6_set 40 = .ok (.imul, 1) := by decide +kernel
theorem dX6_set_41 : decode cX6_set 41 = .ok (.bipush 64, 2) := by decide +kernel
theorem dX6_set_43 : decode cX6_set 43 = .ok (.iload_n 3, 1) := by decide +kernel
theorem dX6_set_44 : decode cX6_set 44 = .ok (.imul, 1) := by decide +kernel
theorem dX6_set_45 : decode cX6_set 45 = .ok (.iadd, 1) := by decide +kernel
theorem dX6_set_46 : decode cX6_set 46 = .ok (.iload_n 2, 1) := by decide +kernel
theorem dX6_set_47 : decode cX6_set 47 = .ok (.iadd, 1) := by decide +kernel
theorem dX6_set_48 : decode cX6_set 48 = .ok (.iload 4, 2) := by decide +kernel
theorem dX6_set_50 : decode cX6_set 50 = .ok (.iastore, 1) := by decide +kernel
theorem dX6_set_51 : decode cX6_set 51 = .ok (.iconst 1, 1) := by decide +kernel
theorem dX6_set_52 : decode cX6_set 52 = .ok (.ireturn, 1) := by decide +kernel
set_option maxRecDepth 100000 in
theorem ggX6_get_X6_isSurface : GoodIn wsX6_get wsX6_isSurface := goodIn_r _ [5, 6, 18, 19, 20, 21, 22, 23, 24, 25, 26, 27, 28, 29, 30, 31, 32, 33] rfl (by decide +kernel)
set_option maxRecDepth 20000 in
theorem gX6_get_X6_isSurface : GoodIn wsX6_get (wsV RX6 59 RX6 yX6_isSurface wsX6_isSurface) := goodIn_app (goodIn_of _ (by decide +kernel)) ggX6_get_X6_isSurface
set_option maxRecDepth 100000 in
theorem ggX6_get_X6_isPlace : GoodIn wsX6_get wsX6_isPlace := goodIn_r _ [10, 11, 12, 18, 19, 20, 21, 22, 23, 24, 25, 26, 27, 28, 29, 30, 31, 32, 33] rfl (by decide +kernel)
set_option maxRecDepth 20000 in
theorem gX6_get_X6_isPlace : GoodIn wsX6_get (wsV RX6 55 RX6 yX6_isPlace wsX6_isPlace) := goodIn_app (goodIn_of _ (by decide +kernel)) ggX6_get_X6_isPlace
set_option maxRecDepth 100000 in
theorem ggX6_get_X6_dot : GoodIn wsX6_get wsX6_dot := goodIn_r _ [16, 17, 7, 8, 9, 4, 10, 11, 12, 18, 19, 20, 21, 22, 23, 24, 25, 26, 27, 28, 29, 30, 31, 32, 33] rfl (by decide +kernel)
set_option maxRecDepth 20000 in
theorem gX6_get_X6_dot : GoodIn wsX6_get (wsV RX6 74 RX6 yX6_dot wsX6_dot) := goodIn_app (goodIn_of _ (by decide +kernel)) ggX6_get_X6_dot
theorem dX6_get_0 : decode cX6_get 0 = .ok (.aload_n 0, 1) := by decide +kernel
theorem dX6_get_1 : decode cX6_get 1 = .ok (.iload_n 1, 1) := by decide +kernel
theorem dX6_get_2 : decode cX6_get 2 = .ok (.invokevirtual 59, 3) := by decide +kernel
theorem dX6_get_5 : decode cX6_get 5 = .ok (.ifCond .eq 27, 3) := by decide +kernel
theorem dX6_get_8 : decode cX6_get 8 = .ok (.aload_n 0, 1) := by decide +kernel
theorem dX6_get_9 : decode cX6_get 9 = .ok (.iload_n 1, 1) := by decide +kernel
theorem dX6_get_10 : decode cX6_get 10 = .ok (.iload_n 2, 1) := by decide +kernel
theorem dX6_get_11 : decode cX6_get 11 = .ok (.i2l, 1) := by decide +kernel
theorem dX6_get_12 : decode cX6_get 12 = .ok (.iload_n 3, 1) := by decide +kernel
theorem dX6_get_13 : decode cX6_get 13 = .ok (.i2l, 1) := by decide +kernel
theorem dX6_get_14 : decode cX6_get 14 = .ok (.invokevirtual 55, 3) := by decide +kernel
theorem dX6_get_17 : decode cX6_get 17 = .ok (.ifCond .eq 15, 3) := by decide +kernel
theorem dX6_get_20 : decode cX6_get 20 = .ok (.aload_n 0, 1) := by decide +kernel
theorem dX6_get_21 : decode cX6_get 21 = .ok (.iload_n 1, 1) := by decide +kernel
theorem dX6_get_22 : decode cX6_get 22 = .ok (.iload_n 2, 1) := by decide +kernel
theorem dX6_get_23 : decode cX6_get 23 = .ok (.i2l, 1) := by decide +kernel
theorem dX6_get_24 : decode cX6_get 24 = .ok (.iload_n 3, 1) := by decide +kernel
theorem dX6_get_25 : decode cX6_get 25 = .ok (.i2l, 1) := by decide +kernel
theorem dX6_get_26 : decode cX6_get 26 = .ok (.invokevirtual 74, 3) := by decide +kernel
theorem dX6_get_29 : decode cX6_get 29 = .ok (.goto 4, 3) := by decide +kernel
theorem dX6_get_32 : decode cX6_get 32 = .ok (.iconst (-1), 1) := by decide +kernel
theorem dX6_get_33 : decode cX6_get 33 = .ok (.ireturn, 1) := by decide +kernel
set_option maxRecDepth 100000 in
theorem ggX6_told_X6_isSurface : GoodIn wsX6_told wsX6_isSurface := goodIn_r _ [9, 10, 11, 12, 13, 14, 15, 16, 17, 18, 19, 20, 21, 22, 23, 24, 25, 26] rfl (by decide +kernel)
set_option maxRecDepth 20000 in
theorem gX6_told_X6_isSurface : GoodIn wsX6_told (wsV RX6 59 RX6 yX6_isSurface wsX6_isSurface) := goodIn_app (goodIn_of _ (by decide +kernel)) ggX6_told_X6_isSurface
theorem dX6_told_0 : decode cX6_told 0 = .ok (.aload_n 0, 1) := by decide +kernel
theorem dX6_told_1 : decode cX6_told 1 = .ok (.iload_n 1, 1) := by decide +kernel
theorem dX6_told_2 : decode cX6_told 2 = .ok (.invokevirtual 59, 3) := by decide +kernel
theorem dX6_told_5 : decode cX6_told 5 = .ok (.ifCond .eq 13, 3) := by decide +kernel
theorem dX6_told_8 : decode cX6_told 8 = .ok (.iload_n 2, 1) := by decide +kernel
theorem dX6_told_9 : decode cX6_told 9 = .ok (.ifCond .lt 9, 3) := by decide +kernel
theorem dX6_told_12 : decode cX6_told 12 = .ok (.iload_n 2, 1) := by decide +kernel
theorem dX6_told_13 : decode cX6_told 13 = .ok (.bipush 6, 2) := by decide +kernel
theorem dX6_told_15 : decode cX6_told 15 = .ok (.if_icmp .le 5, 3) := by decide +kernel
theorem dX6_told_18 : decode cX6_told 18 = .ok (.iconst (-1), 1) := by decide +kernel
theorem dX6_told_19 : decode cX6_told 19 = .ok (.ireturn, 1) := by decide +kernel
theorem dX6_told_20 : decode cX6_told 20 = .ok (.iload_n 2, 1) := by decide +kernel
theorem dX6_told_21 : decode cX6_told 21 = .ok (.ifCond .ne 12, 3) := by decide +kernel
theorem dX6_told_24 : decode cX6_told 24 = .ok (.aload_n 0, 1) := by decide +kernel
theorem dX6_told_25 : decode cX6_told 25 = .ok (.getfield 7, 3) := by decide +kernel
theorem dX6_told_28 : decode cX6_told 28 = .ok (.iload_n 1, 1) := by decide +kernel
theorem dX6_told_29 : decode cX6_told 29 = .ok (.iaload, 1) := by decide +kernel
theorem dX6_told_30 : decode cX6_told 30 = .ok (.goto 43, 3) := by decide +kernel
theorem dX6_told_33 : decode cX6_told 33 = .ok (.iload_n 2, 1) := by decide +kernel
theorem dX6_told_34 : decode cX6_told 34 = .ok (.iconst 1, 1) := by decide +kernel
theorem dX6_told_35 : decode cX6_told 35 = .ok (.if_icmp .ne 12, 3) := by decide +kernel
theorem dX6_told_38 : decode cX6_told 38 = .ok (.aload_n 0, 1) := by decide +kernel
theorem dX6_told_39 : decode cX6_told 39 = .ok (.getfield 13, 3) := by decide +kernel
theorem dX6_told_42 : decode cX6_told 42 = .ok (.iload_n 1, 1) := by decide +kernel
theorem dX6_told_43 : decode cX6_told 43 = .ok (.iaload, 1) := by decide +kernel
theorem dX6_told_44 : decode cX6_told 44 = .ok (.goto 29, 3) := by decide +kernel
theorem dX6_told_47 : decode cX6_told 47 = .ok (.iload_n 2, 1) := by decide +kernel
theorem dX6_told_48 : decode cX6_told 48 = .ok (.iconst 2, 1) := by decide +kernel
theorem dX6_told_49 : decode cX6_told 49 = .ok (.if_icmp .ne 12, 3) := by decide +kernel
theorem dX6_told_52 : decode cX6_told 52 = .ok (.aload_n 0, 1) := by decide +kernel
theorem dX6_told_53 : decode cX6_told 53 = .ok (.getfield 16, 3) := by decide +kernel
theorem dX6_told_56 : decode cX6_told 56 = .ok (.iload_n 1, 1) := by decide +kernel
theorem dX6_told_57 : decode cX6_told 57 = .ok (.iaload, 1) := by decide +kernel
theorem dX6_told_58 : decode cX6_told 58 = .ok (.goto 15, 3) := by decide +kernel
theorem dX6_told_61 : decode cX6_told 61 = .ok (.aload_n 0, 1) := by decide +kernel
theorem dX6_told_62 : decode cX6_told 62 = .ok (.getfield 19, 3) := by decide +kernel
theorem dX6_told_65 : decode cX6_told 65 = .ok (.iconst 4, 1) := by decide +kernel
theorem dX6_told_66 : decode cX6_told 66 = .ok (.iload_n 1, 1) := by decide +kernel
theorem dX6_told_67 : decode cX6_told 67 = .ok (.imul, 1) := by decide +kernel
theorem dX6_told_68 : decode cX6_told 68 = .ok (.iload_n 2, 1) := by decide +kernel
theorem dX6_told_69 : decode cX6_told 69 = .ok (.iadd, 1) := by decide +kernel
theorem dX6_told_70 : decode cX6_told 70 = .ok (.iconst 3, 1) := by decide +kernel
theorem dX6_told_71 : decode cX6_told 71 = .ok (.isub, 1) := by decide +kernel
theorem dX6_told_72 : decode cX6_told 72 = .ok (.iaload, 1) := by decide +kernel
theorem dX6_told_73 : decode cX6_told 73 = .ok (.ireturn, 1) := by decide +kernel
theorem dX6_combined_0 : decode cX6_combined 0 = .ok (.iconst 0, 1) := by decide +kernel
theorem dX6_combined_1 : decode cX6_combined 1 = .ok (.istore_n 3, 1) := by decide +kernel
theorem dX6_combined_2 : decode cX6_combined 2 = .ok (.iconst 0, 1) := by decide +kernel
theorem dX6_combined_3 : decode cX6_combined 3 = .ok (.istore 4, 2) := by decide +kernel
theorem dX6_combined_5 : decode cX6_combined 5 = .ok (.iload 4, 2) := by decide +kernel
theorem dX6_combined_7 : decode cX6_combined 7 = .ok (.bipush 8, 2) := by decide +kernel
theorem dX6_combined_9 : decode cX6_combined 9 = .ok (.if_icmp .ge 38, 3) := by decide +kernel
theorem dX6_combined_12 : decode cX6_combined 12 = .ok (.iconst 2, 1) := by decide +kernel
theorem dX6_combined_13 : decode cX6_combined 13 = .ok (.iload_n 0, 1) := by decide +kernel
theorem dX6_combined_14 : decode cX6_combined 14 = .ok (.iload 4, 2) := by decide +kernel
theorem dX6_combined_16 : decode cX6_combined 16 = .ok (.ishr, 1) := by decide +kernel
theorem dX6_combined_17 : decode cX6_combined 17 = .ok (.iconst 1, 1) := by decide +kernel
theorem dX6_combined_18 : decode cX6_combined 18 = .ok (.iand, 1) := by decide +kernel
theorem dX6_combined_19 : decode cX6_combined 19 = .ok (.imul, 1) := by decide +kernel
theorem dX6_combined_20 : decode cX6_combined 20 = .ok (.iload_n 1, 1) := by decide +kernel
theorem dX6_combined_21 : decode cX6_combined 21 = .ok (.iload 4, 2) := by decide +kernel
theorem dX6_combined_23 : decode cX6_combined 23 = .ok (.ishr, 1) := by decide +kernel
theorem dX6_combined_24 : decode cX6_combined 24 = .ok (.iconst 1, 1) := by decide +kernel
theorem dX6_combined_25 : decode cX6_combined 25 = .ok (.iand, 1) := by decide +kernel
theorem dX6_combined_26 : decode cX6_combined 26 = .ok (.iadd, 1) := by decide +kernel
theorem dX6_combined_27 : decode cX6_combined 27 = .ok (.istore 5, 2) := by decide +kernel
theorem dX6_combined_29 : decode cX6_combined 29 = .ok (.iload_n 3, 1) := by decide +kernel
theorem dX6_combined_30 : decode cX6_combined 30 = .ok (.iload_n 2, 1) := by decide +kernel
theorem dX6_combined_31 : decode cX6_combined 31 = .ok (.iload 5, 2) := by decide +kernel
theorem dX6_combined_33 : decode cX6_combined 33 = .ok (.ishr, 1) := by decide +kernel
theorem dX6_combined_34 : decode cX6_combined 34 = .ok (.iconst 1, 1) := by decide +kernel
theorem dX6_combined_35 : decode cX6_combined 35 = .ok (.iand, 1) := by decide +kernel
theorem dX6_combined_36 : decode cX6_combined 36 = .ok (.iload 4, 2) := by decide +kernel
theorem dX6_combined_38 : decode cX6_combined 38 = .ok (.ishl, 1) := by decide +kernel
theorem dX6_combined_39 : decode cX6_combined 39 = .ok (.ior, 1) := by decide +kernel
theorem dX6_combined_40 : decode cX6_combined 40 = .ok (.istore_n 3, 1) := by decide +kernel
theorem dX6_combined_41 : decode cX6_combined 41 = .ok (.iinc 4 1, 3) := by decide +kernel
theorem dX6_combined_44 : decode cX6_combined 44 = .ok (.goto (-39), 3) := by decide +kernel
theorem dX6_combined_47 : decode cX6_combined 47 = .ok (.iload_n 3, 1) := by decide +kernel
theorem dX6_combined_48 : decode cX6_combined 48 = .ok (.ireturn, 1) := by decide +kernel
theorem dX6_fitted_0 : decode cX6_fitted 0 = .ok (.iload_n 2, 1) := by decide +kernel
theorem dX6_fitted_1 : decode cX6_fitted 1 = .ok (.iconst 1, 1) := by decide +kernel
theorem dX6_fitted_2 : decode cX6_fitted 2 = .ok (.aload_n 0, 1) := by decide +kernel
theorem dX6_fitted_3 : decode cX6_fitted 3 = .ok (.getfield 7, 3) := by decide +kernel
theorem dX6_fitted_6 : decode cX6_fitted 6 = .ok (.iload_n 1, 1) := by decide +kernel
theorem dX6_fitted_7 : decode cX6_fitted 7 = .ok (.iaload, 1) := by decide +kernel
theorem dX6_fitted_8 : decode cX6_fitted 8 = .ok (.ishl, 1) := by decide +kernel
theorem dX6_fitted_9 : decode cX6_fitted 9 = .ok (.iconst 1, 1) := by decide +kernel
theorem dX6_fitted_10 : decode cX6_fitted 10 = .ok (.isub, 1) := by decide +kernel
theorem dX6_fitted_11 : decode cX6_fitted 11 = .ok (.iand, 1) := by decide +kernel
theorem dX6_fitted_12 : decode cX6_fitted 12 = .ok (.ireturn, 1) := by decide +kernel
set_option maxRecDepth 100000 in
theorem ggX6_fill_X6_isSurface : GoodIn wsX6_fill wsX6_isSurface := goodIn_r _ [6, 7, 28, 29, 30, 31, 32, 33, 34, 35, 36, 37, 38, 39, 40, 41, 42, 43] rfl (by decide +kernel)
set_option maxRecDepth 20000 in
theorem gX6_fill_X6_isSurface : GoodIn wsX6_fill (wsV RX6 59 RX6 yX6_isSurface wsX6_isSurface) := goodIn_app (goodIn_of _ (by decide +kernel)) ggX6_fill_X6_isSurface
set_option maxRecDepth 100000 in
theorem ggX6_fill_X6_isSpan : GoodIn wsX6_fill wsX6_isSpan := goodIn_r _ [10] rfl (by decide +kernel)
set_option maxRecDepth 20000 in
theorem gX6_fill_X6_isSpan : GoodIn wsX6_fill (va_wsS RX6 63 yX6_isSpan wsX6_isSpan) := goodIn_app (goodIn_of _ (by decide +kernel)) ggX6_fill_X6_isSpan
set_option maxRecDepth 100000 in
theorem ggX6_fill_X6_fits : GoodIn wsX6_fill wsX6_fits := goodIn_r _ [14, 15, 28, 29, 30, 31, 32, 33, 34, 35, 36, 37, 38, 39, 40, 41, 42, 43] rfl (by decide +kernel)
set_option maxRecDepth 20000 in
theorem gX6_fill_X6_fits : GoodIn wsX6_fill (wsV RX6 70 RX6 yX6_fits wsX6_fits) := goodIn_app (goodIn_of _ (by decide +kernel)) ggX6_fill_X6_fits
set_option maxRecDepth 100000 in
theorem ggX6_fill_X6_isInClip : GoodIn wsX6_fill wsX6_isInClip := goodIn_r _ [19, 20, 28, 29, 30, 31, 32, 33, 34, 35, 36, 37, 38, 39, 40, 41, 42, 43] rfl (by decide +kernel)
set_option maxRecDepth 20000 in
theorem gX6_fill_X6_isInClip : GoodIn wsX6_fill (wsV RX6 78 RX6 yX6_isInClip wsX6_isInClip) := goodIn_app (goodIn_of _ (by decide +kernel)) ggX6_fill_X6_isInClip
set_option maxRecDepth 100000 in
theorem ggX6_fill_X6_combined : GoodIn wsX6_fill wsX6_combined := goodIn_r _ [23] rfl (by decide +kernel)
set_option maxRecDepth 20000 in
theorem gX6_fill_X6_combined : GoodIn wsX6_fill (va_wsS RX6 81 yX6_combined wsX6_combined) := goodIn_app (goodIn_of _ (by decide +kernel)) ggX6_fill_X6_combined
set_option maxRecDepth 100000 in
theorem ggX6_fill_X6_fitted : GoodIn wsX6_fill wsX6_fitted := goodIn_r _ [27, 15, 28, 29, 30, 31, 32, 33, 34, 35, 36, 37, 38, 39, 40, 41, 42, 43] rfl (by decide +kernel)
set_option maxRecDepth 20000 in
theorem gX6_fill_X6_fitted : GoodIn wsX6_fill (wsV RX6 85 RX6 yX6_fitted wsX6_fitted) := goodIn_app (goodIn_of _ (by decide +kernel)) ggX6_fill_X6_fitted
theorem dX6_fill_0 : decode cX6_fill 0 = .ok (.aload_n 0, 1) := by decide +kernel
theorem dX6_fill_1 : decode cX6_fill 1 = .ok (.iload_n 1, 1) := by decide +kernel
theorem dX6_fill_2 : decode cX6_fill 2 = .ok (.invokevirtual 59, 3) := by decide +kernel
theorem dX6_fill_5 : decode cX6_fill 5 = .ok (.ifCond .eq 41, 3) := by decide +kernel
theorem dX6_fill_8 : decode cX6_fill 8 = .ok (.iload 7, 2) := by decide +kernel
theorem dX6_fill_10 : decode cX6_fill 10 = .ok (.ifCond .lt 36, 3) := by decide +kernel
theorem dX6_fill_13 : decode cX6_fill 13 = .ok (.iload 7, 2) := by decide +kernel
theorem dX6_fill_15 : decode cX6_fill 15 = .ok (.bipush 15, 2) := by decide +kernel
theorem dX6_fill_17 : decode cX6_fill 17 = .ok (.if_icmp .gt 29, 3) := by decide +kernel
theorem dX6_fill_20 : decode cX6_fill 20 = .ok (.iload 4, 2) := by decide +kernel
theorem dX6_fill_22 : decode cX6_fill 22 = .ok (.invokestatic 63, 3) := by decide +kernel
theorem dX6_fill_25 : decode cX6_fill 25 = .ok (.ifCond .eq 21, 3) := by decide +kernel
theorem dX6_fill_28 : decode cX6_fill 28 = .ok (.iload 5, 2) := by decide +kernel
theorem dX6_fill_30 : decode cX6_fill 30 = .ok (.invokestatic 63, 3) := by decide +kernel
theorem dX6_fill_33 : decode cX6_fill 33 = .ok (.ifCond .eq 13, 3) := by decide +kernel
theorem dX6_fill_36 : decode cX6_fill 36 = .ok (.aload_n 0, 1) := by decide +kernel
theorem dX6_fill_37 : decode cX6_fill 37 = .ok (.iload_n 1, 1) := by decide +kernel
theorem dX6_fill_38 : decode cX6_fill 38 = .ok (.iload 6, 2) := by decide +kernel
theorem dX6_fill_40 : decode cX6_fill 40 = .ok (.invokevirtual 70, 3) := by decide +kernel
theorem dX6_fill_43 : decode cX6_fill 43 = .ok (.ifCond .ne 5, 3) := by decide +kernel
theorem dX6_fill_46 : decode cX6_fill 46 = .ok (.iconst (-1), 1) := by decide +kernel
theorem dX6_fill_47 : decode cX6_fill 47 = .ok (.ireturn, 1) := by decide +kernel
theorem dX6_fill_48 : decode cX6_fill 48 = .ok (.iconst 0, 1) := by decide +kernel
theorem dX6_fill_49 : decode cX6_fill 49 = .ok (.istore 8, 2) := by decide +kernel
theorem dX6_fill_51 : decode cX6_fill 51 = .ok (.iconst 0, 1) := by decide +kernel
theorem dX6_fill_52 : decode cX6_fill 52 = .ok (.istore 9, 2) := by decide +kernel
theorem dX6_fill_54 : decode cX6_fill 54 = .ok (.iload 9, 2) := by decide +kernel
theorem dX6_fill_56 : decode cX6_fill 56 = .ok (.iload 5, 2) := by decide +kernel
theorem dX6_fill_58 : decode cX6_fill 58 = .ok (.if_icmp .ge 100, 3) := by decide +kernel
theorem dX6_fill_61 : decode cX6_fill 61 = .ok (.iconst 0, 1) := by decide +kernel
theorem dX6_fill_62 : decode cX6_fill 62 = .ok (.istore 10, 2) := by decide +kernel
theorem dX6_fill_64 : decode cX6_fill 64 = .ok (.iload 10, 2) := by decide +kernel
theorem dX6_fill_66 : decode cX6_fill 66 = .ok (.iload 4, 2) := by decide +kernel
theorem dX6_fill_68 : decode cX6_fill 68 = .ok (.if_icmp .ge 84, 3) := by decide +kernel
theorem dX6_fill_71 : decode cX6_fill 71 = .ok (.iload_n 2, 1) := by decide +kernel
theorem dX6_fill_72 : decode cX6_fill 72 = .ok (.i2l, 1) := by decide +kernel
theorem dX6_fill_73 : decode cX6_fill 73 = .ok (.iload 10, 2) := by decide +kernel
theorem dX6_fill_75 : decode cX6_fill 75 = .ok (.i2l, 1) := by decide +kernel
theorem dX6_fill_76 : decode cX6_fill 76 = .ok (.ladd, 1) := by decide +kernel
theorem dX6_fill_77 : decode cX6_fill 77 = .ok (.lstore 11, 2) := by decide +kernel
theorem dX6_fill_79 : decode cX6_fill 79 = .ok (.iload_n 3, 1) := by decide +kernel
theorem dX6_fill_80 : decode cX6_fill 80 = .ok (.i2l, 1) := by decide +kernel
theorem dX6_fill_81 : decode cX6_fill 81 = .ok (.iload 9, 2) := by decide +kernel
theorem dX6_fill_83 : decode cX6_fill 83 = .ok (.i2l, 1) := by decide +kernel
theorem dX6_fill_84 : decode cX6_fill 84 = .ok (.ladd, 1) := by decide +kernel
theorem dX6_fill_85 : decode cX6_fill 85 = .ok (.lstore 13, 2) := by decide +kernel
theorem dX6_fill_87 : decode cX6_fill 87 = .ok (.aload_n 0, 1) := by decide +kernel
theorem dX6_fill_88 : decode cX6_fill 88 = .ok (.iload_n 1, 1) := by decide +kernel
theorem dX6_fill_89 : decode cX6_fill 89 = .ok (.lload 11, 2) := by decide +kernel
theorem dX6_fill_91 : decode cX6_fill 91 = .ok (.lload 13, 2) := by decide +kernel
theorem dX6_fill_93 : decode cX6_fill 93 = .ok (.invokevirtual 78, 3) := by decide +kernel
theorem dX6_fill_96 : decode cX6_fill 96 = .ok (.ifCond .eq 50, 3) := by decide +kernel
theorem dX6_fill_99 : decode cX6_fill 99 = .ok (.sipush 4096, 3) := by decide +kernel
theorem dX6_fill_102 : decode cX6_fill 102 = .ok (.iload_n 1, 1) := by decide +kernel
theorem dX6_fill_103 : decode cX6_fill 103 = .ok (.imul, 1) := by decide +kernel
theorem dX6_fill_104 : decode cX6_fill 104 = .ok (.bipush 64, 2) := by decide +kernel
theorem dX6_fill_106 : decode cX6_fill 106 = .ok (.lload 13, 2) := by decide +kernel
theorem dX6_fill_108 : decode cX6_fill 108 = .ok (.l2i, 1) := by decide +kernel
theorem dX6_fill_109 : decode cX6_fill 109 = .ok (.imul, 1) := by decide +kernel
theorem dX6_fill_110 : decode cX6_fill 110 = .ok (.iadd, 1) := by decide +kernel
theorem dX6_fill_111 : decode cX6_fill 111 = .ok (.lload 11, 2) := by decide +kernel
theorem dX6_fill_113 : decode cX6_fill 113 = .ok (.l2i, 1) := by decide +kernel
theorem dX6_fill_114 : decode cX6_fill 114 = .ok (.iadd, 1) := by decide +kernel
theorem dX6_fill_115 : decode cX6_fill 115 = .ok (.istore 15, 2) := by decide +kernel
theorem dX6_fill_117 : decode cX6_fill 117 = .ok (.aload_n 0, 1) := by decide +kernel
theorem dX6_fill_118 : decode cX6_fill 118 = .ok (.getfield 23, 3) := by decide +kernel
theorem dX6_fill_121 : decode cX6_fill 121 = .ok (.iload 15, 2) := by decide +kernel
theorem dX6_fill_123 : decode cX6_fill 123 = .ok (.aload_n 0, 1) := by decide +kernel
theorem dX6_fill_124 : decode cX6_fill 124 = .ok (.iload_n 1, 1) := by decide +kernel
theorem dX6_fill_125 : decode cX6_fill 125 = .ok (.iload 6, 2) := by decide +kernel
theorem dX6_fill_127 : decode cX6_fill 127 = .ok (.aload_n 0, 1) := by decide +kernel
theorem dX6_fill_128 : decode cX6_fill 128 = .ok (.getfield 23, 3) := by decide +kernel
theorem dX6_fill_131 : decode cX6_fill 131 = .ok (.iload 15, 2) := by decide +kernel
theorem dX6_fill_133 : decode cX6_fill 133 = .ok (.iaload, 1) := by decide +kernel
theorem dX6_fill_134 : decode cX6_fill 134 = .ok (.iload 7, 2) := by decide +kernel
theorem dX6_fill_136 : decode cX6_fill 136 = .ok (.invokestatic 81, 3) := by decide +kernel
theorem dX6_fill_139 : decode cX6_fill 139 = .ok (.invokevirtual 85, 3) := by decide +kernel
theorem dX6_fill_142 : decode cX6_fill 142 = .ok (.iastore, 1) := by decide +kernel
theorem dX6_fill_143 : decode cX6_fill 143 = .ok (.iinc 8 1, 3) := by decide +kernel
theorem dX6_fill_146 : decode cX6_fill 146 = .ok (.iinc 10 1, 3) := by decide +kernel
theorem dX6_fill_149 : decode cX6_fill 149 = .ok (.goto (-85), 3) := by decide +kernel
theorem dX6_fill_152 : decode cX6_fill 152 = .ok (.iinc 9 1, 3) := by decide +kernel
theorem dX6_fill_155 : decode cX6_fill 155 = .ok (.goto (-101), 3) := by decide +kernel
theorem dX6_fill_158 : decode cX6_fill 158 = .ok (.iload 8, 2) := by decide +kernel
theorem dX6_fill_160 : decode cX6_fill 160 = .ok (.ireturn, 1) := by decide +kernel
set_option maxRecDepth 100000 in
theorem ggX6_bring_X6_isPlace : GoodIn wsX6_bring wsX6_isPlace := goodIn_r _ [8, 9, 10, 28, 29, 30, 31, 32, 33, 34, 35, 36, 37, 38, 39, 40, 41, 42, 43] rfl (by decide +kernel)
set_option maxRecDepth 20000 in
theorem gX6_bring_X6_isPlace : GoodIn wsX6_bring (wsV RX6 55 RX6 yX6_isPlace wsX6_isPlace) := goodIn_app (goodIn_of _ (by decide +kernel)) ggX6_bring_X6_isPlace
set_option maxRecDepth 100000 in
theorem ggX6_bring_X6_isInClip : GoodIn wsX6_bring wsX6_isInClip := goodIn_r _ [14, 15, 28, 29, 30, 31, 32, 33, 34, 35, 36, 37, 38, 39, 40, 41, 42, 43] rfl (by decide +kernel)
set_option maxRecDepth 20000 in
theorem gX6_bring_X6_isInClip : GoodIn wsX6_bring (wsV RX6 78 RX6 yX6_isInClip wsX6_isInClip) := goodIn_app (goodIn_of _ (by decide +kernel)) ggX6_bring_X6_isInClip
set_option maxRecDepth 100000 in
theorem ggX6_bring_X6_dot : GoodIn wsX6_bring wsX6_dot := goodIn_r _ [19, 2, 4, 5, 6, 7, 8, 9, 10, 28, 29, 30, 31, 32, 33, 34, 35, 36, 37, 38, 39, 40, 41, 42, 43] rfl (by decide +kernel)
set_option maxRecDepth 20000 in
theorem gX6_bring_X6_dot : GoodIn wsX6_bring (wsV RX6 74 RX6 yX6_dot wsX6_dot) := goodIn_app (goodIn_of _ (by decide +kernel)) ggX6_bring_X6_dot
set_option maxRecDepth 100000 in
theorem ggX6_bring_X6_combined : GoodIn wsX6_bring wsX6_combined := goodIn_r _ [22] rfl (by decide +kernel)
set_option maxRecDepth 20000 in
theorem gX6_bring_X6_combined : GoodIn wsX6_bring (va_wsS RX6 81 yX6_combined wsX6_combined) := goodIn_app (goodIn_of _ (by decide +kernel)) ggX6_bring_X6_combined
set_option maxRecDepth 100000 in
theorem ggX6_bring_X6_fitted : GoodIn wsX6_bring wsX6_fitted := goodIn_r _ [26, 27, 28, 29, 30, 31, 32, 33, 34, 35, 36, 37, 38, 39, 40, 41, 42, 43] rfl (by decide +kernel)
set_option maxRecDepth 20000 in
theorem gX6_bring_X6_fitted : GoodIn wsX6_bring (wsV RX6 85 RX6 yX6_fitted wsX6_fitted) := goodIn_app (goodIn_of _ (by decide +kernel)) ggX6_bring_X6_fitted
theorem dX6_bring_0 : decode cX6_bring 0 = .ok (.iconst 0, 1) := by decide +kernel
theorem dX6_bring_1 : decode cX6_bring 1 = .ok (.istore 12, 2) := by decide +kernel
theorem dX6_bring_3 : decode cX6_bring 3 = .ok (.iload 12, 2) := by decide +kernel
theorem dX6_bring_5 : decode cX6_bring 5 = .ok (.sipush 4096, 3) := by decide +kernel
theorem dX6_bring_8 : decode cX6_bring 8 = .ok (.if_icmp .ge 17, 3) := by decide +kernel
theorem dX6_bring_11 : decode cX6_bring 11 = .ok (.aload_n 0, 1) := by decide +kernel
theorem dX6_bring_12 : decode cX6_bring 12 = .ok (.getfield 29, 3) := by decide +kernel
theorem dX6_bring_15 : decode cX6_bring 15 = .ok (.iload 12, 2) := by decide +kernel
theorem dX6_bring_17 : decode cX6_bring 17 = .ok (.iconst 0, 1) := by decide +kernel
theorem dX6_bring_18 : decode cX6_bring 18 = .ok (.bastore, 1) := by decide +kernel
theorem dX6_bring_19 : decode cX6_bring 19 = .ok (.iinc 12 1, 3) := by decide +kernel
theorem dX6_bring_22 : decode cX6_bring 22 = .ok (.goto (-19), 3) := by decide +kernel
theorem dX6_bring_25 : decode cX6_bring 25 = .ok (.iconst 0, 1) := by decide +kernel
theorem dX6_bring_26 : decode cX6_bring 26 = .ok (.istore 12, 2) := by decide +kernel
theorem dX6_bring_28 : decode cX6_bring 28 = .ok (.iconst 0, 1) := by decide +kernel
theorem dX6_bring_29 : decode cX6_bring 29 = .ok (.istore 13, 2) := by decide +kernel
theorem dX6_bring_31 : decode cX6_bring 31 = .ok (.iload 13, 2) := by decide +kernel
theorem dX6_bring_33 : decode cX6_bring 33 = .ok (.iload 5, 2) := by decide +kernel
theorem dX6_bring_35 : decode cX6_bring 35 = .ok (.if_icmp .ge 232, 3) := by decide +kernel
theorem dX6_bring_38 : decode cX6_bring 38 = .ok (.iconst 0, 1) := by decide +kernel
theorem dX6_bring_39 : decode cX6_bring 39 = .ok (.istore 14, 2) := by decide +kernel
theorem dX6_bring_41 : decode cX6_bring 41 = .ok (.iload 14, 2) := by decide +kernel
theorem dX6_bring_43 : decode cX6_bring 43 = .ok (.iload 4, 2) := by decide +kernel
theorem dX6_bring_45 : decode cX6_bring 45 = .ok (.if_icmp .ge 216, 3) := by decide +kernel
theorem dX6_bring_48 : decode cX6_bring 48 = .ok (.iload 7, 2) := by decide +kernel
theorem dX6_bring_50 : decode cX6_bring 50 = .ok (.i2l, 1) := by decide +kernel
theorem dX6_bring_51 : decode cX6_bring 51 = .ok (.iload 14, 2) := by decide +kernel
theorem dX6_bring_53 : decode cX6_bring 53 = .ok (.i2l, 1) := by decide +kernel
theorem dX6_bring_54 : decode cX6_bring 54 = .ok (.ladd, 1) := by decide +kernel
theorem dX6_bring_55 : decode cX6_bring 55 = .ok (.lstore 15, 2) := by decide +kernel
theorem dX6_bring_57 : decode cX6_bring 57 = .ok (.iload 8, 2) := by decide +kernel
theorem dX6_bring_59 : decode cX6_bring 59 = .ok (.i2l, 1) := by decide +kernel
theorem dX6_bring_60 : decode cX6_bring 60 = .ok (.iload 13, 2) := by decide +kernel
theorem dX6_bring_62 : decode cX6_bring 62 = .ok (.i2l, 1) := by decide +kernel
theorem dX6_bring_63 : decode cX6_bring 63 = .ok (.ladd, 1) := by decide +kernel
theorem dX6_bring_64 : decode cX6_bring 64 = .ok (.lstore 17, 2) := by decide +kernel
theorem dX6_bring_66 : decode cX6_bring 66 = .ok (.iload_n 2, 1) := by decide +kernel
theorem dX6_bring_67 : decode cX6_bring 67 = .ok (.i2l, 1) := by decide +kernel
theorem dX6_bring_68 : decode cX6_bring 68 = .ok (.iload 14, 2) := by decide +kernel
theorem dX6_bring_70 : decode cX6_bring 70 = .ok (.i2l, 1) := by decide +kernel
theorem dX6_bring_71 : decode cX6_bring 71 = .ok (.ladd, 1) := by decide +kernel
theorem dX6_bring_72 : decode cX6_bring 72 = .ok (.lstore 19, 2) := by decide +kernel
theorem dX6_bring_74 : decode cX6_bring 74 = .ok (.iload_n 3, 1) := by decide +kernel
theorem dX6_bring_75 : decode cX6_bring 75 = .ok (.i2l, 1) := by decide +kernel
theorem dX6_bring_76 : decode cX6_bring 76 = .ok (.iload 13, 2) := by decide +kernel
theorem dX6_bring_78 : decode cX6_bring 78 = .ok (.i2l, 1) := by decide +kernel
theorem dX6_bring_79 : decode cX6_bring 79 = .ok (.ladd, 1) := by decide +kernel
theorem dX6_bring_80 : decode cX6_bring 80 = .ok (.lstore 21, 2) := by decide +kernel
theorem dX6_bring_82 : decode cX6_bring 82 = .ok (.aload_n 0, 1) := by decide +kernel
theorem dX6_bring_83 : decode cX6_bring 83 = .ok (.iload_n 1, 1) := by decide +kernel
theorem dX6_bring_84 : decode cX6_bring 84 = .ok (.lload 19, 2) := by decide +kernel
theorem dX6_bring_86 : decode cX6_bring 86 = .ok (.lload 21, 2) := by decide +kernel
theorem dX6_bring_88 : decode cX6_bring 88 = .ok (.invokevirtual 55, 3) := by decide +kernel
theorem dX6_bring_91 : decode cX6_bring 91 = .ok (.ifCond .eq 164, 3) := by decide +kernel
theorem dX6_bring_94 : decode cX6_bring 94 = .ok (.aload_n 0, 1) := by decide +kernel
theorem dX6_bring_95 : decode cX6_bring 95 = .ok (.iload 6, 2) := by decide +kernel
theorem dX6_bring_97 : decode cX6_bring 97 = .ok (.lload 15, 2) := by decide +kernel
theorem dX6_bring_99 : decode cX6_bring 99 = .ok (.lload 17, 2) := by decide +kernel
theorem dX6_bring_101 : decode cX6_bring 101 = .ok (.invokevirtual 78, 3) := by decide +kernel
theorem dX6_bring_104 : decode cX6_bring 104 = .ok (.ifCond .eq 151, 3) := by decide +kernel
theorem dX6_bring_107 : decode cX6_bring 107 = .ok (.iinc 12 1, 3) := by decide +kernel
theorem dX6_bring_110 : decode cX6_bring 110 = .ok (.bipush 64, 2) := by decide +kernel
theorem dX6_bring_112 : decode cX6_bring 112 = .ok (.lload 17, 2) := by decide +kernel
theorem dX6_bring_114 : decode cX6_bring 114 = .ok (.l2i, 1) := by decide +kernel
theorem dX6_bring_115 : decode cX6_bring 115 = .ok (.imul, 1) := by decide +kernel
theorem dX6_bring_116 : decode cX6_bring 116 = .ok (.lload 15, 2) := by decide +kernel
theorem dX6_bring_118 : decode cX6_bring 118 = .ok (.l2i, 1) := by decide +kernel
theorem dX6_bring_119 : decode cX6_bring 119 = .ok (.iadd, 1) := by decide +kernel
theorem dX6_bring_120 : decode cX6_bring 120 = .ok (.istore 23, 2) := by decide +kernel
theorem dX6_bring_122 : decode cX6_bring 122 = .ok (.aload_n 0, 1) := by decide +kernel
theorem dX6_bring_123 : decode cX6_bring 123 = .ok (.iload_n 1, 1) := by decide +kernel
theorem dX6_bring_124 : decode cX6_bring 124 = .ok (.lload 19, 2) := by decide +kernel
theorem dX6_bring_126 : decode cX6_bring 126 = .ok (.lload 21, 2) := by decide +kernel
theorem dX6_bring_128 : decode cX6_bring 128 = .ok (.invokevirtual 74, 3) := by decide +kernel
theorem dX6_bring_131 : decode cX6_bring 131 = .ok (.istore 24, 2) := by decide +kernel
theorem dX6_bring_133 : decode cX6_bring 133 = .ok (.aload_n 0, 1) := by decide +kernel
theorem dX6_bring_134 : decode cX6_bring 134 = .ok (.getfield 23, 3) := by decide +kernel
theorem dX6_bring_137 : decode cX6_bring 137 = .ok (.sipush 4096, 3) := by decide +kernel
theorem dX6_bring_140 : decode cX6_bring 140 = .ok (.iload 6, 2) := by decide +kernel
theorem dX6_bring_142 : decode cX6_bring 142 = .ok (.imul, 1) := by decide +kernel
theorem dX6_bring_143 : decode cX6_bring 143 = .ok (.iload 23, 2) := by decide +kernel
theorem dX6_bring_145 : decode cX6_bring 145 = .ok (.iadd, 1) := by decide +kernel
theorem dX6_bring_146 : decode cX6_bring 146 = .ok (.iaload, 1) := by decide +kernel
theorem dX6_bring_147 : decode cX6_bring 147 = .ok (.istore 25, 2) := by decide +kernel
theorem dX6_bring_149 : decode cX6_bring 149 = .ok (.aload_n 0, 1) := by decide +kernel
theorem dX6_bring_150 : decode cX6_bring 150 = .ok (.getfield 29, 3) := by decide +kernel
theorem dX6_bring_153 : decode cX6_bring 153 = .ok (.iload 23, 2) := by decide +kernel
theorem dX6_bring_155 : decode cX6_bring 155 = .ok (.iload 9, 2) := by decide +kernel
theorem dX6_bring_157 : decode cX6_bring 157 = .ok (.iconst 1, 1) := by decide +kernel
theorem dX6_bring_158 : decode cX6_bring 158 = .ok (.if_icmp .ne 18, 3) := by decide +kernel
theorem dX6_bring_161 : decode cX6_bring 161 = .ok (.iload 24, 2) := by decide +kernel
theorem dX6_bring_163 : decode cX6_bring 163 = .ok (.iload 10, 2) := by decide +kernel
theorem dX6_bring_165 : decode cX6_bring 165 = .ok (.if_icmp .eq 7, 3) := by decide +kernel
theorem dX6_bring_168 : decode cX6_bring 168 = .ok (.iconst 1, 1) := by decide +kernel
theorem dX6_bring_169 : decode cX6_bring 169 = .ok (.goto 32, 3) := by decide +kernel
theorem dX6_bring_172 : decode cX6_bring 172 = .ok (.iconst 0, 1) := by decide +kernel
theorem dX6_bring_173 : decode cX6_bring 173 = .ok (.goto 28, 3) := by decide +kernel
theorem dX6_bring_176 : decode cX6_bring 176 = .ok (.iload 9, 2) := by decide +kernel
theorem dX6_bring_178 : decode cX6_bring 178 = .ok (.iconst 2, 1) := by decide +kernel
theorem dX6_bring_179 : decode cX6_bring 179 = .ok (.if_icmp .ne 17, 3) := by decide +kernel
theorem dX6_bring_182 : decode cX6_bring 182 = .ok (.aload_n 0, 1) := by decide +kernel
theorem dX6_bring_183 : decode cX6_bring 183 = .ok (.iload 10, 2) := by decide +kernel
theorem dX6_bring_185 : decode cX6_bring 185 = .ok (.lload 19, 2) := by decide +kernel
theorem dX6_bring_187 : decode cX6_bring 187 = .ok (.lload 21, 2) := by decide +kernel
theorem dX6_bring_189 : decode cX6_bring 189 = .ok (.invokevirtual 74, 3) := by decide +kernel
theorem dX6_bring_192 : decode cX6_bring 192 = .ok (.iconst 1, 1) := by decide +kernel
theorem dX6_bring_193 : decode cX6_bring 193 = .ok (.if_icmp .ne 7, 3) := by decide +kernel
theorem dX6_bring_196 : decode cX6_bring 196 = .ok (.iconst 1, 1) := by decide +kernel
theorem dX6_bring_197 : decode cX6_bring 197 = .ok (.goto 4, 3) := by decide +kernel
theorem dX6_bring_200 : decode cX6_bring 200 = .ok (.iconst 0, 1) := by decide +kernel
theorem dX6_bring_201 : decode cX6_bring 201 = .ok (.bastore, 1) := by decide +kernel
theorem dX6_bring_202 : decode cX6_bring 202 = .ok (.aload_n 0, 1) := by decide +kernel
theorem dX6_bring_203 : decode cX6_bring 203 = .ok (.getfield 26, 3) := by decide +kernel
theorem dX6_bring_206 : decode cX6_bring 206 = .ok (.iload 23, 2) := by decide +kernel
theorem dX6_bring_208 : decode cX6_bring 208 = .ok (.iload 9, 2) := by decide +kernel
theorem dX6_bring_210 : decode cX6_bring 210 = .ok (.ifCond .ne 21, 3) := by decide +kernel
theorem dX6_bring_213 : decode cX6_bring 213 = .ok (.aload_n 0, 1) := by decide +kernel
theorem dX6_bring_214 : decode cX6_bring 214 = .ok (.iload 6, 2) := by decide +kernel
theorem dX6_bring_216 : decode cX6_bring 216 = .ok (.iload 24, 2) := by decide +kernel
theorem dX6_bring_218 : decode cX6_bring 218 = .ok (.iload 25, 2) := by decide +kernel
theorem dX6_bring_220 : decode cX6_bring 220 = .ok (.iload 10, 2) := by decide +kernel
theorem dX6_bring_222 : decode cX6_bring 222 = .ok (.invokestatic 81, 3) := by decide +kernel
theorem dX6_bring_225 : decode cX6_bring 225 = .ok (.invokevirtual 85, 3) := by decide +kernel
theorem dX6_bring_228 : decode cX6_bring 228 = .ok (.goto 26, 3) := by decide +kernel
theorem dX6_bring_231 : decode cX6_bring 231 = .ok (.iload 9, 2) := by decide +kernel
theorem dX6_bring_233 : decode cX6_bring 233 = .ok (.iconst 3, 1) := by decide +kernel
theorem dX6_bring_234 : decode cX6_bring 234 = .ok (.if_icmp .ne 18, 3) := by decide +kernel
theorem dX6_bring_237 : decode cX6_bring 237 = .ok (.iload 24, 2) := by decide +kernel
theorem dX6_bring_239 : decode cX6_bring 239 = .ok (.ifCond .ne 8, 3) := by decide +kernel
theorem dX6_bring_242 : decode cX6_bring 242 = .ok (.iload 10, 2) := by decide +kernel
theorem dX6_bring_244 : decode cX6_bring 244 = .ok (.goto 10, 3) := by decide +kernel
theorem dX6_bring_247 : decode cX6_bring 247 = .ok (.iload 11, 2) := by decide +kernel
theorem dX6_bring_249 : decode cX6_bring 249 = .ok (.goto 5, 3) := by decide +kernel
theorem dX6_bring_252 : decode cX6_bring 252 = .ok (.iload 24, 2) := by decide +kernel
theorem dX6_bring_254 : decode cX6_bring 254 = .ok (.iastore, 1) := by decide +kernel
theorem dX6_bring_255 : decode cX6_bring 255 = .ok (.iinc 14 1, 3) := by decide +kernel
theorem dX6_bring_258 : decode cX6_bring 258 = .ok (.goto (-217), 3) := by decide +kernel
theorem dX6_bring_261 : decode cX6_bring 261 = .ok (.iinc 13 1, 3) := by decide +kernel
theorem dX6_bring_264 : decode cX6_bring 264 = .ok (.goto (-233), 3) := by decide +kernel
theorem dX6_bring_267 : decode cX6_bring 267 = .ok (.iconst 0, 1) := by decide +kernel
theorem dX6_bring_268 : decode cX6_bring 268 = .ok (.istore 13, 2) := by decide +kernel
theorem dX6_bring_270 : decode cX6_bring 270 = .ok (.iload 13, 2) := by decide +kernel
theorem dX6_bring_272 : decode cX6_bring 272 = .ok (.sipush 4096, 3) := by decide +kernel
theorem dX6_bring_275 : decode cX6_bring 275 = .ok (.if_icmp .ge 57, 3) := by decide +kernel
theorem dX6_bring_278 : decode cX6_bring 278 = .ok (.aload_n 0, 1) := by decide +kernel
theorem dX6_bring_279 : decode cX6_bring 279 = .ok (.getfield 23, 3) := by decide +kernel
theorem dX6_bring_282 : decode cX6_bring 282 = .ok (.sipush 4096, 3) := by decide +kernel
theorem dX6_bring_285 : decode cX6_bring 285 = .ok (.iload 6, 2) := by decide +kernel
theorem dX6_bring_287 : decode cX6_bring 287 = .ok (.imul, 1) := by decide +kernel
theorem dX6_bring_288 : decode cX6_bring 288 = .ok (.iload 13, 2) := by decide +kernel
theorem dX6_bring_290 : decode cX6_bring 290 = .ok (.iadd, 1) := by decide +kernel
theorem dX6_bring_291 : decode cX6_bring 291 = .ok (.aload_n 0, 1) := by decide +kernel
theorem dX6_bring_292 : decode cX6_bring 292 = .ok (.getfield 29, 3) := by decide +kernel
theorem dX6_bring_295 : decode cX6_bring 295 = .ok (.iload 13, 2) := by decide +kernel
theorem dX6_bring_297 : decode cX6_bring 297 = .ok (.baload, 1) := by decide +kernel
theorem dX6_bring_298 : decode cX6_bring 298 = .ok (.ifCond .eq 13, 3) := by decide +kernel
theorem dX6_bring_301 : decode cX6_bring 301 = .ok (.aload_n 0, 1) := by decide +kernel
theorem dX6_bring_302 : decode cX6_bring 302 = .ok (.getfield 26, 3) := by decide +kernel
theorem dX6_bring_305 : decode cX6_bring 305 = .ok (.iload 13, 2) := by decide +kernel
end
section
theorem dX6_bring_307 : decode cX6_bring 307 = .ok (.iaload, 1) := by decide +kernel
theorem dX6_bring_308 : decode cX6_bring 308 = .ok (.goto 17, 3) := by decide +kernel
theorem dX6_bring_311 : decode cX6_bring 311 = .ok (.aload_n 0, 1) := by decide +kernel
theorem dX6_bring_312 : decode cX6_bring 312 = .ok (.getfield 23, 3) := by decide +kernel
theorem dX6_bring_315 : decode cX6_bring 315 = .ok (.sipush 4096, 3) := by decide +kernel
theorem dX6_bring_318 : decode cX6_bring 318 = .ok (.iload 6, 2) := by decide +kernel
theorem dX6_bring_320 : decode cX6_bring 320 = .ok (.imul, 1) := by decide +kernel
theorem dX6_bring_321 : decode cX6_bring 321 = .ok (.iload 13, 2) := by decide +kernel
theorem dX6_bring_323 : decode cX6_bring 323 = .ok (.iadd, 1) := by decide +kernel
theorem dX6_bring_324 : decode cX6_bring 324 = .ok (.iaload, 1) := by decide +kernel
theorem dX6_bring_325 : decode cX6_bring 325 = .ok (.iastore, 1) := by decide +kernel
theorem dX6_bring_326 : decode cX6_bring 326 = .ok (.iinc 13 1, 3) := by decide +kernel
theorem dX6_bring_329 : decode cX6_bring 329 = .ok (.goto (-59), 3) := by decide +kernel
theorem dX6_bring_332 : decode cX6_bring 332 = .ok (.iload 12, 2) := by decide +kernel
theorem dX6_bring_334 : decode cX6_bring 334 = .ok (.ireturn, 1) := by decide +kernel
set_option maxRecDepth 100000 in
theorem ggX6_areAlike_X6_isSurface : GoodIn wsX6_areAlike wsX6_isSurface := goodIn_r _ [6, 7, 11, 12, 13, 14, 15, 16, 17, 18, 19, 20, 21, 22, 23, 24, 25, 26] rfl (by decide +kernel)
set_option maxRecDepth 20000 in
theorem gX6_areAlike_X6_isSurface : GoodIn wsX6_areAlike (wsV RX6 59 RX6 yX6_isSurface wsX6_isSurface) := goodIn_app (goodIn_of _ (by decide +kernel)) ggX6_areAlike_X6_isSurface
set_option maxRecDepth 100000 in
theorem ggX6_areAlike_X6_isSpan : GoodIn wsX6_areAlike wsX6_isSpan := goodIn_r _ [10] rfl (by decide +kernel)
set_option maxRecDepth 20000 in
theorem gX6_areAlike_X6_isSpan : GoodIn wsX6_areAlike (va_wsS RX6 63 yX6_isSpan wsX6_isSpan) := goodIn_app (goodIn_of _ (by decide +kernel)) ggX6_areAlike_X6_isSpan
theorem dX6_areAlike_0 : decode cX6_areAlike 0 = .ok (.aload_n 0, 1) := by decide +kernel
theorem dX6_areAlike_1 : decode cX6_areAlike 1 = .ok (.iload_n 1, 1) := by decide +kernel
theorem dX6_areAlike_2 : decode cX6_areAlike 2 = .ok (.invokevirtual 59, 3) := by decide +kernel
theorem dX6_areAlike_5 : decode cX6_areAlike 5 = .ok (.ifCond .eq 45, 3) := by decide +kernel
theorem dX6_areAlike_8 : decode cX6_areAlike 8 = .ok (.aload_n 0, 1) := by decide +kernel
theorem dX6_areAlike_9 : decode cX6_areAlike 9 = .ok (.iload_n 2, 1) := by decide +kernel
theorem dX6_areAlike_10 : decode cX6_areAlike 10 = .ok (.invokevirtual 59, 3) := by decide +kernel
theorem dX6_areAlike_13 : decode cX6_areAlike 13 = .ok (.ifCond .eq 37, 3) := by decide +kernel
theorem dX6_areAlike_16 : decode cX6_areAlike 16 = .ok (.iload_n 3, 1) := by decide +kernel
theorem dX6_areAlike_17 : decode cX6_areAlike 17 = .ok (.invokestatic 63, 3) := by decide +kernel
theorem dX6_areAlike_20 : decode cX6_areAlike 20 = .ok (.ifCond .eq 30, 3) := by decide +kernel
theorem dX6_areAlike_23 : decode cX6_areAlike 23 = .ok (.iload 4, 2) := by decide +kernel
theorem dX6_areAlike_25 : decode cX6_areAlike 25 = .ok (.invokestatic 63, 3) := by decide +kernel
theorem dX6_areAlike_28 : decode cX6_areAlike 28 = .ok (.ifCond .eq 22, 3) := by decide +kernel
theorem dX6_areAlike_31 : decode cX6_areAlike 31 = .ok (.aload_n 0, 1) := by decide +kernel
theorem dX6_areAlike_32 : decode cX6_areAlike 32 = .ok (.getfield 7, 3) := by decide +kernel
theorem dX6_areAlike_35 : decode cX6_areAlike 35 = .ok (.iload_n 1, 1) := by decide +kernel
theorem dX6_areAlike_36 : decode cX6_areAlike 36 = .ok (.iaload, 1) := by decide +kernel
theorem dX6_areAlike_37 : decode cX6_areAlike 37 = .ok (.aload_n 0, 1) := by decide +kernel
theorem dX6_areAlike_38 : decode cX6_areAlike 38 = .ok (.getfield 7, 3) := by decide +kernel
theorem dX6_areAlike_41 : decode cX6_areAlike 41 = .ok (.iload_n 2, 1) := by decide +kernel
theorem dX6_areAlike_42 : decode cX6_areAlike 42 = .ok (.iaload, 1) := by decide +kernel
theorem dX6_areAlike_43 : decode cX6_areAlike 43 = .ok (.if_icmp .ne 7, 3) := by decide +kernel
theorem dX6_areAlike_46 : decode cX6_areAlike 46 = .ok (.iconst 1, 1) := by decide +kernel
theorem dX6_areAlike_47 : decode cX6_areAlike 47 = .ok (.goto 4, 3) := by decide +kernel
theorem dX6_areAlike_50 : decode cX6_areAlike 50 = .ok (.iconst 0, 1) := by decide +kernel
theorem dX6_areAlike_51 : decode cX6_areAlike 51 = .ok (.ireturn, 1) := by decide +kernel
set_option maxRecDepth 100000 in
theorem ggX6_copy_X6_areAlike : GoodIn wsX6_copy wsX6_areAlike := goodIn_r _ [5, 6, 7, 8, 9, 4, 10, 11, 12, 13, 14, 44, 45, 46, 47, 48, 49, 50, 51, 52, 53, 54, 55, 56, 57, 58, 59] rfl (by decide +kernel)
set_option maxRecDepth 20000 in
theorem gX6_copy_X6_areAlike : GoodIn wsX6_copy (wsV RX6 89 RX6 yX6_areAlike wsX6_areAlike) := goodIn_app (goodIn_of _ (by decide +kernel)) ggX6_copy_X6_areAlike
set_option maxRecDepth 100000 in
theorem ggX6_copy_X6_bring : GoodIn wsX6_copy wsX6_bring := goodIn_r _ [18, 19, 20, 21, 22, 23, 24, 4, 25, 26, 27, 28, 29, 30, 31, 32, 33, 34, 35, 36, 37, 38, 39, 40, 41, 42, 43, 6, 44, 45, 46, 47, 48, 49, 50, 51, 52, 53, 54, 55, 56, 57, 58, 59] rfl (by decide +kernel)
set_option maxRecDepth 20000 in
theorem gX6_copy_X6_bring : GoodIn wsX6_copy (wsV RX6 93 RX6 yX6_bring wsX6_bring) := goodIn_app (goodIn_of _ (by decide +kernel)) ggX6_copy_X6_bring
theorem dX6_copy_0 : decode cX6_copy 0 = .ok (.aload_n 0, 1) := by decide +kernel
theorem dX6_copy_1 : decode cX6_copy 1 = .ok (.iload_n 1, 1) := by decide +kernel
theorem dX6_copy_2 : decode cX6_copy 2 = .ok (.iload 6, 2) := by decide +kernel
theorem dX6_copy_4 : decode cX6_copy 4 = .ok (.iload 4, 2) := by decide +kernel
theorem dX6_copy_6 : decode cX6_copy 6 = .ok (.iload 5, 2) := by decide +kernel
theorem dX6_copy_8 : decode cX6_copy 8 = .ok (.invokevirtual 89, 3) := by decide +kernel
theorem dX6_copy_11 : decode cX6_copy 11 = .ok (.ifCond .eq 19, 3) := by decide +kernel
theorem dX6_copy_14 : decode cX6_copy 14 = .ok (.iload 9, 2) := by decide +kernel
theorem dX6_copy_16 : decode cX6_copy 16 = .ok (.ifCond .lt 14, 3) := by decide +kernel
theorem dX6_copy_19 : decode cX6_copy 19 = .ok (.iload 9, 2) := by decide +kernel
theorem dX6_copy_21 : decode cX6_copy 21 = .ok (.bipush 16, 2) := by decide +kernel
theorem dX6_copy_23 : decode cX6_copy 23 = .ok (.if_icmp .ge 7, 3) := by decide +kernel
theorem dX6_copy_26 : decode cX6_copy 26 = .ok (.iconst 1, 1) := by decide +kernel
theorem dX6_copy_27 : decode cX6_copy 27 = .ok (.goto 4, 3) := by decide +kernel
theorem dX6_copy_30 : decode cX6_copy 30 = .ok (.iconst 0, 1) := by decide +kernel
theorem dX6_copy_31 : decode cX6_copy 31 = .ok (.istore 10, 2) := by decide +kernel
theorem dX6_copy_33 : decode cX6_copy 33 = .ok (.iload 10, 2) := by decide +kernel
theorem dX6_copy_35 : decode cX6_copy 35 = .ok (.ifCond .eq 27, 3) := by decide +kernel
theorem dX6_copy_38 : decode cX6_copy 38 = .ok (.aload_n 0, 1) := by decide +kernel
theorem dX6_copy_39 : decode cX6_copy 39 = .ok (.iload_n 1, 1) := by decide +kernel
theorem dX6_copy_40 : decode cX6_copy 40 = .ok (.iload_n 2, 1) := by decide +kernel
theorem dX6_copy_41 : decode cX6_copy 41 = .ok (.iload_n 3, 1) := by decide +kernel
theorem dX6_copy_42 : decode cX6_copy 42 = .ok (.iload 4, 2) := by decide +kernel
theorem dX6_copy_44 : decode cX6_copy 44 = .ok (.iload 5, 2) := by decide +kernel
theorem dX6_copy_46 : decode cX6_copy 46 = .ok (.iload 6, 2) := by decide +kernel
theorem dX6_copy_48 : decode cX6_copy 48 = .ok (.iload 7, 2) := by decide +kernel
theorem dX6_copy_50 : decode cX6_copy 50 = .ok (.iload 8, 2) := by decide +kernel
theorem dX6_copy_52 : decode cX6_copy 52 = .ok (.iconst 0, 1) := by decide +kernel
theorem dX6_copy_53 : decode cX6_copy 53 = .ok (.iload 9, 2) := by decide +kernel
theorem dX6_copy_55 : decode cX6_copy 55 = .ok (.iconst 0, 1) := by decide +kernel
theorem dX6_copy_56 : decode cX6_copy 56 = .ok (.invokevirtual 93, 3) := by decide +kernel
theorem dX6_copy_59 : decode cX6_copy 59 = .ok (.goto 4, 3) := by decide +kernel
theorem dX6_copy_62 : decode cX6_copy 62 = .ok (.iconst (-1), 1) := by decide +kernel
theorem dX6_copy_63 : decode cX6_copy 63 = .ok (.ireturn, 1) := by decide +kernel
set_option maxRecDepth 100000 in
theorem ggX6_keyed_X6_areAlike : GoodIn wsX6_keyed wsX6_areAlike := goodIn_r _ [5, 6, 7, 8, 9, 4, 10, 11, 12, 13, 14, 48, 49, 50, 51, 52, 53, 54, 55, 56, 57, 58, 59, 60, 61, 62, 63] rfl (by decide +kernel)
set_option maxRecDepth 20000 in
theorem gX6_keyed_X6_areAlike : GoodIn wsX6_keyed (wsV RX6 89 RX6 yX6_areAlike wsX6_areAlike) := goodIn_app (goodIn_of _ (by decide +kernel)) ggX6_keyed_X6_areAlike
set_option maxRecDepth 100000 in
theorem ggX6_keyed_X6_fits : GoodIn wsX6_keyed wsX6_fits := goodIn_r _ [18, 6, 48, 49, 50, 51, 52, 53, 54, 55, 56, 57, 58, 59, 60, 61, 62, 63] rfl (by decide +kernel)
set_option maxRecDepth 20000 in
theorem gX6_keyed_X6_fits : GoodIn wsX6_keyed (wsV RX6 70 RX6 yX6_fits wsX6_fits) := goodIn_app (goodIn_of _ (by decide +kernel)) ggX6_keyed_X6_fits
set_option maxRecDepth 100000 in
theorem ggX6_keyed_X6_bring : GoodIn wsX6_keyed wsX6_bring := goodIn_r _ [22, 23, 24, 25, 26, 27, 28, 4, 29, 30, 31, 32, 33, 34, 35, 36, 37, 38, 39, 40, 41, 42, 43, 44, 45, 46, 47, 6, 48, 49, 50, 51, 52, 53, 54, 55, 56, 57, 58, 59, 60, 61, 62, 63] rfl (by decide +kernel)
set_option maxRecDepth 20000 in
theorem gX6_keyed_X6_bring : GoodIn wsX6_keyed (wsV RX6 93 RX6 yX6_bring wsX6_bring) := goodIn_app (goodIn_of _ (by decide +kernel)) ggX6_keyed_X6_bring
theorem dX6_keyed_0 : decode cX6_keyed 0 = .ok (.aload_n 0, 1) := by decide +kernel
theorem dX6_keyed_1 : decode cX6_keyed 1 = .ok (.iload_n 1, 1) := by decide +kernel
theorem dX6_keyed_2 : decode cX6_keyed 2 = .ok (.iload 6, 2) := by decide +kernel
theorem dX6_keyed_4 : decode cX6_keyed 4 = .ok (.iload 4, 2) := by decide +kernel
theorem dX6_keyed_6 : decode cX6_keyed 6 = .ok (.iload 5, 2) := by decide +kernel
theorem dX6_keyed_8 : decode cX6_keyed 8 = .ok (.invokevirtual 89, 3) := by decide +kernel
theorem dX6_keyed_11 : decode cX6_keyed 11 = .ok (.ifCond .eq 17, 3) := by decide +kernel
theorem dX6_keyed_14 : decode cX6_keyed 14 = .ok (.aload_n 0, 1) := by decide +kernel
theorem dX6_keyed_15 : decode cX6_keyed 15 = .ok (.iload_n 1, 1) := by decide +kernel
theorem dX6_keyed_16 : decode cX6_keyed 16 = .ok (.iload 9, 2) := by decide +kernel
theorem dX6_keyed_18 : decode cX6_keyed 18 = .ok (.invokevirtual 70, 3) := by decide +kernel
theorem dX6_keyed_21 : decode cX6_keyed 21 = .ok (.ifCond .eq 7, 3) := by decide +kernel
theorem dX6_keyed_24 : decode cX6_keyed 24 = .ok (.iconst 1, 1) := by decide +kernel
theorem dX6_keyed_25 : decode cX6_keyed 25 = .ok (.goto 4, 3) := by decide +kernel
theorem dX6_keyed_28 : decode cX6_keyed 28 = .ok (.iconst 0, 1) := by decide +kernel
theorem dX6_keyed_29 : decode cX6_keyed 29 = .ok (.istore 10, 2) := by decide +kernel
theorem dX6_keyed_31 : decode cX6_keyed 31 = .ok (.iload 10, 2) := by decide +kernel
theorem dX6_keyed_33 : decode cX6_keyed 33 = .ok (.ifCond .eq 27, 3) := by decide +kernel
theorem dX6_keyed_36 : decode cX6_keyed 36 = .ok (.aload_n 0, 1) := by decide +kernel
theorem dX6_keyed_37 : decode cX6_keyed 37 = .ok (.iload_n 1, 1) := by decide +kernel
theorem dX6_keyed_38 : decode cX6_keyed 38 = .ok (.iload_n 2, 1) := by decide +kernel
theorem dX6_keyed_39 : decode cX6_keyed 39 = .ok (.iload_n 3, 1) := by decide +kernel
theorem dX6_keyed_40 : decode cX6_keyed 40 = .ok (.iload 4, 2) := by decide +kernel
theorem dX6_keyed_42 : decode cX6_keyed 42 = .ok (.iload 5, 2) := by decide +kernel
theorem dX6_keyed_44 : decode cX6_keyed 44 = .ok (.iload 6, 2) := by decide +kernel
theorem dX6_keyed_46 : decode cX6_keyed 46 = .ok (.iload 7, 2) := by decide +kernel
theorem dX6_keyed_48 : decode cX6_keyed 48 = .ok (.iload 8, 2) := by decide +kernel
theorem dX6_keyed_50 : decode cX6_keyed 50 = .ok (.iconst 1, 1) := by decide +kernel
theorem dX6_keyed_51 : decode cX6_keyed 51 = .ok (.iload 9, 2) := by decide +kernel
theorem dX6_keyed_53 : decode cX6_keyed 53 = .ok (.iconst 0, 1) := by decide +kernel
theorem dX6_keyed_54 : decode cX6_keyed 54 = .ok (.invokevirtual 93, 3) := by decide +kernel
theorem dX6_keyed_57 : decode cX6_keyed 57 = .ok (.goto 4, 3) := by decide +kernel
theorem dX6_keyed_60 : decode cX6_keyed 60 = .ok (.iconst (-1), 1) := by decide +kernel
theorem dX6_keyed_61 : decode cX6_keyed 61 = .ok (.ireturn, 1) := by decide +kernel
set_option maxRecDepth 100000 in
theorem ggX6_masked_X6_areAlike : GoodIn wsX6_masked wsX6_areAlike := goodIn_r _ [6, 1, 7, 8, 9, 5, 10, 11, 12, 13, 14, 44, 45, 46, 47, 48, 49, 50, 51, 52, 53, 54, 55, 56, 57, 58, 59] rfl (by decide +kernel)
set_option maxRecDepth 20000 in
theorem gX6_masked_X6_areAlike : GoodIn wsX6_masked (wsV RX6 89 RX6 yX6_areAlike wsX6_areAlike) := goodIn_app (goodIn_of _ (by decide +kernel)) ggX6_masked_X6_areAlike
set_option maxRecDepth 100000 in
theorem ggX6_masked_X6_isSurface : GoodIn wsX6_masked wsX6_isSurface := goodIn_r _ [10, 11, 44, 45, 46, 47, 48, 49, 50, 51, 52, 53, 54, 55, 56, 57, 58, 59] rfl (by decide +kernel)
set_option maxRecDepth 20000 in
theorem gX6_masked_X6_isSurface : GoodIn wsX6_masked (wsV RX6 59 RX6 yX6_isSurface wsX6_isSurface) := goodIn_app (goodIn_of _ (by decide +kernel)) ggX6_masked_X6_isSurface
set_option maxRecDepth 100000 in
theorem ggX6_masked_X6_bring : GoodIn wsX6_masked wsX6_bring := goodIn_r _ [18, 19, 20, 21, 22, 23, 24, 5, 25, 26, 27, 28, 29, 30, 31, 32, 33, 34, 35, 36, 37, 38, 39, 40, 41, 42, 43, 1, 44, 45, 46, 47, 48, 49, 50, 51, 52, 53, 54, 55, 56, 57, 58, 59] rfl (by decide +kernel)
set_option maxRecDepth 20000 in
theorem gX6_masked_X6_bring : GoodIn wsX6_masked (wsV RX6 93 RX6 yX6_bring wsX6_bring) := goodIn_app (goodIn_of _ (by decide +kernel)) ggX6_masked_X6_bring
theorem dX6_masked_0 : decode cX6_masked 0 = .ok (.aload_n 0, 1) := by decide +kernel
theorem dX6_masked_1 : decode cX6_masked 1 = .ok (.iload_n 1, 1) := by decide +kernel
theorem dX6_masked_2 : decode cX6_masked 2 = .ok (.iload 6, 2) := by decide +kernel
theorem dX6_masked_4 : decode cX6_masked 4 = .ok (.iload 4, 2) := by decide +kernel
theorem dX6_masked_6 : decode cX6_masked 6 = .ok (.iload 5, 2) := by decide +kernel
theorem dX6_masked_8 : decode cX6_masked 8 = .ok (.invokevirtual 89, 3) := by decide +kernel
theorem dX6_masked_11 : decode cX6_masked 11 = .ok (.ifCond .eq 27, 3) := by decide +kernel
theorem dX6_masked_14 : decode cX6_masked 14 = .ok (.aload_n 0, 1) := by decide +kernel
theorem dX6_masked_15 : decode cX6_masked 15 = .ok (.iload 9, 2) := by decide +kernel
theorem dX6_masked_17 : decode cX6_masked 17 = .ok (.invokevirtual 59, 3) := by decide +kernel
theorem dX6_masked_20 : decode cX6_masked 20 = .ok (.ifCond .eq 18, 3) := by decide +kernel
theorem dX6_masked_23 : decode cX6_masked 23 = .ok (.aload_n 0, 1) := by decide +kernel
theorem dX6_masked_24 : decode cX6_masked 24 = .ok (.getfield 7, 3) := by decide +kernel
theorem dX6_masked_27 : decode cX6_masked 27 = .ok (.iload 9, 2) := by decide +kernel
theorem dX6_masked_29 : decode cX6_masked 29 = .ok (.iaload, 1) := by decide +kernel
theorem dX6_masked_30 : decode cX6_masked 30 = .ok (.iconst 1, 1) := by decide +kernel
theorem dX6_masked_31 : decode cX6_masked 31 = .ok (.if_icmp .ne 7, 3) := by decide +kernel
theorem dX6_masked_34 : decode cX6_masked 34 = .ok (.iconst 1, 1) := by decide +kernel
theorem dX6_masked_35 : decode cX6_masked 35 = .ok (.goto 4, 3) := by decide +kernel
theorem dX6_masked_38 : decode cX6_masked 38 = .ok (.iconst 0, 1) := by decide +kernel
theorem dX6_masked_39 : decode cX6_masked 39 = .ok (.istore 10, 2) := by decide +kernel
theorem dX6_masked_41 : decode cX6_masked 41 = .ok (.iload 10, 2) := by decide +kernel
theorem dX6_masked_43 : decode cX6_masked 43 = .ok (.ifCond .eq 27, 3) := by decide +kernel
theorem dX6_masked_46 : decode cX6_masked 46 = .ok (.aload_n 0, 1) := by decide +kernel
theorem dX6_masked_47 : decode cX6_masked 47 = .ok (.iload_n 1, 1) := by decide +kernel
theorem dX6_masked_48 : decode cX6_masked 48 = .ok (.iload_n 2, 1) := by decide +kernel
theorem dX6_masked_49 : decode cX6_masked 49 = .ok (.iload_n 3, 1) := by decide +kernel
theorem dX6_masked_50 : decode cX6_masked 50 = .ok (.iload 4, 2) := by decide +kernel
theorem dX6_masked_52 : decode cX6_masked 52 = .ok (.iload 5, 2) := by decide +kernel
theorem dX6_masked_54 : decode cX6_masked 54 = .ok (.iload 6, 2) := by decide +kernel
theorem dX6_masked_56 : decode cX6_masked 56 = .ok (.iload 7, 2) := by decide +kernel
theorem dX6_masked_58 : decode cX6_masked 58 = .ok (.iload 8, 2) := by decide +kernel
theorem dX6_masked_60 : decode cX6_masked 60 = .ok (.iconst 2, 1) := by decide +kernel
theorem dX6_masked_61 : decode cX6_masked 61 = .ok (.iload 9, 2) := by decide +kernel
theorem dX6_masked_63 : decode cX6_masked 63 = .ok (.iconst 0, 1) := by decide +kernel
theorem dX6_masked_64 : decode cX6_masked 64 = .ok (.invokevirtual 93, 3) := by decide +kernel
theorem dX6_masked_67 : decode cX6_masked 67 = .ok (.goto 4, 3) := by decide +kernel
theorem dX6_masked_70 : decode cX6_masked 70 = .ok (.iconst (-1), 1) := by decide +kernel
theorem dX6_masked_71 : decode cX6_masked 71 = .ok (.ireturn, 1) := by decide +kernel
set_option maxRecDepth 100000 in
theorem ggX6_spread_X6_isSurface : GoodIn wsX6_spread wsX6_isSurface := goodIn_r _ [6, 7, 44, 45, 46, 47, 48, 49, 50, 51, 52, 53, 54, 55, 56, 57, 58, 59] rfl (by decide +kernel)
set_option maxRecDepth 20000 in
theorem gX6_spread_X6_isSurface : GoodIn wsX6_spread (wsV RX6 59 RX6 yX6_isSurface wsX6_isSurface) := goodIn_app (goodIn_of _ (by decide +kernel)) ggX6_spread_X6_isSurface
set_option maxRecDepth 100000 in
theorem ggX6_spread_X6_isSpan : GoodIn wsX6_spread wsX6_isSpan := goodIn_r _ [10] rfl (by decide +kernel)
set_option maxRecDepth 20000 in
theorem gX6_spread_X6_isSpan : GoodIn wsX6_spread (va_wsS RX6 63 yX6_isSpan wsX6_isSpan) := goodIn_app (goodIn_of _ (by decide +kernel)) ggX6_spread_X6_isSpan
set_option maxRecDepth 100000 in
theorem ggX6_spread_X6_fits : GoodIn wsX6_spread wsX6_fits := goodIn_r _ [14, 1, 44, 45, 46, 47, 48, 49, 50, 51, 52, 53, 54, 55, 56, 57, 58, 59] rfl (by decide +kernel)
set_option maxRecDepth 20000 in
theorem gX6_spread_X6_fits : GoodIn wsX6_spread (wsV RX6 70 RX6 yX6_fits wsX6_fits) := goodIn_app (goodIn_of _ (by decide +kernel)) ggX6_spread_X6_fits
set_option maxRecDepth 100000 in
theorem ggX6_spread_X6_bring : GoodIn wsX6_spread wsX6_bring := goodIn_r _ [18, 19, 20, 21, 22, 23, 24, 5, 25, 26, 27, 28, 29, 30, 31, 32, 33, 34, 35, 36, 37, 38, 39, 40, 41, 42, 43, 1, 44, 45, 46, 47, 48, 49, 50, 51, 52, 53, 54, 55, 56, 57, 58, 59] rfl (by decide +kernel)
set_option maxRecDepth 20000 in
theorem gX6_spread_X6_bring : GoodIn wsX6_spread (wsV RX6 93 RX6 yX6_bring wsX6_bring) := goodIn_app (goodIn_of _ (by decide +kernel)) ggX6_spread_X6_bring
theorem dX6_spread_0 : decode cX6_spread 0 = .ok (.aload_n 0, 1) := by decide +kernel
theorem dX6_spread_1 : decode cX6_spread 1 = .ok (.iload_n 1, 1) := by decide +kernel
theorem dX6_spread_2 : decode cX6_spread 2 = .ok (.invokevirtual 59, 3) := by decide +kernel
theorem dX6_spread_5 : decode cX6_spread 5 = .ok (.ifCond .eq 64, 3) := by decide +kernel
theorem dX6_spread_8 : decode cX6_spread 8 = .ok (.aload_n 0, 1) := by decide +kernel
theorem dX6_spread_9 : decode cX6_spread 9 = .ok (.getfield 7, 3) := by decide +kernel
theorem dX6_spread_12 : decode cX6_spread 12 = .ok (.iload_n 1, 1) := by decide +kernel
theorem dX6_spread_13 : decode cX6_spread 13 = .ok (.iaload, 1) := by decide +kernel
theorem dX6_spread_14 : decode cX6_spread 14 = .ok (.iconst 1, 1) := by decide +kernel
theorem dX6_spread_15 : decode cX6_spread 15 = .ok (.if_icmp .ne 54, 3) := by decide +kernel
theorem dX6_spread_18 : decode cX6_spread 18 = .ok (.aload_n 0, 1) := by decide +kernel
theorem dX6_spread_19 : decode cX6_spread 19 = .ok (.iload 6, 2) := by decide +kernel
theorem dX6_spread_21 : decode cX6_spread 21 = .ok (.invokevirtual 59, 3) := by decide +kernel
theorem dX6_spread_24 : decode cX6_spread 24 = .ok (.ifCond .eq 45, 3) := by decide +kernel
theorem dX6_spread_27 : decode cX6_spread 27 = .ok (.iload 4, 2) := by decide +kernel
theorem dX6_spread_29 : decode cX6_spread 29 = .ok (.invokestatic 63, 3) := by decide +kernel
theorem dX6_spread_32 : decode cX6_spread 32 = .ok (.ifCond .eq 37, 3) := by decide +kernel
theorem dX6_spread_35 : decode cX6_spread 35 = .ok (.iload 5, 2) := by decide +kernel
theorem dX6_spread_37 : decode cX6_spread 37 = .ok (.invokestatic 63, 3) := by decide +kernel
theorem dX6_spread_40 : decode cX6_spread 40 = .ok (.ifCond .eq 29, 3) := by decide +kernel
theorem dX6_spread_43 : decode cX6_spread 43 = .ok (.aload_n 0, 1) := by decide +kernel
theorem dX6_spread_44 : decode cX6_spread 44 = .ok (.iload 6, 2) := by decide +kernel
theorem dX6_spread_46 : decode cX6_spread 46 = .ok (.iload 9, 2) := by decide +kernel
theorem dX6_spread_48 : decode cX6_spread 48 = .ok (.invokevirtual 70, 3) := by decide +kernel
theorem dX6_spread_51 : decode cX6_spread 51 = .ok (.ifCond .eq 18, 3) := by decide +kernel
theorem dX6_spread_54 : decode cX6_spread 54 = .ok (.aload_n 0, 1) := by decide +kernel
theorem dX6_spread_55 : decode cX6_spread 55 = .ok (.iload 6, 2) := by decide +kernel
theorem dX6_spread_57 : decode cX6_spread 57 = .ok (.iload 10, 2) := by decide +kernel
theorem dX6_spread_59 : decode cX6_spread 59 = .ok (.invokevirtual 70, 3) := by decide +kernel
theorem dX6_spread_62 : decode cX6_spread 62 = .ok (.ifCond .eq 7, 3) := by decide +kernel
theorem dX6_spread_65 : decode cX6_spread 65 = .ok (.iconst 1, 1) := by decide +kernel
theorem dX6_spread_66 : decode cX6_spread 66 = .ok (.goto 4, 3) := by decide +kernel
theorem dX6_spread_69 : decode cX6_spread 69 = .ok (.iconst 0, 1) := by decide +kernel
theorem dX6_spread_70 : decode cX6_spread 70 = .ok (.istore 11, 2) := by decide +kernel
theorem dX6_spread_72 : decode cX6_spread 72 = .ok (.iload 11, 2) := by decide +kernel
theorem dX6_spread_74 : decode cX6_spread 74 = .ok (.ifCond .eq 28, 3) := by decide +kernel
theorem dX6_spread_77 : decode cX6_spread 77 = .ok (.aload_n 0, 1) := by decide +kernel
theorem dX6_spread_78 : decode cX6_spread 78 = .ok (.iload_n 1, 1) := by decide +kernel
theorem dX6_spread_79 : decode cX6_spread 79 = .ok (.iload_n 2, 1) := by decide +kernel
theorem dX6_spread_80 : decode cX6_spread 80 = .ok (.iload_n 3, 1) := by decide +kernel
theorem dX6_spread_81 : decode cX6_spread 81 = .ok (.iload 4, 2) := by decide +kernel
theorem dX6_spread_83 : decode cX6_spread 83 = .ok (.iload 5, 2) := by decide +kernel
theorem dX6_spread_85 : decode cX6_spread 85 = .ok (.iload 6, 2) := by decide +kernel
theorem dX6_spread_87 : decode cX6_spread 87 = .ok (.iload 7, 2) := by decide +kernel
theorem dX6_spread_89 : decode cX6_spread 89 = .ok (.iload 8, 2) := by decide +kernel
theorem dX6_spread_91 : decode cX6_spread 91 = .ok (.iconst 3, 1) := by decide +kernel
theorem dX6_spread_92 : decode cX6_spread 92 = .ok (.iload 9, 2) := by decide +kernel
theorem dX6_spread_94 : decode cX6_spread 94 = .ok (.iload 10, 2) := by decide +kernel
theorem dX6_spread_96 : decode cX6_spread 96 = .ok (.invokevirtual 93, 3) := by decide +kernel
theorem dX6_spread_99 : decode cX6_spread 99 = .ok (.goto 4, 3) := by decide +kernel
theorem dX6_spread_102 : decode cX6_spread 102 = .ok (.iconst (-1), 1) := by decide +kernel
theorem dX6_spread_103 : decode cX6_spread 103 = .ok (.ireturn, 1) := by decide +kernel
set_option maxRecDepth 100000 in
theorem ggX6_turn_X6_isSurface : GoodIn wsX6_turn wsX6_isSurface := goodIn_r _ [9, 10, 19, 20, 21, 22, 23, 24, 25, 26, 27, 28, 29, 30, 31, 32, 33, 34] rfl (by decide +kernel)
set_option maxRecDepth 20000 in
theorem gX6_turn_X6_isSurface : GoodIn wsX6_turn (wsV RX6 59 RX6 yX6_isSurface wsX6_isSurface) := goodIn_app (goodIn_of _ (by decide +kernel)) ggX6_turn_X6_isSurface
set_option maxRecDepth 100000 in
theorem ggX6_turn_X6_dot : GoodIn wsX6_turn wsX6_dot := goodIn_r _ [14, 4, 15, 16, 17, 8, 18, 2, 1, 19, 20, 21, 22, 23, 24, 25, 26, 27, 28, 29, 30, 31, 32, 33, 34] rfl (by decide +kernel)
set_option maxRecDepth 20000 in
theorem gX6_turn_X6_dot : GoodIn wsX6_turn (wsV RX6 74 RX6 yX6_dot wsX6_dot) := goodIn_app (goodIn_of _ (by decide +kernel)) ggX6_turn_X6_dot
theorem dX6_turn_0 : decode cX6_turn 0 = .ok (.aload_n 0, 1) := by decide +kernel
theorem dX6_turn_1 : decode cX6_turn 1 = .ok (.iload_n 1, 1) := by decide +kernel
theorem dX6_turn_2 : decode cX6_turn 2 = .ok (.invokevirtual 59, 3) := by decide +kernel
theorem dX6_turn_5 : decode cX6_turn 5 = .ok (.ifCond .eq 12, 3) := by decide +kernel
theorem dX6_turn_8 : decode cX6_turn 8 = .ok (.iload_n 2, 1) := by decide +kernel
theorem dX6_turn_9 : decode cX6_turn 9 = .ok (.ifCond .lt 8, 3) := by decide +kernel
theorem dX6_turn_12 : decode cX6_turn 12 = .ok (.iload_n 2, 1) := by decide +kernel
theorem dX6_turn_13 : decode cX6_turn 13 = .ok (.iconst 1, 1) := by decide +kernel
theorem dX6_turn_14 : decode cX6_turn 14 = .ok (.if_icmp .le 5, 3) := by decide +kernel
theorem dX6_turn_17 : decode cX6_turn 17 = .ok (.iconst 0, 1) := by decide +kernel
theorem dX6_turn_18 : decode cX6_turn 18 = .ok (.ireturn, 1) := by decide +kernel
theorem dX6_turn_19 : decode cX6_turn 19 = .ok (.iconst 0, 1) := by decide +kernel
theorem dX6_turn_20 : decode cX6_turn 20 = .ok (.istore_n 3, 1) := by decide +kernel
theorem dX6_turn_21 : decode cX6_turn 21 = .ok (.iload_n 3, 1) := by decide +kernel
theorem dX6_turn_22 : decode cX6_turn 22 = .ok (.aload_n 0, 1) := by decide +kernel
theorem dX6_turn_23 : decode cX6_turn 23 = .ok (.getfield 16, 3) := by decide +kernel
theorem dX6_turn_26 : decode cX6_turn 26 = .ok (.iload_n 1, 1) := by decide +kernel
theorem dX6_turn_27 : decode cX6_turn 27 = .ok (.iaload, 1) := by decide +kernel
theorem dX6_turn_28 : decode cX6_turn 28 = .ok (.if_icmp .ge 86, 3) := by decide +kernel
theorem dX6_turn_31 : decode cX6_turn 31 = .ok (.iconst 0, 1) := by decide +kernel
theorem dX6_turn_32 : decode cX6_turn 32 = .ok (.istore 4, 2) := by decide +kernel
theorem dX6_turn_34 : decode cX6_turn 34 = .ok (.iload 4, 2) := by decide +kernel
theorem dX6_turn_36 : decode cX6_turn 36 = .ok (.aload_n 0, 1) := by decide +kernel
theorem dX6_turn_37 : decode cX6_turn 37 = .ok (.getfield 13, 3) := by decide +kernel
theorem dX6_turn_40 : decode cX6_turn 40 = .ok (.iload_n 1, 1) := by decide +kernel
theorem dX6_turn_41 : decode cX6_turn 41 = .ok (.iaload, 1) := by decide +kernel
theorem dX6_turn_42 : decode cX6_turn 42 = .ok (.if_icmp .ge 66, 3) := by decide +kernel
theorem dX6_turn_45 : decode cX6_turn 45 = .ok (.aload_n 0, 1) := by decide +kernel
theorem dX6_turn_46 : decode cX6_turn 46 = .ok (.getfield 26, 3) := by decide +kernel
theorem dX6_turn_49 : decode cX6_turn 49 = .ok (.bipush 64, 2) := by decide +kernel
theorem dX6_turn_51 : decode cX6_turn 51 = .ok (.iload_n 3, 1) := by decide +kernel
theorem dX6_turn_52 : decode cX6_turn 52 = .ok (.imul, 1) := by decide +kernel
theorem dX6_turn_53 : decode cX6_turn 53 = .ok (.iload 4, 2) := by decide +kernel
theorem dX6_turn_55 : decode cX6_turn 55 = .ok (.iadd, 1) := by decide +kernel
theorem dX6_turn_56 : decode cX6_turn 56 = .ok (.iload_n 2, 1) := by decide +kernel
theorem dX6_turn_57 : decode cX6_turn 57 = .ok (.ifCond .ne 25, 3) := by decide +kernel
theorem dX6_turn_60 : decode cX6_turn 60 = .ok (.aload_n 0, 1) := by decide +kernel
theorem dX6_turn_61 : decode cX6_turn 61 = .ok (.iload_n 1, 1) := by decide +kernel
theorem dX6_turn_62 : decode cX6_turn 62 = .ok (.aload_n 0, 1) := by decide +kernel
theorem dX6_turn_63 : decode cX6_turn 63 = .ok (.getfield 13, 3) := by decide +kernel
theorem dX6_turn_66 : decode cX6_turn 66 = .ok (.iload_n 1, 1) := by decide +kernel
theorem dX6_turn_67 : decode cX6_turn 67 = .ok (.iaload, 1) := by decide +kernel
theorem dX6_turn_68 : decode cX6_turn 68 = .ok (.iconst 1, 1) := by decide +kernel
theorem dX6_turn_69 : decode cX6_turn 69 = .ok (.isub, 1) := by decide +kernel
theorem dX6_turn_70 : decode cX6_turn 70 = .ok (.iload 4, 2) := by decide +kernel
theorem dX6_turn_72 : decode cX6_turn 72 = .ok (.isub, 1) := by decide +kernel
theorem dX6_turn_73 : decode cX6_turn 73 = .ok (.i2l, 1) := by decide +kernel
theorem dX6_turn_74 : decode cX6_turn 74 = .ok (.iload_n 3, 1) := by decide +kernel
theorem dX6_turn_75 : decode cX6_turn 75 = .ok (.i2l, 1) := by decide +kernel
theorem dX6_turn_76 : decode cX6_turn 76 = .ok (.invokevirtual 74, 3) := by decide +kernel
theorem dX6_turn_79 : decode cX6_turn 79 = .ok (.goto 22, 3) := by decide +kernel
theorem dX6_turn_82 : decode cX6_turn 82 = .ok (.aload_n 0, 1) := by decide +kernel
theorem dX6_turn_83 : decode cX6_turn 83 = .ok (.iload_n 1, 1) := by decide +kernel
theorem dX6_turn_84 : decode cX6_turn 84 = .ok (.iload 4, 2) := by decide +kernel
theorem dX6_turn_86 : decode cX6_turn 86 = .ok (.i2l, 1) := by decide +kernel
theorem dX6_turn_87 : decode cX6_turn 87 = .ok (.aload_n 0, 1) := by decide +kernel
theorem dX6_turn_88 : decode cX6_turn 88 = .ok (.getfield 16, 3) := by decide +kernel
theorem dX6_turn_91 : decode cX6_turn 91 = .ok (.iload_n 1, 1) := by decide +kernel
theorem dX6_turn_92 : decode cX6_turn 92 = .ok (.iaload, 1) := by decide +kernel
theorem dX6_turn_93 : decode cX6_turn 93 = .ok (.iconst 1, 1) := by decide +kernel
theorem dX6_turn_94 : decode cX6_turn 94 = .ok (.isub, 1) := by decide +kernel
theorem dX6_turn_95 : decode cX6_turn 95 = .ok (.iload_n 3, 1) := by decide +kernel
theorem dX6_turn_96 : decode cX6_turn 96 = .ok (.isub, 1) := by decide +kernel
theorem dX6_turn_97 : decode cX6_turn 97 = .ok (.i2l, 1) := by decide +kernel
theorem dX6_turn_98 : decode cX6_turn 98 = .ok (.invokevirtual 74, 3) := by decide +kernel
theorem dX6_turn_101 : decode cX6_turn 101 = .ok (.iastore, 1) := by decide +kernel
theorem dX6_turn_102 : decode cX6_turn 102 = .ok (.iinc 4 1, 3) := by decide +kernel
theorem dX6_turn_105 : decode cX6_turn 105 = .ok (.goto (-71), 3) := by decide +kernel
theorem dX6_turn_108 : decode cX6_turn 108 = .ok (.iinc 3 1, 3) := by decide +kernel
theorem dX6_turn_111 : decode cX6_turn 111 = .ok (.goto (-90), 3) := by decide +kernel
theorem dX6_turn_114 : decode cX6_turn 114 = .ok (.iconst 0, 1) := by decide +kernel
theorem dX6_turn_115 : decode cX6_turn 115 = .ok (.istore_n 3, 1) := by decide +kernel
theorem dX6_turn_116 : decode cX6_turn 116 = .ok (.iload_n 3, 1) := by decide +kernel
theorem dX6_turn_117 : decode cX6_turn 117 = .ok (.aload_n 0, 1) := by decide +kernel
theorem dX6_turn_118 : decode cX6_turn 118 = .ok (.getfield 16, 3) := by decide +kernel
theorem dX6_turn_121 : decode cX6_turn 121 = .ok (.iload_n 1, 1) := by decide +kernel
theorem dX6_turn_122 : decode cX6_turn 122 = .ok (.iaload, 1) := by decide +kernel
theorem dX6_turn_123 : decode cX6_turn 123 = .ok (.if_icmp .ge 59, 3) := by decide +kernel
theorem dX6_turn_126 : decode cX6_turn 126 = .ok (.iconst 0, 1) := by decide +kernel
theorem dX6_turn_127 : decode cX6_turn 127 = .ok (.istore 4, 2) := by decide +kernel
theorem dX6_turn_129 : decode cX6_turn 129 = .ok (.iload 4, 2) := by decide +kernel
theorem dX6_turn_131 : decode cX6_turn 131 = .ok (.aload_n 0, 1) := by decide +kernel
theorem dX6_turn_132 : decode cX6_turn 132 = .ok (.getfield 13, 3) := by decide +kernel
theorem dX6_turn_135 : decode cX6_turn 135 = .ok (.iload_n 1, 1) := by decide +kernel
theorem dX6_turn_136 : decode cX6_turn 136 = .ok (.iaload, 1) := by decide +kernel
theorem dX6_turn_137 : decode cX6_turn 137 = .ok (.if_icmp .ge 39, 3) := by decide +kernel
theorem dX6_turn_140 : decode cX6_turn 140 = .ok (.aload_n 0, 1) := by decide +kernel
theorem dX6_turn_141 : decode cX6_turn 141 = .ok (.getfield 23, 3) := by decide +kernel
theorem dX6_turn_144 : decode cX6_turn 144 = .ok (.sipush 4096, 3) := by decide +kernel
theorem dX6_turn_147 : decode cX6_turn 147 = .ok (.iload_n 1, 1) := by decide +kernel
theorem dX6_turn_148 : decode cX6_turn 148 = .ok (.imul, 1) := by decide +kernel
theorem dX6_turn_149 : decode cX6_turn 149 = .ok (.bipush 64, 2) := by decide +kernel
theorem dX6_turn_151 : decode cX6_turn 151 = .ok (.iload_n 3, 1) := by decide +kernel
theorem dX6_turn_152 : decode cX6_turn 152 = .ok (.imul, 1) := by decide +kernel
theorem dX6_turn_153 : decode cX6_turn 153 = .ok (.iadd, 1) := by decide +kernel
theorem dX6_turn_154 : decode cX6_turn 154 = .ok (.iload 4, 2) := by decide +kernel
theorem dX6_turn_156 : decode cX6_turn 156 = .ok (.iadd, 1) := by decide +kernel
theorem dX6_turn_157 : decode cX6_turn 157 = .ok (.aload_n 0, 1) := by decide +kernel
theorem dX6_turn_158 : decode cX6_turn 158 = .ok (.getfield 26, 3) := by decide +kernel
theorem dX6_turn_161 : decode cX6_turn 161 = .ok (.bipush 64, 2) := by decide +kernel
theorem dX6_turn_163 : decode cX6_turn 163 = .ok (.iload_n 3, 1) := by decide +kernel
theorem dX6_turn_164 : decode cX6_turn 164 = .ok (.imul, 1) := by decide +kernel
theorem dX6_turn_165 : decode cX6_turn 165 = .ok (.iload 4, 2) := by decide +kernel
theorem dX6_turn_167 : decode cX6_turn 167 = .ok (.iadd, 1) := by decide +kernel
theorem dX6_turn_168 : decode cX6_turn 168 = .ok (.iaload, 1) := by decide +kernel
theorem dX6_turn_169 : decode cX6_turn 169 = .ok (.iastore, 1) := by decide +kernel
theorem dX6_turn_170 : decode cX6_turn 170 = .ok (.iinc 4 1, 3) := by decide +kernel
theorem dX6_turn_173 : decode cX6_turn 173 = .ok (.goto (-44), 3) := by decide +kernel
theorem dX6_turn_176 : decode cX6_turn 176 = .ok (.iinc 3 1, 3) := by decide +kernel
theorem dX6_turn_179 : decode cX6_turn 179 = .ok (.goto (-63), 3) := by decide +kernel
theorem dX6_turn_182 : decode cX6_turn 182 = .ok (.iconst 1, 1) := by decide +kernel
theorem dX6_turn_183 : decode cX6_turn 183 = .ok (.ireturn, 1) := by decide +kernel
set_option maxRecDepth 100000 in
theorem ggX6_count_X6_isSurface : GoodIn wsX6_count wsX6_isSurface := goodIn_r _ [7, 8, 18, 19, 20, 21, 22, 23, 24, 25, 26, 27, 28, 29, 30, 31, 32, 33] rfl (by decide +kernel)
set_option maxRecDepth 20000 in
theorem gX6_count_X6_isSurface : GoodIn wsX6_count (wsV RX6 59 RX6 yX6_isSurface wsX6_isSurface) := goodIn_app (goodIn_of _ (by decide +kernel)) ggX6_count_X6_isSurface
set_option maxRecDepth 100000 in
theorem ggX6_count_X6_dot : GoodIn wsX6_count wsX6_dot := goodIn_r _ [12, 13, 14, 15, 16, 6, 17, 2, 1, 18, 19, 20, 21, 22, 23, 24, 25, 26, 27, 28, 29, 30, 31, 32, 33] rfl (by decide +kernel)
set_option maxRecDepth 20000 in
theorem gX6_count_X6_dot : GoodIn wsX6_count (wsV RX6 74 RX6 yX6_dot wsX6_dot) := goodIn_app (goodIn_of _ (by decide +kernel)) ggX6_count_X6_dot
theorem dX6_count_0 : decode cX6_count 0 = .ok (.aload_n 0, 1) := by decide +kernel
theorem dX6_count_1 : decode cX6_count 1 = .ok (.iload_n 1, 1) := by decide +kernel
theorem dX6_count_2 : decode cX6_count 2 = .ok (.invokevirtual 59, 3) := by decide +kernel
theorem dX6_count_5 : decode cX6_count 5 = .ok (.ifCond .ne 5, 3) := by decide +kernel
theorem dX6_count_8 : decode cX6_count 8 = .ok (.iconst (-1), 1) := by decide +kernel
theorem dX6_count_9 : decode cX6_count 9 = .ok (.ireturn, 1) := by decide +kernel
theorem dX6_count_10 : decode cX6_count 10 = .ok (.iconst 0, 1) := by decide +kernel
theorem dX6_count_11 : decode cX6_count 11 = .ok (.istore_n 3, 1) := by decide +kernel
theorem dX6_count_12 : decode cX6_count 12 = .ok (.iconst 0, 1) := by decide +kernel
theorem dX6_count_13 : decode cX6_count 13 = .ok (.istore 4, 2) := by decide +kernel
theorem dX6_count_15 : decode cX6_count 15 = .ok (.iload 4, 2) := by decide +kernel
theorem dX6_count_17 : decode cX6_count 17 = .ok (.aload_n 0, 1) := by decide +kernel
theorem dX6_count_18 : decode cX6_count 18 = .ok (.getfield 16, 3) := by decide +kernel
theorem dX6_count_21 : decode cX6_count 21 = .ok (.iload_n 1, 1) := by decide +kernel
theorem dX6_count_22 : decode cX6_count 22 = .ok (.iaload, 1) := by decide +kernel
theorem dX6_count_23 : decode cX6_count 23 = .ok (.if_icmp .ge 52, 3) := by decide +kernel
theorem dX6_count_26 : decode cX6_count 26 = .ok (.iconst 0, 1) := by decide +kernel
theorem dX6_count_27 : decode cX6_count 27 = .ok (.istore 5, 2) := by decide +kernel
theorem dX6_count_29 : decode cX6_count 29 = .ok (.iload 5, 2) := by decide +kernel
theorem dX6_count_31 : decode cX6_count 31 = .ok (.aload_n 0, 1) := by decide +kernel
theorem dX6_count_32 : decode cX6_count 32 = .ok (.getfield 13, 3) := by decide +kernel
theorem dX6_count_35 : decode cX6_count 35 = .ok (.iload_n 1, 1) := by decide +kernel
theorem dX6_count_36 : decode cX6_count 36 = .ok (.iaload, 1) := by decide +kernel
theorem dX6_count_37 : decode cX6_count 37 = .ok (.if_icmp .ge 32, 3) := by decide +kernel
theorem dX6_count_40 : decode cX6_count 40 = .ok (.iload_n 3, 1) := by decide +kernel
theorem dX6_count_41 : decode cX6_count 41 = .ok (.aload_n 0, 1) := by decide +kernel
theorem dX6_count_42 : decode cX6_count 42 = .ok (.iload_n 1, 1) := by decide +kernel
theorem dX6_count_43 : decode cX6_count 43 = .ok (.iload 5, 2) := by decide +kernel
theorem dX6_count_45 : decode cX6_count 45 = .ok (.i2l, 1) := by decide +kernel
theorem dX6_count_46 : decode cX6_count 46 = .ok (.iload 4, 2) := by decide +kernel
theorem dX6_count_48 : decode cX6_count 48 = .ok (.i2l, 1) := by decide +kernel
theorem dX6_count_49 : decode cX6_count 49 = .ok (.invokevirtual 74, 3) := by decide +kernel
theorem dX6_count_52 : decode cX6_count 52 = .ok (.iload_n 2, 1) := by decide +kernel
theorem dX6_count_53 : decode cX6_count 53 = .ok (.if_icmp .ne 7, 3) := by decide +kernel
theorem dX6_count_56 : decode cX6_count 56 = .ok (.iconst 1, 1) := by decide +kernel
theorem dX6_count_57 : decode cX6_count 57 = .ok (.goto 4, 3) := by decide +kernel
theorem dX6_count_60 : decode cX6_count 60 = .ok (.iconst 0, 1) := by decide +kernel
theorem dX6_count_61 : decode cX6_count 61 = .ok (.iadd, 1) := by decide +kernel
theorem dX6_count_62 : decode cX6_count 62 = .ok (.istore_n 3, 1) := by decide +kernel
theorem dX6_count_63 : decode cX6_count 63 = .ok (.iinc 5 1, 3) := by decide +kernel
theorem dX6_count_66 : decode cX6_count 66 = .ok (.goto (-37), 3) := by decide +kernel
theorem dX6_count_69 : decode cX6_count 69 = .ok (.iinc 4 1, 3) := by decide +kernel
theorem dX6_count_72 : decode cX6_count 72 = .ok (.goto (-57), 3) := by decide +kernel
theorem dX6_count_75 : decode cX6_count 75 = .ok (.iload_n 3, 1) := by decide +kernel
theorem dX6_count_76 : decode cX6_count 76 = .ok (.ireturn, 1) := by decide +kernel
theorem dX6_isSprite_0 : decode cX6_isSprite 0 = .ok (.iload_n 1, 1) := by decide +kernel
theorem dX6_isSprite_1 : decode cX6_isSprite 1 = .ok (.ifCond .lt 12, 3) := by decide +kernel
theorem dX6_isSprite_4 : decode cX6_isSprite 4 = .ok (.iload_n 1, 1) := by decide +kernel
theorem dX6_isSprite_5 : decode cX6_isSprite 5 = .ok (.iconst 4, 1) := by decide +kernel
theorem dX6_isSprite_6 : decode cX6_isSprite 6 = .ok (.if_icmp .ge 7, 3) := by decide +kernel
theorem dX6_isSprite_9 : decode cX6_isSprite 9 = .ok (.iconst 1, 1) := by decide +kernel
theorem dX6_isSprite_10 : decode cX6_isSprite 10 = .ok (.goto 4, 3) := by decide +kernel
theorem dX6_isSprite_13 : decode cX6_isSprite 13 = .ok (.iconst 0, 1) := by decide +kernel
theorem dX6_isSprite_14 : decode cX6_isSprite 14 = .ok (.ireturn, 1) := by decide +kernel
theorem dX6_put_0 : decode cX6_put 0 = .ok (.aload_n 0, 1) := by decide +kernel
theorem dX6_put_1 : decode cX6_put 1 = .ok (.getfield 39, 3) := by decide +kernel
theorem dX6_put_4 : decode cX6_put 4 = .ok (.aload_n 0, 1) := by decide +kernel
theorem dX6_put_5 : decode cX6_put 5 = .ok (.getfield 97, 3) := by decide +kernel
theorem dX6_put_8 : decode cX6_put 8 = .ok (.iload_n 1, 1) := by decide +kernel
theorem dX6_put_9 : decode cX6_put 9 = .ok (.iastore, 1) := by decide +kernel
theorem dX6_put_10 : decode cX6_put 10 = .ok (.aload_n 0, 1) := by decide +kernel
theorem dX6_put_11 : decode cX6_put 11 = .ok (.dup, 1) := by decide +kernel
theorem dX6_put_12 : decode cX6_put 12 = .ok (.getfield 97, 3) := by decide +kernel
theorem dX6_put_15 : decode cX6_put 15 = .ok (.iconst 1, 1) := by decide +kernel
theorem dX6_put_16 : decode cX6_put 16 = .ok (.iadd, 1) := by decide +kernel
theorem dX6_put_17 : decode cX6_put 17 = .ok (.putfield 97, 3) := by decide +kernel
theorem dX6_put_20 : decode cX6_put 20 = .ok (.return_, 1) := by decide +kernel
set_option maxRecDepth 100000 in
theorem ggX6_tellStretch_X6_put : GoodIn wsX6_tellStretch wsX6_put := goodIn_r _ [5, 6, 7, 19, 20, 21, 22, 23, 24, 25, 26, 27, 28, 29, 30, 31, 32, 33, 34] rfl (by decide +kernel)
set_option maxRecDepth 20000 in
theorem gX6_tellStretch_X6_put : GoodIn wsX6_tellStretch (wsV RX6 100 RX6 yX6_put wsX6_put) := goodIn_app (goodIn_of _ (by decide +kernel)) ggX6_tellStretch_X6_put
set_option maxRecDepth 100000 in
theorem ggX6_tellStretch_X6_dot : GoodIn wsX6_tellStretch wsX6_dot := goodIn_r _ [11, 12, 13, 14, 15, 4, 16, 17, 18, 19, 20, 21, 22, 23, 24, 25, 26, 27, 28, 29, 30, 31, 32, 33, 34] rfl (by decide +kernel)
set_option maxRecDepth 20000 in
theorem gX6_tellStretch_X6_dot : GoodIn wsX6_tellStretch (wsV RX6 74 RX6 yX6_dot wsX6_dot) := goodIn_app (goodIn_of _ (by decide +kernel)) ggX6_tellStretch_X6_dot
theorem dX6_tellStretch_0 : decode cX6_tellStretch 0 = .ok (.iload_n 3, 1) := by decide +kernel
theorem dX6_tellStretch_1 : decode cX6_tellStretch 1 = .ok (.istore 6, 2) := by decide +kernel
theorem dX6_tellStretch_3 : decode cX6_tellStretch 3 = .ok (.iload 6, 2) := by decide +kernel
theorem dX6_tellStretch_5 : decode cX6_tellStretch 5 = .ok (.iload 4, 2) := by decide +kernel
theorem dX6_tellStretch_7 : decode cX6_tellStretch 7 = .ok (.if_icmp .ge 101, 3) := by decide +kernel
theorem dX6_tellStretch_10 : decode cX6_tellStretch 10 = .ok (.iload 4, 2) := by decide +kernel
theorem dX6_tellStretch_12 : decode cX6_tellStretch 12 = .ok (.iload 6, 2) := by decide +kernel
theorem dX6_tellStretch_14 : decode cX6_tellStretch 14 = .ok (.isub, 1) := by decide +kernel
theorem dX6_tellStretch_15 : decode cX6_tellStretch 15 = .ok (.bipush 63, 2) := by decide +kernel
theorem dX6_tellStretch_17 : decode cX6_tellStretch 17 = .ok (.if_icmp .ge 11, 3) := by decide +kernel
theorem dX6_tellStretch_20 : decode cX6_tellStretch 20 = .ok (.iload 4, 2) := by decide +kernel
theorem dX6_tellStretch_22 : decode cX6_tellStretch 22 = .ok (.iload 6, 2) := by decide +kernel
theorem dX6_tellStretch_24 : decode cX6_tellStretch 24 = .ok (.isub, 1) := by decide +kernel
theorem dX6_tellStretch_25 : decode cX6_tellStretch 25 = .ok (.goto 5, 3) := by decide +kernel
theorem dX6_tellStretch_28 : decode cX6_tellStretch 28 = .ok (.bipush 63, 2) := by decide +kernel
theorem dX6_tellStretch_30 : decode cX6_tellStretch 30 = .ok (.istore 7, 2) := by decide +kernel
theorem dX6_tellStretch_32 : decode cX6_tellStretch 32 = .ok (.aload_n 0, 1) := by decide +kernel
theorem dX6_tellStretch_33 : decode cX6_tellStretch 33 = .ok (.iload_n 1, 1) := by decide +kernel
theorem dX6_tellStretch_34 : decode cX6_tellStretch 34 = .ok (.iload 7, 2) := by decide +kernel
theorem dX6_tellStretch_36 : decode cX6_tellStretch 36 = .ok (.iadd, 1) := by decide +kernel
theorem dX6_tellStretch_37 : decode cX6_tellStretch 37 = .ok (.invokevirtual 100, 3) := by decide +kernel
theorem dX6_tellStretch_40 : decode cX6_tellStretch 40 = .ok (.iconst 0, 1) := by decide +kernel
theorem dX6_tellStretch_41 : decode cX6_tellStretch 41 = .ok (.istore 8, 2) := by decide +kernel
theorem dX6_tellStretch_43 : decode cX6_tellStretch 43 = .ok (.iload 8, 2) := by decide +kernel
theorem dX6_tellStretch_45 : decode cX6_tellStretch 45 = .ok (.iload 7, 2) := by decide +kernel
theorem dX6_tellStretch_47 : decode cX6_tellStretch 47 = .ok (.if_icmp .ge 33, 3) := by decide +kernel
theorem dX6_tellStretch_50 : decode cX6_tellStretch 50 = .ok (.iload_n 1, 1) := by decide +kernel
theorem dX6_tellStretch_51 : decode cX6_tellStretch 51 = .ok (.bipush 64, 2) := by decide +kernel
theorem dX6_tellStretch_53 : decode cX6_tellStretch 53 = .ok (.if_icmp .ne 27, 3) := by decide +kernel
theorem dX6_tellStretch_56 : decode cX6_tellStretch 56 = .ok (.aload_n 0, 1) := by decide +kernel
theorem dX6_tellStretch_57 : decode cX6_tellStretch 57 = .ok (.aload_n 0, 1) := by decide +kernel
theorem dX6_tellStretch_58 : decode cX6_tellStretch 58 = .ok (.iload_n 2, 1) := by decide +kernel
theorem dX6_tellStretch_59 : decode cX6_tellStretch 59 = .ok (.iload 6, 2) := by decide +kernel
theorem dX6_tellStretch_61 : decode cX6_tellStretch 61 = .ok (.iload 8, 2) := by decide +kernel
theorem dX6_tellStretch_63 : decode cX6_tellStretch 63 = .ok (.iadd, 1) := by decide +kernel
theorem dX6_tellStretch_64 : decode cX6_tellStretch 64 = .ok (.i2l, 1) := by decide +kernel
theorem dX6_tellStretch_65 : decode cX6_tellStretch 65 = .ok (.iload 5, 2) := by decide +kernel
theorem dX6_tellStretch_67 : decode cX6_tellStretch 67 = .ok (.i2l, 1) := by decide +kernel
theorem dX6_tellStretch_68 : decode cX6_tellStretch 68 = .ok (.invokevirtual 74, 3) := by decide +kernel
theorem dX6_tellStretch_71 : decode cX6_tellStretch 71 = .ok (.invokevirtual 100, 3) := by decide +kernel
theorem dX6_tellStretch_74 : decode cX6_tellStretch 74 = .ok (.iinc 8 1, 3) := by decide +kernel
theorem dX6_tellStretch_77 : decode cX6_tellStretch 77 = .ok (.goto (-34), 3) := by decide +kernel
theorem dX6_tellStretch_80 : decode cX6_tellStretch 80 = .ok (.iload_n 1, 1) := by decide +kernel
theorem dX6_tellStretch_81 : decode cX6_tellStretch 81 = .ok (.sipush 128, 3) := by decide +kernel
theorem dX6_tellStretch_84 : decode cX6_tellStretch 84 = .ok (.if_icmp .ne 18, 3) := by decide +kernel
theorem dX6_tellStretch_87 : decode cX6_tellStretch 87 = .ok (.aload_n 0, 1) := by decide +kernel
theorem dX6_tellStretch_88 : decode cX6_tellStretch 88 = .ok (.aload_n 0, 1) := by decide +kernel
theorem dX6_tellStretch_89 : decode cX6_tellStretch 89 = .ok (.iload_n 2, 1) := by decide +kernel
theorem dX6_tellStretch_90 : decode cX6_tellStretch 90 = .ok (.iload 6, 2) := by decide +kernel
theorem dX6_tellStretch_92 : decode cX6_tellStretch 92 = .ok (.i2l, 1) := by decide +kernel
theorem dX6_tellStretch_93 : decode cX6_tellStretch 93 = .ok (.iload 5, 2) := by decide +kernel
theorem dX6_tellStretch_95 : decode cX6_tellStretch 95 = .ok (.i2l, 1) := by decide +kernel
theorem dX6_tellStretch_96 : decode cX6_tellStretch 96 = .ok (.invokevirtual 74, 3) := by decide +kernel
theorem dX6_tellStretch_99 : decode cX6_tellStretch 99 = .ok (.invokevirtual 100, 3) := by decide +kernel
theorem dX6_tellStretch_102 : decode cX6_tellStretch 102 = .ok (.iinc 6 63, 3) := by decide +kernel
theorem dX6_tellStretch_105 : decode cX6_tellStretch 105 = .ok (.goto (-102), 3) := by decide +kernel
theorem dX6_tellStretch_108 : decode cX6_tellStretch 108 = .ok (.return_, 1) := by decide +kernel
set_option maxRecDepth 100000 in
theorem ggX6_alike_X6_dot : GoodIn wsX6_alike wsX6_dot := goodIn_r _ [5, 6, 7, 8, 9, 4, 10, 11, 12, 13, 14, 15, 16, 17, 18, 19, 20, 21, 22, 23, 24, 25, 26, 27, 28] rfl (by decide +kernel)
set_option maxRecDepth 20000 in
theorem gX6_alike_X6_dot : GoodIn wsX6_alike (wsV RX6 74 RX6 yX6_dot wsX6_dot) := goodIn_app (goodIn_of _ (by decide +kernel)) ggX6_alike_X6_dot
theorem dX6_alike_0 : decode cX6_alike 0 = .ok (.iconst 1, 1) := by decide +kernel
theorem dX6_alike_1 : decode cX6_alike 1 = .ok (.istore 5, 2) := by decide +kernel
theorem dX6_alike_3 : decode cX6_alike 3 = .ok (.iload_n 2, 1) := by decide +kernel
theorem dX6_alike_4 : decode cX6_alike 4 = .ok (.iload 5, 2) := by decide +kernel
theorem dX6_alike_6 : decode cX6_alike 6 = .ok (.iadd, 1) := by decide +kernel
theorem dX6_alike_7 : decode cX6_alike 7 = .ok (.iload_n 3, 1) := by decide +kernel
theorem dX6_alike_8 : decode cX6_alike 8 = .ok (.if_icmp .ge 35, 3) := by decide +kernel
theorem dX6_alike_11 : decode cX6_alike 11 = .ok (.aload_n 0, 1) := by decide +kernel
theorem dX6_alike_12 : decode cX6_alike 12 = .ok (.iload_n 1, 1) := by decide +kernel
theorem dX6_alike_13 : decode cX6_alike 13 = .ok (.iload_n 2, 1) := by decide +kernel
theorem dX6_alike_14 : decode cX6_alike 14 = .ok (.iload 5, 2) := by decide +kernel
theorem dX6_alike_16 : decode cX6_alike 16 = .ok (.iadd, 1) := by decide +kernel
theorem dX6_alike_17 : decode cX6_alike 17 = .ok (.i2l, 1) := by decide +kernel
theorem dX6_alike_18 : decode cX6_alike 18 = .ok (.iload 4, 2) := by decide +kernel
theorem dX6_alike_20 : decode cX6_alike 20 = .ok (.i2l, 1) := by decide +kernel
theorem dX6_alike_21 : decode cX6_alike 21 = .ok (.invokevirtual 74, 3) := by decide +kernel
theorem dX6_alike_24 : decode cX6_alike 24 = .ok (.aload_n 0, 1) := by decide +kernel
theorem dX6_alike_25 : decode cX6_alike 25 = .ok (.iload_n 1, 1) := by decide +kernel
theorem dX6_alike_26 : decode cX6_alike 26 = .ok (.iload_n 2, 1) := by decide +kernel
theorem dX6_alike_27 : decode cX6_alike 27 = .ok (.i2l, 1) := by decide +kernel
theorem dX6_alike_28 : decode cX6_alike 28 = .ok (.iload 4, 2) := by decide +kernel
theorem dX6_alike_30 : decode cX6_alike 30 = .ok (.i2l, 1) := by decide +kernel
theorem dX6_alike_31 : decode cX6_alike 31 = .ok (.invokevirtual 74, 3) := by decide +kernel
theorem dX6_alike_34 : decode cX6_alike 34 = .ok (.if_icmp .ne 9, 3) := by decide +kernel
theorem dX6_alike_37 : decode cX6_alike 37 = .ok (.iinc 5 1, 3) := by decide +kernel
theorem dX6_alike_40 : decode cX6_alike 40 = .ok (.goto (-37), 3) := by decide +kernel
theorem dX6_alike_43 : decode cX6_alike 43 = .ok (.iload 5, 2) := by decide +kernel
theorem dX6_alike_45 : decode cX6_alike 45 = .ok (.ireturn, 1) := by decide +kernel
set_option maxRecDepth 100000 in
theorem ggX6_tellDrawn_X6_alike : GoodIn wsX6_tellDrawn wsX6_alike := goodIn_r _ [5, 6, 7, 8, 4, 9, 10, 11, 12, 13, 14, 15, 16, 27, 28, 29, 30, 31, 32, 33, 34, 35, 36, 37, 38, 39, 40, 41, 42] rfl (by decide +kernel)
set_option maxRecDepth 20000 in
theorem gX6_tellDrawn_X6_alike : GoodIn wsX6_tellDrawn (wsV RX6 104 RX6 yX6_alike wsX6_alike) := goodIn_app (goodIn_of _ (by decide +kernel)) ggX6_tellDrawn_X6_alike
set_option maxRecDepth 100000 in
theorem ggX6_tellDrawn_X6_tellStretch : GoodIn wsX6_tellDrawn wsX6_tellStretch := goodIn_r _ [20, 21, 22, 23, 4, 24, 25, 26, 6, 7, 8, 9, 10, 11, 12, 13, 14, 15, 16, 27, 28, 29, 30, 31, 32, 33, 34, 35, 36, 37, 38, 39, 40, 41, 42] rfl (by decide +kernel)
set_option maxRecDepth 20000 in
theorem gX6_tellDrawn_X6_tellStretch : GoodIn wsX6_tellDrawn (wsV RX6 108 RX6 yX6_tellStretch wsX6_tellStretch) := goodIn_app (goodIn_of _ (by decide +kernel)) ggX6_tellDrawn_X6_tellStretch
theorem dX6_tellDrawn_0 : decode cX6_tellDrawn 0 = .ok (.iload_n 2, 1) := by decide +kernel
theorem dX6_tellDrawn_1 : decode cX6_tellDrawn 1 = .ok (.istore 5, 2) := by decide +kernel
theorem dX6_tellDrawn_3 : decode cX6_tellDrawn 3 = .ok (.iload_n 2, 1) := by decide +kernel
theorem dX6_tellDrawn_4 : decode cX6_tellDrawn 4 = .ok (.istore 6, 2) := by decide +kernel
theorem dX6_tellDrawn_6 : decode cX6_tellDrawn 6 = .ok (.iload 5, 2) := by decide +kernel
theorem dX6_tellDrawn_8 : decode cX6_tellDrawn 8 = .ok (.iload_n 3, 1) := by decide +kernel
theorem dX6_tellDrawn_9 : decode cX6_tellDrawn 9 = .ok (.if_icmp .ge 68, 3) := by decide +kernel
theorem dX6_tellDrawn_12 : decode cX6_tellDrawn 12 = .ok (.aload_n 0, 1) := by decide +kernel
theorem dX6_tellDrawn_13 : decode cX6_tellDrawn 13 = .ok (.iload_n 1, 1) := by decide +kernel
theorem dX6_tellDrawn_14 : decode cX6_tellDrawn 14 = .ok (.iload 5, 2) := by decide +kernel
theorem dX6_tellDrawn_16 : decode cX6_tellDrawn 16 = .ok (.iload_n 3, 1) := by decide +kernel
theorem dX6_tellDrawn_17 : decode cX6_tellDrawn 17 = .ok (.iload 4, 2) := by decide +kernel
theorem dX6_tellDrawn_19 : decode cX6_tellDrawn 19 = .ok (.invokevirtual 104, 3) := by decide +kernel
theorem dX6_tellDrawn_22 : decode cX6_tellDrawn 22 = .ok (.istore 7, 2) := by decide +kernel
theorem dX6_tellDrawn_24 : decode cX6_tellDrawn 24 = .ok (.iload 7, 2) := by decide +kernel
theorem dX6_tellDrawn_26 : decode cX6_tellDrawn 26 = .ok (.iconst 2, 1) := by decide +kernel
theorem dX6_tellDrawn_27 : decode cX6_tellDrawn 27 = .ok (.if_icmp .le 40, 3) := by decide +kernel
theorem dX6_tellDrawn_30 : decode cX6_tellDrawn 30 = .ok (.aload_n 0, 1) := by decide +kernel
theorem dX6_tellDrawn_31 : decode cX6_tellDrawn 31 = .ok (.bipush 64, 2) := by decide +kernel
theorem dX6_tellDrawn_33 : decode cX6_tellDrawn 33 = .ok (.iload_n 1, 1) := by decide +kernel
theorem dX6_tellDrawn_34 : decode cX6_tellDrawn 34 = .ok (.iload 6, 2) := by decide +kernel
theorem dX6_tellDrawn_36 : decode cX6_tellDrawn 36 = .ok (.iload 5, 2) := by decide +kernel
theorem dX6_tellDrawn_38 : decode cX6_tellDrawn 38 = .ok (.iload 4, 2) := by decide +kernel
theorem dX6_tellDrawn_40 : decode cX6_tellDrawn 40 = .ok (.invokevirtual 108, 3) := by decide +kernel
theorem dX6_tellDrawn_43 : decode cX6_tellDrawn 43 = .ok (.aload_n 0, 1) := by decide +kernel
theorem dX6_tellDrawn_44 : decode cX6_tellDrawn 44 = .ok (.sipush 128, 3) := by decide +kernel
theorem dX6_tellDrawn_47 : decode cX6_tellDrawn 47 = .ok (.iload_n 1, 1) := by decide +kernel
theorem dX6_tellDrawn_48 : decode cX6_tellDrawn 48 = .ok (.iload 5, 2) := by decide +kernel
theorem dX6_tellDrawn_50 : decode cX6_tellDrawn 50 = .ok (.iload 5, 2) := by decide +kernel
theorem dX6_tellDrawn_52 : decode cX6_tellDrawn 52 = .ok (.iload 7, 2) := by decide +kernel
theorem dX6_tellDrawn_54 : decode cX6_tellDrawn 54 = .ok (.iadd, 1) := by decide +kernel
theorem dX6_tellDrawn_55 : decode cX6_tellDrawn 55 = .ok (.iload 4, 2) := by decide +kernel
theorem dX6_tellDrawn_57 : decode cX6_tellDrawn 57 = .ok (.invokevirtual 108, 3) := by decide +kernel
theorem dX6_tellDrawn_60 : decode cX6_tellDrawn 60 = .ok (.iload 5, 2) := by decide +kernel
theorem dX6_tellDrawn_62 : decode cX6_tellDrawn 62 = .ok (.iload 7, 2) := by decide +kernel
theorem dX6_tellDrawn_64 : decode cX6_tellDrawn 64 = .ok (.iadd, 1) := by decide +kernel
theorem dX6_tellDrawn_65 : decode cX6_tellDrawn 65 = .ok (.istore 6, 2) := by decide +kernel
theorem dX6_tellDrawn_67 : decode cX6_tellDrawn 67 = .ok (.iload 5, 2) := by decide +kernel
theorem dX6_tellDrawn_69 : decode cX6_tellDrawn 69 = .ok (.iload 7, 2) := by decide +kernel
theorem dX6_tellDrawn_71 : decode cX6_tellDrawn 71 = .ok (.iadd, 1) := by decide +kernel
theorem dX6_tellDrawn_72 : decode cX6_tellDrawn 72 = .ok (.istore 5, 2) := by decide +kernel
theorem dX6_tellDrawn_74 : decode cX6_tellDrawn 74 = .ok (.goto (-68), 3) := by decide +kernel
theorem dX6_tellDrawn_77 : decode cX6_tellDrawn 77 = .ok (.aload_n 0, 1) := by decide +kernel
theorem dX6_tellDrawn_78 : decode cX6_tellDrawn 78 = .ok (.bipush 64, 2) := by decide +kernel
theorem dX6_tellDrawn_80 : decode cX6_tellDrawn 80 = .ok (.iload_n 1, 1) := by decide +kernel
theorem dX6_tellDrawn_81 : decode cX6_tellDrawn 81 = .ok (.iload 6, 2) := by decide +kernel
theorem dX6_tellDrawn_83 : decode cX6_tellDrawn 83 = .ok (.iload_n 3, 1) := by decide +kernel
theorem dX6_tellDrawn_84 : decode cX6_tellDrawn 84 = .ok (.iload 4, 2) := by decide +kernel
theorem dX6_tellDrawn_86 : decode cX6_tellDrawn 86 = .ok (.invokevirtual 108, 3) := by decide +kernel
theorem dX6_tellDrawn_89 : decode cX6_tellDrawn 89 = .ok (.return_, 1) := by decide +kernel
set_option maxRecDepth 100000 in
theorem ggX6_tellRow_X6_dot : GoodIn wsX6_tellRow wsX6_dot := goodIn_r _ [6, 7, 8, 9, 10, 5, 11, 1, 12, 31, 32, 33, 34, 35, 36, 37, 38, 39, 40, 41, 42, 43, 44, 45, 46] rfl (by decide +kernel)
set_option maxRecDepth 20000 in
theorem gX6_tellRow_X6_dot : GoodIn wsX6_tellRow (wsV RX6 74 RX6 yX6_dot wsX6_dot) := goodIn_app (goodIn_of _ (by decide +kernel)) ggX6_tellRow_X6_dot
set_option maxRecDepth 100000 in
theorem ggX6_tellRow_X6_tellDrawn : GoodIn wsX6_tellRow wsX6_tellDrawn := goodIn_r _ [16, 17, 18, 19, 5, 20, 2, 3, 4, 6, 7, 8, 9, 10, 11, 1, 12, 21, 22, 23, 24, 25, 26, 27, 28, 29, 30, 31, 32, 33, 34, 35, 36, 37, 38, 39, 40, 41, 42, 43, 44, 45, 46] rfl (by decide +kernel)
set_option maxRecDepth 20000 in
theorem gX6_tellRow_X6_tellDrawn : GoodIn wsX6_tellRow (wsV RX6 112 RX6 yX6_tellDrawn wsX6_tellDrawn) := goodIn_app (goodIn_of _ (by decide +kernel)) ggX6_tellRow_X6_tellDrawn
set_option maxRecDepth 100000 in
theorem ggX6_tellRow_X6_tellStretch : GoodIn wsX6_tellRow wsX6_tellStretch := goodIn_r _ [24, 25, 26, 27, 5, 28, 29, 30, 2, 3, 4, 6, 7, 8, 9, 10, 11, 1, 12, 31, 32, 33, 34, 35, 36, 37, 38, 39, 40, 41, 42, 43, 44, 45, 46] rfl (by decide +kernel)
set_option maxRecDepth 20000 in
theorem gX6_tellRow_X6_tellStretch : GoodIn wsX6_tellRow (wsV RX6 108 RX6 yX6_tellStretch wsX6_tellStretch) := goodIn_app (goodIn_of _ (by decide +kernel)) ggX6_tellRow_X6_tellStretch
set_option maxRecDepth 100000 in
theorem ggX6_tellRow_X6_put : GoodIn wsX6_tellRow wsX6_put := goodIn_r _ [28, 29, 30, 31, 32, 33, 34, 35, 36, 37, 38, 39, 40, 41, 42, 43, 44, 45, 46] rfl (by decide +kernel)
set_option maxRecDepth 20000 in
theorem gX6_tellRow_X6_put : GoodIn wsX6_tellRow (wsV RX6 100 RX6 yX6_put wsX6_put) := goodIn_app (goodIn_of _ (by decide +kernel)) ggX6_tellRow_X6_put
theorem dX6_tellRow_0 : decode cX6_tellRow 0 = .ok (.iconst 0, 1) := by decide +kernel
theorem dX6_tellRow_1 : decode cX6_tellRow 1 = .ok (.istore 4, 2) := by decide +kernel
theorem dX6_tellRow_3 : decode cX6_tellRow 3 = .ok (.iload 4, 2) := by decide +kernel
theorem dX6_tellRow_5 : decode cX6_tellRow 5 = .ok (.aload_n 0, 1) := by decide +kernel
theorem dX6_tellRow_6 : decode cX6_tellRow 6 = .ok (.getfield 13, 3) := by decide +kernel
theorem dX6_tellRow_9 : decode cX6_tellRow 9 = .ok (.iload_n 1, 1) := by decide +kernel
theorem dX6_tellRow_10 : decode cX6_tellRow 10 = .ok (.iaload, 1) := by decide +kernel
theorem dX6_tellRow_11 : decode cX6_tellRow 11 = .ok (.if_icmp .ge 116, 3) := by decide +kernel
theorem dX6_tellRow_14 : decode cX6_tellRow 14 = .ok (.iload 4, 2) := by decide +kernel
theorem dX6_tellRow_16 : decode cX6_tellRow 16 = .ok (.istore 5, 2) := by decide +kernel
theorem dX6_tellRow_18 : decode cX6_tellRow 18 = .ok (.aload_n 0, 1) := by decide +kernel
theorem dX6_tellRow_19 : decode cX6_tellRow 19 = .ok (.iload_n 1, 1) := by decide +kernel
theorem dX6_tellRow_20 : decode cX6_tellRow 20 = .ok (.iload 4, 2) := by decide +kernel
theorem dX6_tellRow_22 : decode cX6_tellRow 22 = .ok (.i2l, 1) := by decide +kernel
theorem dX6_tellRow_23 : decode cX6_tellRow 23 = .ok (.iload_n 3, 1) := by decide +kernel
theorem dX6_tellRow_24 : decode cX6_tellRow 24 = .ok (.i2l, 1) := by decide +kernel
theorem dX6_tellRow_25 : decode cX6_tellRow 25 = .ok (.invokevirtual 74, 3) := by decide +kernel
theorem dX6_tellRow_28 : decode cX6_tellRow 28 = .ok (.iload_n 2, 1) := by decide +kernel
theorem dX6_tellRow_29 : decode cX6_tellRow 29 = .ok (.if_icmp .eq 7, 3) := by decide +kernel
theorem dX6_tellRow_32 : decode cX6_tellRow 32 = .ok (.iconst 1, 1) := by decide +kernel
theorem dX6_tellRow_33 : decode cX6_tellRow 33 = .ok (.goto 4, 3) := by decide +kernel
theorem dX6_tellRow_36 : decode cX6_tellRow 36 = .ok (.iconst 0, 1) := by decide +kernel
theorem dX6_tellRow_37 : decode cX6_tellRow 37 = .ok (.istore 6, 2) := by decide +kernel
theorem dX6_tellRow_39 : decode cX6_tellRow 39 = .ok (.iload 5, 2) := by decide +kernel
theorem dX6_tellRow_41 : decode cX6_tellRow 41 = .ok (.aload_n 0, 1) := by decide +kernel
theorem dX6_tellRow_42 : decode cX6_tellRow 42 = .ok (.getfield 13, 3) := by decide +kernel
theorem dX6_tellRow_45 : decode cX6_tellRow 45 = .ok (.iload_n 1, 1) := by decide +kernel
theorem dX6_tellRow_46 : decode cX6_tellRow 46 = .ok (.iaload, 1) := by decide +kernel
theorem dX6_tellRow_47 : decode cX6_tellRow 47 = .ok (.if_icmp .ge 33, 3) := by decide +kernel
theorem dX6_tellRow_50 : decode cX6_tellRow 50 = .ok (.aload_n 0, 1) := by decide +kernel
theorem dX6_tellRow_51 : decode cX6_tellRow 51 = .ok (.iload_n 1, 1) := by decide +kernel
theorem dX6_tellRow_52 : decode cX6_tellRow 52 = .ok (.iload 5, 2) := by decide +kernel
theorem dX6_tellRow_54 : decode cX6_tellRow 54 = .ok (.i2l, 1) := by decide +kernel
theorem dX6_tellRow_55 : decode cX6_tellRow 55 = .ok (.iload_n 3, 1) := by decide +kernel
theorem dX6_tellRow_56 : decode cX6_tellRow 56 = .ok (.i2l, 1) := by decide +kernel
theorem dX6_tellRow_57 : decode cX6_tellRow 57 = .ok (.invokevirtual 74, 3) := by decide +kernel
theorem dX6_tellRow_60 : decode cX6_tellRow 60 = .ok (.iload_n 2, 1) := by decide +kernel
theorem dX6_tellRow_61 : decode cX6_tellRow 61 = .ok (.if_icmp .eq 7, 3) := by decide +kernel
theorem dX6_tellRow_64 : decode cX6_tellRow 64 = .ok (.iconst 1, 1) := by decide +kernel
theorem dX6_tellRow_65 : decode cX6_tellRow 65 = .ok (.goto 4, 3) := by decide +kernel
theorem dX6_tellRow_68 : decode cX6_tellRow 68 = .ok (.iconst 0, 1) := by decide +kernel
theorem dX6_tellRow_69 : decode cX6_tellRow 69 = .ok (.iload 6, 2) := by decide +kernel
theorem dX6_tellRow_71 : decode cX6_tellRow 71 = .ok (.if_icmp .ne 9, 3) := by decide +kernel
theorem dX6_tellRow_74 : decode cX6_tellRow 74 = .ok (.iinc 5 1, 3) := by decide +kernel
theorem dX6_tellRow_77 : decode cX6_tellRow 77 = .ok (.goto (-38), 3) := by decide +kernel
theorem dX6_tellRow_80 : decode cX6_tellRow 80 = .ok (.iload 6, 2) := by decide +kernel
theorem dX6_tellRow_82 : decode cX6_tellRow 82 = .ok (.ifCond .eq 16, 3) := by decide +kernel
theorem dX6_tellRow_85 : decode cX6_tellRow 85 = .ok (.aload_n 0, 1) := by decide +kernel
theorem dX6_tellRow_86 : decode cX6_tellRow 86 = .ok (.iload_n 1, 1) := by decide +kernel
theorem dX6_tellRow_87 : decode cX6_tellRow 87 = .ok (.iload 4, 2) := by decide +kernel
theorem dX6_tellRow_89 : decode cX6_tellRow 89 = .ok (.iload 5, 2) := by decide +kernel
theorem dX6_tellRow_91 : decode cX6_tellRow 91 = .ok (.iload_n 3, 1) := by decide +kernel
theorem dX6_tellRow_92 : decode cX6_tellRow 92 = .ok (.invokevirtual 112, 3) := by decide +kernel
theorem dX6_tellRow_95 : decode cX6_tellRow 95 = .ok (.goto 25, 3) := by decide +kernel
theorem dX6_tellRow_98 : decode cX6_tellRow 98 = .ok (.iload 5, 2) := by decide +kernel
theorem dX6_tellRow_100 : decode cX6_tellRow 100 = .ok (.aload_n 0, 1) := by decide +kernel
theorem dX6_tellRow_101 : decode cX6_tellRow 101 = .ok (.getfield 13, 3) := by decide +kernel
theorem dX6_tellRow_104 : decode cX6_tellRow 104 = .ok (.iload_n 1, 1) := by decide +kernel
theorem dX6_tellRow_105 : decode cX6_tellRow 105 = .ok (.iaload, 1) := by decide +kernel
theorem dX6_tellRow_106 : decode cX6_tellRow 106 = .ok (.if_icmp .ge 14, 3) := by decide +kernel
theorem dX6_tellRow_109 : decode cX6_tellRow 109 = .ok (.aload_n 0, 1) := by decide +kernel
theorem dX6_tellRow_110 : decode cX6_tellRow 110 = .ok (.iconst 0, 1) := by decide +kernel
theorem dX6_tellRow_111 : decode cX6_tellRow 111 = .ok (.iload_n 1, 1) := by decide +kernel
theorem dX6_tellRow_112 : decode cX6_tellRow 112 = .ok (.iload 4, 2) := by decide +kernel
theorem dX6_tellRow_114 : decode cX6_tellRow 114 = .ok (.iload 5, 2) := by decide +kernel
theorem dX6_tellRow_116 : decode cX6_tellRow 116 = .ok (.iload_n 3, 1) := by decide +kernel
theorem dX6_tellRow_117 : decode cX6_tellRow 117 = .ok (.invokevirtual 108, 3) := by decide +kernel
theorem dX6_tellRow_120 : decode cX6_tellRow 120 = .ok (.iload 5, 2) := by decide +kernel
theorem dX6_tellRow_122 : decode cX6_tellRow 122 = .ok (.istore 4, 2) := by decide +kernel
theorem dX6_tellRow_124 : decode cX6_tellRow 124 = .ok (.goto (-121), 3) := by decide +kernel
theorem dX6_tellRow_127 : decode cX6_tellRow 127 = .ok (.aload_n 0, 1) := by decide +kernel
theorem dX6_tellRow_128 : decode cX6_tellRow 128 = .ok (.iconst 0, 1) := by decide +kernel
theorem dX6_tellRow_129 : decode cX6_tellRow 129 = .ok (.invokevirtual 100, 3) := by decide +kernel
theorem dX6_tellRow_132 : decode cX6_tellRow 132 = .ok (.return_, 1) := by decide +kernel
set_option maxRecDepth 100000 in
theorem ggX6_tell_X6_isSprite : GoodIn wsX6_tell wsX6_isSprite := goodIn_r _ [10] rfl (by decide +kernel)
set_option maxRecDepth 20000 in
theorem gX6_tell_X6_isSprite : GoodIn wsX6_tell (wsV RX6 116 RX6 yX6_isSprite wsX6_isSprite) := goodIn_app (goodIn_of _ (by decide +kernel)) ggX6_tell_X6_isSprite
set_option maxRecDepth 100000 in
theorem ggX6_tell_X6_isSurface : GoodIn wsX6_tell wsX6_isSurface := goodIn_r _ [14, 15, 46, 47, 48, 49, 50, 51, 52, 53, 54, 55, 56, 57, 58, 59, 60, 61] rfl (by decide +kernel)
set_option maxRecDepth 20000 in
theorem gX6_tell_X6_isSurface : GoodIn wsX6_tell (wsV RX6 59 RX6 yX6_isSurface wsX6_isSurface) := goodIn_app (goodIn_of _ (by decide +kernel)) ggX6_tell_X6_isSurface
set_option maxRecDepth 100000 in
theorem ggX6_tell_X6_tellRow : GoodIn wsX6_tell wsX6_tellRow := goodIn_r _ [19, 20, 21, 22, 23, 9, 24, 25, 26, 27, 28, 29, 2, 30, 31, 32, 33, 34, 35, 36, 37, 38, 39, 40, 41, 42, 43, 44, 45, 5, 1, 46, 47, 48, 49, 50, 51, 52, 53, 54, 55, 56, 57, 58, 59, 60, 61] rfl (by decide +kernel)
set_option maxRecDepth 20000 in
theorem gX6_tell_X6_tellRow : GoodIn wsX6_tell (wsV RX6 119 RX6 yX6_tellRow wsX6_tellRow) := goodIn_app (goodIn_of _ (by decide +kernel)) ggX6_tell_X6_tellRow
theorem dX6_tell_0 : decode cX6_tell 0 = .ok (.aload_n 0, 1) := by decide +kernel
theorem dX6_tell_1 : decode cX6_tell 1 = .ok (.iload_n 1, 1) := by decide +kernel
theorem dX6_tell_2 : decode cX6_tell 2 = .ok (.invokevirtual 116, 3) := by decide +kernel
theorem dX6_tell_5 : decode cX6_tell 5 = .ok (.ifCond .eq 11, 3) := by decide +kernel
theorem dX6_tell_8 : decode cX6_tell 8 = .ok (.aload_n 0, 1) := by decide +kernel
theorem dX6_tell_9 : decode cX6_tell 9 = .ok (.iload_n 2, 1) := by decide +kernel
theorem dX6_tell_10 : decode cX6_tell 10 = .ok (.invokevirtual 59, 3) := by decide +kernel
theorem dX6_tell_13 : decode cX6_tell 13 = .ok (.ifCond .ne 5, 3) := by decide +kernel
theorem dX6_tell_16 : decode cX6_tell 16 = .ok (.iconst (-1), 1) := by decide +kernel
theorem dX6_tell_17 : decode cX6_tell 17 = .ok (.ireturn, 1) := by decide +kernel
theorem dX6_tell_18 : decode cX6_tell 18 = .ok (.aload_n 0, 1) := by decide +kernel
theorem dX6_tell_19 : decode cX6_tell 19 = .ok (.iconst 0, 1) := by decide +kernel
theorem dX6_tell_20 : decode cX6_tell 20 = .ok (.putfield 97, 3) := by decide +kernel
theorem dX6_tell_23 : decode cX6_tell 23 = .ok (.iconst 0, 1) := by decide +kernel
theorem dX6_tell_24 : decode cX6_tell 24 = .ok (.istore 4, 2) := by decide +kernel
theorem dX6_tell_26 : decode cX6_tell 26 = .ok (.iload 4, 2) := by decide +kernel
theorem dX6_tell_28 : decode cX6_tell 28 = .ok (.aload_n 0, 1) := by decide +kernel
theorem dX6_tell_29 : decode cX6_tell 29 = .ok (.getfield 16, 3) := by decide +kernel
theorem dX6_tell_32 : decode cX6_tell 32 = .ok (.iload_n 2, 1) := by decide +kernel
theorem dX6_tell_33 : decode cX6_tell 33 = .ok (.iaload, 1) := by decide +kernel
theorem dX6_tell_34 : decode cX6_tell 34 = .ok (.if_icmp .ge 17, 3) := by decide +kernel
theorem dX6_tell_37 : decode cX6_tell 37 = .ok (.aload_n 0, 1) := by decide +kernel
theorem dX6_tell_38 : decode cX6_tell 38 = .ok (.iload_n 2, 1) := by decide +kernel
theorem dX6_tell_39 : decode cX6_tell 39 = .ok (.iload_n 3, 1) := by decide +kernel
theorem dX6_tell_40 : decode cX6_tell 40 = .ok (.iload 4, 2) := by decide +kernel
theorem dX6_tell_42 : decode cX6_tell 42 = .ok (.invokevirtual 119, 3) := by decide +kernel
theorem dX6_tell_45 : decode cX6_tell 45 = .ok (.iinc 4 1, 3) := by decide +kernel
theorem dX6_tell_48 : decode cX6_tell 48 = .ok (.goto (-22), 3) := by decide +kernel
theorem dX6_tell_51 : decode cX6_tell 51 = .ok (.aload_n 0, 1) := by decide +kernel
theorem dX6_tell_52 : decode cX6_tell 52 = .ok (.getfield 97, 3) := by decide +kernel
theorem dX6_tell_55 : decode cX6_tell 55 = .ok (.sipush 5000, 3) := by decide +kernel
theorem dX6_tell_58 : decode cX6_tell 58 = .ok (.if_icmp .le 5, 3) := by decide +kernel
theorem dX6_tell_61 : decode cX6_tell 61 = .ok (.iconst (-1), 1) := by decide +kernel
theorem dX6_tell_62 : decode cX6_tell 62 = .ok (.ireturn, 1) := by decide +kernel
theorem dX6_tell_63 : decode cX6_tell 63 = .ok (.aload_n 0, 1) := by decide +kernel
theorem dX6_tell_64 : decode cX6_tell 64 = .ok (.getfield 33, 3) := by decide +kernel
theorem dX6_tell_67 : decode cX6_tell 67 = .ok (.iload_n 1, 1) := by decide +kernel
theorem dX6_tell_68 : decode cX6_tell 68 = .ok (.aload_n 0, 1) := by decide +kernel
theorem dX6_tell_69 : decode cX6_tell 69 = .ok (.getfield 97, 3) := by decide +kernel
theorem dX6_tell_72 : decode cX6_tell 72 = .ok (.iastore, 1) := by decide +kernel
theorem dX6_tell_73 : decode cX6_tell 73 = .ok (.iconst 0, 1) := by decide +kernel
theorem dX6_tell_74 : decode cX6_tell 74 = .ok (.istore 4, 2) := by decide +kernel
theorem dX6_tell_76 : decode cX6_tell 76 = .ok (.iload 4, 2) := by decide +kernel
theorem dX6_tell_78 : decode cX6_tell 78 = .ok (.aload_n 0, 1) := by decide +kernel
theorem dX6_tell_79 : decode cX6_tell 79 = .ok (.getfield 97, 3) := by decide +kernel
theorem dX6_tell_82 : decode cX6_tell 82 = .ok (.if_icmp .ge 29, 3) := by decide +kernel
theorem dX6_tell_85 : decode cX6_tell 85 = .ok (.aload_n 0, 1) := by decide +kernel
theorem dX6_tell_86 : decode cX6_tell 86 = .ok (.getfield 36, 3) := by decide +kernel
theorem dX6_tell_89 : decode cX6_tell 89 = .ok (.sipush 5000, 3) := by decide +kernel
theorem dX6_tell_92 : decode cX6_tell 92 = .ok (.iload_n 1, 1) := by decide +kernel
theorem dX6_tell_93 : decode cX6_tell 93 = .ok (.imul, 1) := by decide +kernel
theorem dX6_tell_94 : decode cX6_tell 94 = .ok (.iload 4, 2) := by decide +kernel
theorem dX6_tell_96 : decode cX6_tell 96 = .ok (.iadd, 1) := by decide +kernel
theorem dX6_tell_97 : decode cX6_tell 97 = .ok (.aload_n 0, 1) := by decide +kernel
theorem dX6_tell_98 : decode cX6_tell 98 = .ok (.getfield 39, 3) := by decide +kernel
theorem dX6_tell_101 : decode cX6_tell 101 = .ok (.iload 4, 2) := by decide +kernel
theorem dX6_tell_103 : decode cX6_tell 103 = .ok (.iaload, 1) := by decide +kernel
theorem dX6_tell_104 : decode cX6_tell 104 = .ok (.iastore, 1) := by decide +kernel
theorem dX6_tell_105 : decode cX6_tell 105 = .ok (.iinc 4 1, 3) := by decide +kernel
theorem dX6_tell_108 : decode cX6_tell 108 = .ok (.goto (-32), 3) := by decide +kernel
theorem dX6_tell_111 : decode cX6_tell 111 = .ok (.aload_n 0, 1) := by decide +kernel
theorem dX6_tell_112 : decode cX6_tell 112 = .ok (.getfield 97, 3) := by decide +kernel
theorem dX6_tell_115 : decode cX6_tell 115 = .ok (.ireturn, 1) := by decide +kernel
set_option maxRecDepth 100000 in
theorem ggX6_load_X6_isSprite : GoodIn wsX6_load wsX6_isSprite := goodIn_r _ [7] rfl (by decide +kernel)
set_option maxRecDepth 20000 in
theorem gX6_load_X6_isSprite : GoodIn wsX6_load (wsV RX6 116 RX6 yX6_isSprite wsX6_isSprite) := goodIn_app (goodIn_of _ (by decide +kernel)) ggX6_load_X6_isSprite
theorem dX6_load_0 : decode cX6_load 0 = .ok (.aload_n 0, 1) := by decide +kernel
theorem dX6_load_1 : decode cX6_load 1 = .ok (.iload_n 1, 1) := by decide +kernel
theorem dX6_load_2 : decode cX6_load 2 = .ok (.invokevirtual 116, 3) := by decide +kernel
theorem dX6_load_5 : decode cX6_load 5 = .ok (.ifCond .eq 31, 3) := by decide +kernel
theorem dX6_load_8 : decode cX6_load 8 = .ok (.iload 4, 2) := by decide +kernel
theorem dX6_load_10 : decode cX6_load 10 = .ok (.iconst 1, 1) := by decide +kernel
theorem dX6_load_11 : decode cX6_load 11 = .ok (.if_icmp .lt 25, 3) := by decide +kernel
theorem dX6_load_14 : decode cX6_load 14 = .ok (.iload 4, 2) := by decide +kernel
theorem dX6_load_16 : decode cX6_load 16 = .ok (.bipush 8, 2) := by decide +kernel
theorem dX6_load_18 : decode cX6_load 18 = .ok (.if_icmp .gt 18, 3) := by decide +kernel
theorem dX6_load_21 : decode cX6_load 21 = .ok (.aload_n 0, 1) := by decide +kernel
theorem dX6_load_22 : decode cX6_load 22 = .ok (.getfield 33, 3) := by decide +kernel
theorem dX6_load_25 : decode cX6_load 25 = .ok (.iload_n 1, 1) := by decide +kernel
theorem dX6_load_26 : decode cX6_load 26 = .ok (.iaload, 1) := by decide +kernel
theorem dX6_load_27 : decode cX6_load 27 = .ok (.iload 4, 2) := by decide +kernel
theorem dX6_load_29 : decode cX6_load 29 = .ok (.iadd, 1) := by decide +kernel
theorem dX6_load_30 : decode cX6_load 30 = .ok (.sipush 5000, 3) := by decide +kernel
theorem dX6_load_33 : decode cX6_load 33 = .ok (.if_icmp .le 5, 3) := by decide +kernel
theorem dX6_load_36 : decode cX6_load 36 = .ok (.iconst (-1), 1) := by decide +kernel
theorem dX6_load_37 : decode cX6_load 37 = .ok (.ireturn, 1) := by decide +kernel
theorem dX6_load_38 : decode cX6_load 38 = .ok (.iload 4, 2) := by decide +kernel
theorem dX6_load_40 : decode cX6_load 40 = .ok (.iconst 1, 1) := by decide +kernel
theorem dX6_load_41 : decode cX6_load 41 = .ok (.isub, 1) := by decide +kernel
theorem dX6_load_42 : decode cX6_load 42 = .ok (.istore 5, 2) := by decide +kernel
theorem dX6_load_44 : decode cX6_load 44 = .ok (.iload 5, 2) := by decide +kernel
theorem dX6_load_46 : decode cX6_load 46 = .ok (.ifCond .lt 48, 3) := by decide +kernel
theorem dX6_load_49 : decode cX6_load 49 = .ok (.aload_n 0, 1) := by decide +kernel
theorem dX6_load_50 : decode cX6_load 50 = .ok (.getfield 36, 3) := by decide +kernel
theorem dX6_load_53 : decode cX6_load 53 = .ok (.sipush 5000, 3) := by decide +kernel
theorem dX6_load_56 : decode cX6_load 56 = .ok (.iload_n 1, 1) := by decide +kernel
theorem dX6_load_57 : decode cX6_load 57 = .ok (.imul, 1) := by decide +kernel
theorem dX6_load_58 : decode cX6_load 58 = .ok (.aload_n 0, 1) := by decide +kernel
theorem dX6_load_59 : decode cX6_load 59 = .ok (.getfield 33, 3) := by decide +kernel
theorem dX6_load_62 : decode cX6_load 62 = .ok (.iload_n 1, 1) := by decide +kernel
theorem dX6_load_63 : decode cX6_load 63 = .ok (.iaload, 1) := by decide +kernel
theorem dX6_load_64 : decode cX6_load 64 = .ok (.iadd, 1) := by decide +kernel
theorem dX6_load_65 : decode cX6_load 65 = .ok (.lload_n 2, 1) := by decide +kernel
theorem dX6_load_66 : decode cX6_load 66 = .ok (.bipush 8, 2) := by decide +kernel
theorem dX6_load_68 : decode cX6_load 68 = .ok (.iload 5, 2) := by decide +kernel
theorem dX6_load_70 : decode cX6_load 70 = .ok (.imul, 1) := by decide +kernel
theorem dX6_load_71 : decode cX6_load 71 = .ok (.lshr, 1) := by decide +kernel
theorem dX6_load_72 : decode cX6_load 72 = .ok (.l2i, 1) := by decide +kernel
theorem dX6_load_73 : decode cX6_load 73 = .ok (.sipush 255, 3) := by decide +kernel
theorem dX6_load_76 : decode cX6_load 76 = .ok (.iand, 1) := by decide +kernel
theorem dX6_load_77 : decode cX6_load 77 = .ok (.iastore, 1) := by decide +kernel
theorem dX6_load_78 : decode cX6_load 78 = .ok (.aload_n 0, 1) := by decide +kernel
theorem dX6_load_79 : decode cX6_load 79 = .ok (.getfield 33, 3) := by decide +kernel
theorem dX6_load_82 : decode cX6_load 82 = .ok (.iload_n 1, 1) := by decide +kernel
theorem dX6_load_83 : decode cX6_load 83 = .ok (.dup2, 1) := by decide +kernel
theorem dX6_load_84 : decode cX6_load 84 = .ok (.iaload, 1) := by decide +kernel
theorem dX6_load_85 : decode cX6_load 85 = .ok (.iconst 1, 1) := by decide +kernel
theorem dX6_load_86 : decode cX6_load 86 = .ok (.iadd, 1) := by decide +kernel
theorem dX6_load_87 : decode cX6_load 87 = .ok (.iastore, 1) := by decide +kernel
theorem dX6_load_88 : decode cX6_load 88 = .ok (.iinc 5 (-1), 3) := by decide +kernel
theorem dX6_load_91 : decode cX6_load 91 = .ok (.goto (-47), 3) := by decide +kernel
theorem dX6_load_94 : decode cX6_load 94 = .ok (.aload_n 0, 1) := by decide +kernel
theorem dX6_load_95 : decode cX6_load 95 = .ok (.getfield 33, 3) := by decide +kernel
theorem dX6_load_98 : decode cX6_load 98 = .ok (.iload_n 1, 1) := by decide +kernel
theorem dX6_load_99 : decode cX6_load 99 = .ok (.iaload, 1) := by decide +kernel
theorem dX6_load_100 : decode cX6_load 100 = .ok (.ireturn, 1) := by decide +kernel
set_option maxRecDepth 100000 in
theorem ggX6_forget_X6_isSprite : GoodIn wsX6_forget wsX6_isSprite := goodIn_r _ [6] rfl (by decide +kernel)
set_option maxRecDepth 20000 in
theorem gX6_forget_X6_isSprite : GoodIn wsX6_forget (wsV RX6 116 RX6 yX6_isSprite wsX6_isSprite) := goodIn_app (goodIn_of _ (by decide +kernel)) ggX6_forget_X6_isSprite
theorem dX6_forget_0 : decode cX6_forget 0 = .ok (.aload_n 0, 1) := by decide +kernel
theorem dX6_forget_1 : decode cX6_forget 1 = .ok (.iload_n 1, 1) := by decide +kernel
theorem dX6_forget_2 : decode cX6_forget 2 = .ok (.invokevirtual 116, 3) := by decide +kernel
theorem dX6_forget_5 : decode cX6_forget 5 = .ok (.ifCond .ne 5, 3) := by decide +kernel
theorem dX6_forget_8 : decode cX6_forget 8 = .ok (.iconst (-1), 1) := by decide +kernel
theorem dX6_forget_9 : decode cX6_forget 9 = .ok (.ireturn, 1) := by decide +kernel
theorem dX6_forget_10 : decode cX6_forget 10 = .ok (.aload_n 0, 1) := by decide +kernel
theorem dX6_forget_11 : decode cX6_forget 11 = .ok (.getfield 33, 3) := by decide +kernel
theorem dX6_forget_14 : decode cX6_forget 14 = .ok (.iload_n 1, 1) := by decide +kernel
theorem dX6_forget_15 : decode cX6_forget 15 = .ok (.iaload, 1) := by decide +kernel
theorem dX6_forget_16 : decode cX6_forget 16 = .ok (.istore_n 2, 1) := by decide +kernel
theorem dX6_forget_17 : decode cX6_forget 17 = .ok (.aload_n 0, 1) := by decide +kernel
theorem dX6_forget_18 : decode cX6_forget 18 = .ok (.getfield 33, 3) := by decide +kernel
theorem dX6_forget_21 : decode cX6_forget 21 = .ok (.iload_n 1, 1) := by decide +kernel
theorem dX6_forget_22 : decode cX6_forget 22 = .ok (.iconst 0, 1) := by decide +kernel
theorem dX6_forget_23 : decode cX6_forget 23 = .ok (.iastore, 1) := by decide +kernel
theorem dX6_forget_24 : decode cX6_forget 24 = .ok (.iload_n 2, 1) := by decide +kernel
theorem dX6_forget_25 : decode cX6_forget 25 = .ok (.ireturn, 1) := by decide +kernel
set_option maxRecDepth 100000 in
theorem ggX6_part_X6_isSprite : GoodIn wsX6_part wsX6_isSprite := goodIn_r _ [7] rfl (by decide +kernel)
set_option maxRecDepth 20000 in
theorem gX6_part_X6_isSprite : GoodIn wsX6_part (wsV RX6 116 RX6 yX6_isSprite wsX6_isSprite) := goodIn_app (goodIn_of _ (by decide +kernel)) ggX6_part_X6_isSprite
theorem dX6_part_0 : decode cX6_part 0 = .ok (.aload_n 0, 1) := by decide +kernel
theorem dX6_part_1 : decode cX6_part 1 = .ok (.iload_n 1, 1) := by decide +kernel
theorem dX6_part_2 : decode cX6_part 2 = .ok (.invokevirtual 116, 3) := by decide +kernel
theorem dX6_part_5 : decode cX6_part 5 = .ok (.ifCond .eq 32, 3) := by decide +kernel
theorem dX6_part_8 : decode cX6_part 8 = .ok (.iload_n 2, 1) := by decide +kernel
theorem dX6_part_9 : decode cX6_part 9 = .ok (.ifCond .lt 28, 3) := by decide +kernel
theorem dX6_part_12 : decode cX6_part 12 = .ok (.iload_n 2, 1) := by decide +kernel
theorem dX6_part_13 : decode cX6_part 13 = .ok (.aload_n 0, 1) := by decide +kernel
theorem dX6_part_14 : decode cX6_part 14 = .ok (.getfield 33, 3) := by decide +kernel
theorem dX6_part_17 : decode cX6_part 17 = .ok (.iload_n 1, 1) := by decide +kernel
theorem dX6_part_18 : decode cX6_part 18 = .ok (.iaload, 1) := by decide +kernel
theorem dX6_part_19 : decode cX6_part 19 = .ok (.if_icmp .ge 18, 3) := by decide +kernel
theorem dX6_part_22 : decode cX6_part 22 = .ok (.aload_n 0, 1) := by decide +kernel
theorem dX6_part_23 : decode cX6_part 23 = .ok (.getfield 36, 3) := by decide +kernel
theorem dX6_part_26 : decode cX6_part 26 = .ok (.sipush 5000, 3) := by decide +kernel
theorem dX6_part_29 : decode cX6_part 29 = .ok (.iload_n 1, 1) := by decide +kernel
theorem dX6_part_30 : decode cX6_part 30 = .ok (.imul, 1) := by decide +kernel
theorem dX6_part_31 : decode cX6_part 31 = .ok (.iload_n 2, 1) := by decide +kernel
theorem dX6_part_32 : decode cX6_part 32 = .ok (.iadd, 1) := by decide +kernel
theorem dX6_part_33 : decode cX6_part 33 = .ok (.iaload, 1) := by decide +kernel
theorem dX6_part_34 : decode cX6_part 34 = .ok (.goto 4, 3) := by decide +kernel
theorem dX6_part_37 : decode cX6_part 37 = .ok (.iconst (-1), 1) := by decide +kernel
theorem dX6_part_38 : decode cX6_part 38 = .ok (.ireturn, 1) := by decide +kernel
theorem dX6_add_0 : decode cX6_add 0 = .ok (.aload_n 0, 1) := by decide +kernel
theorem dX6_add_1 : decode cX6_add 1 = .ok (.getfield 42, 3) := by decide +kernel
theorem dX6_add_4 : decode cX6_add 4 = .ok (.aload_n 0, 1) := by decide +kernel
theorem dX6_add_5 : decode cX6_add 5 = .ok (.getfield 123, 3) := by decide +kernel
theorem dX6_add_8 : decode cX6_add 8 = .ok (.iload_n 1, 1) := by decide +kernel
theorem dX6_add_9 : decode cX6_add 9 = .ok (.iastore, 1) := by decide +kernel
theorem dX6_add_10 : decode cX6_add 10 = .ok (.aload_n 0, 1) := by decide +kernel
theorem dX6_add_11 : decode cX6_add 11 = .ok (.getfield 45, 3) := by decide +kernel
theorem dX6_add_14 : decode cX6_add 14 = .ok (.aload_n 0, 1) := by decide +kernel
theorem dX6_add_15 : decode cX6_add 15 = .ok (.getfield 123, 3) := by decide +kernel
theorem dX6_add_18 : decode cX6_add 18 = .ok (.iload_n 2, 1) := by decide +kernel
theorem dX6_add_19 : decode cX6_add 19 = .ok (.iastore, 1) := by decide +kernel
theorem dX6_add_20 : decode cX6_add 20 = .ok (.aload_n 0, 1) := by decide +kernel
theorem dX6_add_21 : decode cX6_add 21 = .ok (.getfield 48, 3) := by decide +kernel
theorem dX6_add_24 : decode cX6_add 24 = .ok (.aload_n 0, 1) := by decide +kernel
theorem dX6_add_25 : decode cX6_add 25 = .ok (.getfield 123, 3) := by decide +kernel
theorem dX6_add_28 : decode cX6_add 28 = .ok (.iload_n 3, 1) := by decide +kernel
theorem dX6_add_29 : decode cX6_add 29 = .ok (.iastore, 1) := by decide +kernel
theorem dX6_add_30 : decode cX6_add 30 = .ok (.aload_n 0, 1) := by decide +kernel
theorem dX6_add_31 : decode cX6_add 31 = .ok (.dup, 1) := by decide +kernel
theorem dX6_add_32 : decode cX6_add 32 = .ok (.getfield 123, 3) := by decide +kernel
theorem dX6_add_35 : decode cX6_add 35 = .ok (.iconst 1, 1) := by decide +kernel
theorem dX6_add_36 : decode cX6_add 36 = .ok (.iadd, 1) := by decide +kernel
theorem dX6_add_37 : decode cX6_add 37 = .ok (.putfield 123, 3) := by decide +kernel
theorem dX6_add_40 : decode cX6_add 40 = .ok (.return_, 1) := by decide +kernel
set_option maxRecDepth 100000 in
theorem ggX6_readSprite_X6_fits : GoodIn wsX6_readSprite wsX6_fits := goodIn_r _ [8, 9, 17, 18, 19, 20, 21, 22, 23, 24, 25, 26, 27, 28, 29, 30, 31, 32] rfl (by decide +kernel)
set_option maxRecDepth 20000 in
theorem gX6_readSprite_X6_fits : GoodIn wsX6_readSprite (wsV RX6 70 RX6 yX6_fits wsX6_fits) := goodIn_app (goodIn_of _ (by decide +kernel)) ggX6_readSprite_X6_fits
set_option maxRecDepth 100000 in
theorem ggX6_readSprite_X6_add : GoodIn wsX6_readSprite wsX6_add := goodIn_r _ [13, 14, 1, 15, 16, 17, 18, 19, 20, 21, 22, 23, 24, 25, 26, 27, 28, 29, 30, 31, 32] rfl (by decide +kernel)
set_option maxRecDepth 20000 in
theorem gX6_readSprite_X6_add : GoodIn wsX6_readSprite (wsV RX6 126 RX6 yX6_add wsX6_add) := goodIn_app (goodIn_of _ (by decide +kernel)) ggX6_readSprite_X6_add
theorem dX6_readSprite_0 : decode cX6_readSprite 0 = .ok (.aload_n 0, 1) := by decide +kernel
theorem dX6_readSprite_1 : decode cX6_readSprite 1 = .ok (.iconst 0, 1) := by decide +kernel
theorem dX6_readSprite_2 : decode cX6_readSprite 2 = .ok (.putfield 123, 3) := by decide +kernel
theorem dX6_readSprite_5 : decode cX6_readSprite 5 = .ok (.aload_n 0, 1) := by decide +kernel
theorem dX6_readSprite_6 : decode cX6_readSprite 6 = .ok (.getfield 33, 3) := by decide +kernel
theorem dX6_readSprite_9 : decode cX6_readSprite 9 = .ok (.iload_n 1, 1) := by decide +kernel
theorem dX6_readSprite_10 : decode cX6_readSprite 10 = .ok (.iaload, 1) := by decide +kernel
theorem dX6_readSprite_11 : decode cX6_readSprite 11 = .ok (.istore_n 3, 1) := by decide +kernel
theorem dX6_readSprite_12 : decode cX6_readSprite 12 = .ok (.iconst 0, 1) := by decide +kernel
theorem dX6_readSprite_13 : decode cX6_readSprite 13 = .ok (.istore 4, 2) := by decide +kernel
theorem dX6_readSprite_15 : decode cX6_readSprite 15 = .ok (.iconst 0, 1) := by decide +kernel
theorem dX6_readSprite_16 : decode cX6_readSprite 16 = .ok (.istore 5, 2) := by decide +kernel
theorem dX6_readSprite_18 : decode cX6_readSprite 18 = .ok (.iconst 0, 1) := by decide +kernel
theorem dX6_readSprite_19 : decode cX6_readSprite 19 = .ok (.istore 6, 2) := by decide +kernel
theorem dX6_readSprite_21 : decode cX6_readSprite 21 = .ok (.iconst 0, 1) := by decide +kernel
theorem dX6_readSprite_22 : decode cX6_readSprite 22 = .ok (.istore 7, 2) := by decide +kernel
theorem dX6_readSprite_24 : decode cX6_readSprite 24 = .ok (.iload 7, 2) := by decide +kernel
theorem dX6_readSprite_26 : decode cX6_readSprite 26 = .ok (.iload_n 3, 1) := by decide +kernel
theorem dX6_readSprite_27 : decode cX6_readSprite 27 = .ok (.if_icmp .ge 227, 3) := by decide +kernel
theorem dX6_readSprite_30 : decode cX6_readSprite 30 = .ok (.aload_n 0, 1) := by decide +kernel
theorem dX6_readSprite_31 : decode cX6_readSprite 31 = .ok (.getfield 36, 3) := by decide +kernel
theorem dX6_readSprite_34 : decode cX6_readSprite 34 = .ok (.sipush 5000, 3) := by decide +kernel
theorem dX6_readSprite_37 : decode cX6_readSprite 37 = .ok (.iload_n 1, 1) := by decide +kernel
theorem dX6_readSprite_38 : decode cX6_readSprite 38 = .ok (.imul, 1) := by decide +kernel
theorem dX6_readSprite_39 : decode cX6_readSprite 39 = .ok (.iload 7, 2) := by decide +kernel
theorem dX6_readSprite_41 : decode cX6_readSprite 41 = .ok (.iadd, 1) := by decide +kernel
theorem dX6_readSprite_42 : decode cX6_readSprite 42 = .ok (.iaload, 1) := by decide +kernel
theorem dX6_readSprite_43 : decode cX6_readSprite 43 = .ok (.istore 8, 2) := by decide +kernel
theorem dX6_readSprite_45 : decode cX6_readSprite 45 = .ok (.iload 8, 2) := by decide +kernel
theorem dX6_readSprite_47 : decode cX6_readSprite 47 = .ok (.bipush 63, 2) := by decide +kernel
theorem dX6_readSprite_49 : decode cX6_readSprite 49 = .ok (.iand, 1) := by decide +kernel
theorem dX6_readSprite_50 : decode cX6_readSprite 50 = .ok (.istore 9, 2) := by decide +kernel
theorem dX6_readSprite_52 : decode cX6_readSprite 52 = .ok (.iload 8, 2) := by decide +kernel
theorem dX6_readSprite_54 : decode cX6_readSprite 54 = .ok (.bipush 6, 2) := by decide +kernel
theorem dX6_readSprite_56 : decode cX6_readSprite 56 = .ok (.ishr, 1) := by decide +kernel
theorem dX6_readSprite_57 : decode cX6_readSprite 57 = .ok (.istore 10, 2) := by decide +kernel
theorem dX6_readSprite_59 : decode cX6_readSprite 59 = .ok (.iload 4, 2) := by decide +kernel
theorem dX6_readSprite_61 : decode cX6_readSprite 61 = .ok (.bipush 64, 2) := by decide +kernel
theorem dX6_readSprite_63 : decode cX6_readSprite 63 = .ok (.if_icmp .eq 29, 3) := by decide +kernel
theorem dX6_readSprite_66 : decode cX6_readSprite 66 = .ok (.iload 8, 2) := by decide +kernel
theorem dX6_readSprite_68 : decode cX6_readSprite 68 = .ok (.ifCond .le 29, 3) := by decide +kernel
theorem dX6_readSprite_71 : decode cX6_readSprite 71 = .ok (.iload 10, 2) := by decide +kernel
theorem dX6_readSprite_73 : decode cX6_readSprite 73 = .ok (.iconst 3, 1) := by decide +kernel
theorem dX6_readSprite_74 : decode cX6_readSprite 74 = .ok (.if_icmp .eq 18, 3) := by decide +kernel
theorem dX6_readSprite_77 : decode cX6_readSprite 77 = .ok (.iload 9, 2) := by decide +kernel
theorem dX6_readSprite_79 : decode cX6_readSprite 79 = .ok (.ifCond .eq 13, 3) := by decide +kernel
theorem dX6_readSprite_82 : decode cX6_readSprite 82 = .ok (.iload 5, 2) := by decide +kernel
theorem dX6_readSprite_84 : decode cX6_readSprite 84 = .ok (.iload 9, 2) := by decide +kernel
theorem dX6_readSprite_86 : decode cX6_readSprite 86 = .ok (.iadd, 1) := by decide +kernel
theorem dX6_readSprite_87 : decode cX6_readSprite 87 = .ok (.bipush 64, 2) := by decide +kernel
theorem dX6_readSprite_89 : decode cX6_readSprite 89 = .ok (.if_icmp .le 8, 3) := by decide +kernel
theorem dX6_readSprite_92 : decode cX6_readSprite 92 = .ok (.iload 7, 2) := by decide +kernel
theorem dX6_readSprite_94 : decode cX6_readSprite 94 = .ok (.iconst 1, 1) := by decide +kernel
theorem dX6_readSprite_95 : decode cX6_readSprite 95 = .ok (.iadd, 1) := by decide +kernel
theorem dX6_readSprite_96 : decode cX6_readSprite 96 = .ok (.ireturn, 1) := by decide +kernel
theorem dX6_readSprite_97 : decode cX6_readSprite 97 = .ok (.iinc 7 1, 3) := by decide +kernel
theorem dX6_readSprite_100 : decode cX6_readSprite 100 = .ok (.iload 8, 2) := by decide +kernel
theorem dX6_readSprite_102 : decode cX6_readSprite 102 = .ok (.ifCond .ne 15, 3) := by decide +kernel
theorem dX6_readSprite_105 : decode cX6_readSprite 105 = .ok (.iinc 4 1, 3) := by decide +kernel
theorem dX6_readSprite_108 : decode cX6_readSprite 108 = .ok (.iconst 0, 1) := by decide +kernel
theorem dX6_readSprite_109 : decode cX6_readSprite 109 = .ok (.istore 5, 2) := by decide +kernel
theorem dX6_readSprite_111 : decode cX6_readSprite 111 = .ok (.iconst 0, 1) := by decide +kernel
theorem dX6_readSprite_112 : decode cX6_readSprite 112 = .ok (.istore 6, 2) := by decide +kernel
theorem dX6_readSprite_114 : decode cX6_readSprite 114 = .ok (.goto (-90), 3) := by decide +kernel
theorem dX6_readSprite_117 : decode cX6_readSprite 117 = .ok (.iconst 1, 1) := by decide +kernel
theorem dX6_readSprite_118 : decode cX6_readSprite 118 = .ok (.istore 6, 2) := by decide +kernel
theorem dX6_readSprite_120 : decode cX6_readSprite 120 = .ok (.iload 10, 2) := by decide +kernel
theorem dX6_readSprite_122 : decode cX6_readSprite 122 = .ok (.ifCond .ne 7, 3) := by decide +kernel
theorem dX6_readSprite_125 : decode cX6_readSprite 125 = .ok (.iconst 0, 1) := by decide +kernel
theorem dX6_readSprite_126 : decode cX6_readSprite 126 = .ok (.goto 15, 3) := by decide +kernel
theorem dX6_readSprite_129 : decode cX6_readSprite 129 = .ok (.iload 10, 2) := by decide +kernel
theorem dX6_readSprite_131 : decode cX6_readSprite 131 = .ok (.iconst 1, 1) := by decide +kernel
theorem dX6_readSprite_132 : decode cX6_readSprite 132 = .ok (.if_icmp .ne 8, 3) := by decide +kernel
theorem dX6_readSprite_135 : decode cX6_readSprite 135 = .ok (.iload 9, 2) := by decide +kernel
theorem dX6_readSprite_137 : decode cX6_readSprite 137 = .ok (.goto 4, 3) := by decide +kernel
theorem dX6_readSprite_140 : decode cX6_readSprite 140 = .ok (.iconst 1, 1) := by decide +kernel
theorem dX6_readSprite_141 : decode cX6_readSprite 141 = .ok (.istore 11, 2) := by decide +kernel
theorem dX6_readSprite_143 : decode cX6_readSprite 143 = .ok (.iconst 0, 1) := by decide +kernel
theorem dX6_readSprite_144 : decode cX6_readSprite 144 = .ok (.istore 12, 2) := by decide +kernel
theorem dX6_readSprite_146 : decode cX6_readSprite 146 = .ok (.iload 12, 2) := by decide +kernel
theorem dX6_readSprite_148 : decode cX6_readSprite 148 = .ok (.iload 11, 2) := by decide +kernel
theorem dX6_readSprite_150 : decode cX6_readSprite 150 = .ok (.if_icmp .ge 94, 3) := by decide +kernel
theorem dX6_readSprite_153 : decode cX6_readSprite 153 = .ok (.iload 7, 2) := by decide +kernel
theorem dX6_readSprite_155 : decode cX6_readSprite 155 = .ok (.iload_n 3, 1) := by decide +kernel
theorem dX6_readSprite_156 : decode cX6_readSprite 156 = .ok (.if_icmp .ne 7, 3) := by decide +kernel
theorem dX6_readSprite_159 : decode cX6_readSprite 159 = .ok (.iload_n 3, 1) := by decide +kernel
theorem dX6_readSprite_160 : decode cX6_readSprite 160 = .ok (.iconst 1, 1) := by decide +kernel
theorem dX6_readSprite_161 : decode cX6_readSprite 161 = .ok (.iadd, 1) := by decide +kernel
theorem dX6_readSprite_162 : decode cX6_readSprite 162 = .ok (.ireturn, 1) := by decide +kernel
theorem dX6_readSprite_163 : decode cX6_readSprite 163 = .ok (.aload_n 0, 1) := by decide +kernel
theorem dX6_readSprite_164 : decode cX6_readSprite 164 = .ok (.getfield 36, 3) := by decide +kernel
theorem dX6_readSprite_167 : decode cX6_readSprite 167 = .ok (.sipush 5000, 3) := by decide +kernel
theorem dX6_readSprite_170 : decode cX6_readSprite 170 = .ok (.iload_n 1, 1) := by decide +kernel
theorem dX6_readSprite_171 : decode cX6_readSprite 171 = .ok (.imul, 1) := by decide +kernel
theorem dX6_readSprite_172 : decode cX6_readSprite 172 = .ok (.iload 7, 2) := by decide +kernel
theorem dX6_readSprite_174 : decode cX6_readSprite 174 = .ok (.iadd, 1) := by decide +kernel
theorem dX6_readSprite_175 : decode cX6_readSprite 175 = .ok (.iaload, 1) := by decide +kernel
theorem dX6_readSprite_176 : decode cX6_readSprite 176 = .ok (.istore 13, 2) := by decide +kernel
theorem dX6_readSprite_178 : decode cX6_readSprite 178 = .ok (.aload_n 0, 1) := by decide +kernel
theorem dX6_readSprite_179 : decode cX6_readSprite 179 = .ok (.iload_n 2, 1) := by decide +kernel
theorem dX6_readSprite_180 : decode cX6_readSprite 180 = .ok (.iload 13, 2) := by decide +kernel
theorem dX6_readSprite_182 : decode cX6_readSprite 182 = .ok (.invokevirtual 70, 3) := by decide +kernel
theorem dX6_readSprite_185 : decode cX6_readSprite 185 = .ok (.ifCond .ne 8, 3) := by decide +kernel
theorem dX6_readSprite_188 : decode cX6_readSprite 188 = .ok (.iload 7, 2) := by decide +kernel
theorem dX6_readSprite_190 : decode cX6_readSprite 190 = .ok (.iconst 1, 1) := by decide +kernel
theorem dX6_readSprite_191 : decode cX6_readSprite 191 = .ok (.iadd, 1) := by decide +kernel
theorem dX6_readSprite_192 : decode cX6_readSprite 192 = .ok (.ireturn, 1) := by decide +kernel
theorem dX6_readSprite_193 : decode cX6_readSprite 193 = .ok (.iconst 0, 1) := by decide +kernel
theorem dX6_readSprite_194 : decode cX6_readSprite 194 = .ok (.istore 14, 2) := by decide +kernel
theorem dX6_readSprite_196 : decode cX6_readSprite 196 = .ok (.iload 14, 2) := by decide +kernel
theorem dX6_readSprite_198 : decode cX6_readSprite 198 = .ok (.iload 10, 2) := by decide +kernel
theorem dX6_readSprite_200 : decode cX6_readSprite 200 = .ok (.iconst 2, 1) := by decide +kernel
theorem dX6_readSprite_201 : decode cX6_readSprite 201 = .ok (.if_icmp .ne 8, 3) := by decide +kernel
theorem dX6_readSprite_204 : decode cX6_readSprite 204 = .ok (.iload 9, 2) := by decide +kernel
theorem dX6_readSprite_206 : decode cX6_readSprite 206 = .ok (.goto 4, 3) := by decide +kernel
theorem dX6_readSprite_209 : decode cX6_readSprite 209 = .ok (.iconst 1, 1) := by decide +kernel
theorem dX6_readSprite_210 : decode cX6_readSprite 210 = .ok (.if_icmp .ge 25, 3) := by decide +kernel
theorem dX6_readSprite_213 : decode cX6_readSprite 213 = .ok (.aload_n 0, 1) := by decide +kernel
theorem dX6_readSprite_214 : decode cX6_readSprite 214 = .ok (.iload 5, 2) := by decide +kernel
theorem dX6_readSprite_216 : decode cX6_readSprite 216 = .ok (.iload 12, 2) := by decide +kernel
theorem dX6_readSprite_218 : decode cX6_readSprite 218 = .ok (.iadd, 1) := by decide +kernel
theorem dX6_readSprite_219 : decode cX6_readSprite 219 = .ok (.iload 14, 2) := by decide +kernel
theorem dX6_readSprite_221 : decode cX6_readSprite 221 = .ok (.iadd, 1) := by decide +kernel
theorem dX6_readSprite_222 : decode cX6_readSprite 222 = .ok (.iload 4, 2) := by decide +kernel
theorem dX6_readSprite_224 : decode cX6_readSprite 224 = .ok (.iload 13, 2) := by decide +kernel
theorem dX6_readSprite_226 : decode cX6_readSprite 226 = .ok (.invokevirtual 126, 3) := by decide +kernel
theorem dX6_readSprite_229 : decode cX6_readSprite 229 = .ok (.iinc 14 1, 3) := by decide +kernel
theorem dX6_readSprite_232 : decode cX6_readSprite 232 = .ok (.goto (-36), 3) := by decide +kernel
theorem dX6_readSprite_235 : decode cX6_readSprite 235 = .ok (.iinc 7 1, 3) := by decide +kernel
theorem dX6_readSprite_238 : decode cX6_readSprite 238 = .ok (.iinc 12 1, 3) := by decide +kernel
theorem dX6_readSprite_241 : decode cX6_readSprite 241 = .ok (.goto (-95), 3) := by decide +kernel
theorem dX6_readSprite_244 : decode cX6_readSprite 244 = .ok (.iload 5, 2) := by decide +kernel
theorem dX6_readSprite_246 : decode cX6_readSprite 246 = .ok (.iload 9, 2) := by decide +kernel
theorem dX6_readSprite_248 : decode cX6_readSprite 248 = .ok (.iadd, 1) := by decide +kernel
theorem dX6_readSprite_249 : decode cX6_readSprite 249 = .ok (.istore 5, 2) := by decide +kernel
theorem dX6_readSprite_251 : decode cX6_readSprite 251 = .ok (.goto (-227), 3) := by decide +kernel
theorem dX6_readSprite_254 : decode cX6_readSprite 254 = .ok (.iload 6, 2) := by decide +kernel
theorem dX6_readSprite_256 : decode cX6_readSprite 256 = .ok (.ifCond .eq 9, 3) := by decide +kernel
theorem dX6_readSprite_259 : decode cX6_readSprite 259 = .ok (.iload_n 3, 1) := by decide +kernel
theorem dX6_readSprite_260 : decode cX6_readSprite 260 = .ok (.iconst 1, 1) := by decide +kernel
theorem dX6_readSprite_261 : decode cX6_readSprite 261 = .ok (.iadd, 1) := by decide +kernel
theorem dX6_readSprite_262 : decode cX6_readSprite 262 = .ok (.goto 4, 3) := by decide +kernel
theorem dX6_readSprite_265 : decode cX6_readSprite 265 = .ok (.iconst 0, 1) := by decide +kernel
theorem dX6_readSprite_266 : decode cX6_readSprite 266 = .ok (.ireturn, 1) := by decide +kernel
set_option maxRecDepth 100000 in
theorem ggX6_draw_X6_isSprite : GoodIn wsX6_draw wsX6_isSprite := goodIn_r _ [10] rfl (by decide +kernel)
set_option maxRecDepth 20000 in
theorem gX6_draw_X6_isSprite : GoodIn wsX6_draw (wsV RX6 116 RX6 yX6_isSprite wsX6_isSprite) := goodIn_app (goodIn_of _ (by decide +kernel)) ggX6_draw_X6_isSprite
set_option maxRecDepth 100000 in
theorem ggX6_draw_X6_isSurface : GoodIn wsX6_draw wsX6_isSurface := goodIn_r _ [14, 15, 36, 37, 38, 39, 40, 41, 42, 43, 44, 45, 46, 47, 48, 49, 50, 51] rfl (by decide +kernel)
set_option maxRecDepth 20000 in
theorem gX6_draw_X6_isSurface : GoodIn wsX6_draw (wsV RX6 59 RX6 yX6_isSurface wsX6_isSurface) := goodIn_app (goodIn_of _ (by decide +kernel)) ggX6_draw_X6_isSurface
set_option maxRecDepth 100000 in
theorem ggX6_draw_X6_readSprite : GoodIn wsX6_draw wsX6_readSprite := goodIn_r _ [19, 1, 20, 21, 22, 23, 24, 9, 25, 26, 27, 28, 29, 30, 2, 3, 5, 36, 37, 38, 39, 40, 41, 42, 43, 44, 45, 46, 47, 48, 49, 50, 51] rfl (by decide +kernel)
set_option maxRecDepth 20000 in
theorem gX6_draw_X6_readSprite : GoodIn wsX6_draw (wsV RX6 129 RX6 yX6_readSprite wsX6_readSprite) := goodIn_app (goodIn_of _ (by decide +kernel)) ggX6_draw_X6_readSprite
set_option maxRecDepth 100000 in
theorem ggX6_draw_X6_isInClip : GoodIn wsX6_draw wsX6_isInClip := goodIn_r _ [34, 35, 36, 37, 38, 39, 40, 41, 42, 43, 44, 45, 46, 47, 48, 49, 50, 51] rfl (by decide +kernel)
set_option maxRecDepth 20000 in
theorem gX6_draw_X6_isInClip : GoodIn wsX6_draw (wsV RX6 78 RX6 yX6_isInClip wsX6_isInClip) := goodIn_app (goodIn_of _ (by decide +kernel)) ggX6_draw_X6_isInClip
theorem dX6_draw_0 : decode cX6_draw 0 = .ok (.aload_n 0, 1) := by decide +kernel
theorem dX6_draw_1 : decode cX6_draw 1 = .ok (.iload_n 1, 1) := by decide +kernel
theorem dX6_draw_2 : decode cX6_draw 2 = .ok (.invokevirtual 116, 3) := by decide +kernel
theorem dX6_draw_5 : decode cX6_draw 5 = .ok (.ifCond .eq 11, 3) := by decide +kernel
theorem dX6_draw_8 : decode cX6_draw 8 = .ok (.aload_n 0, 1) := by decide +kernel
theorem dX6_draw_9 : decode cX6_draw 9 = .ok (.iload_n 2, 1) := by decide +kernel
theorem dX6_draw_10 : decode cX6_draw 10 = .ok (.invokevirtual 59, 3) := by decide +kernel
theorem dX6_draw_13 : decode cX6_draw 13 = .ok (.ifCond .ne 5, 3) := by decide +kernel
theorem dX6_draw_16 : decode cX6_draw 16 = .ok (.iconst (-1), 1) := by decide +kernel
theorem dX6_draw_17 : decode cX6_draw 17 = .ok (.ireturn, 1) := by decide +kernel
theorem dX6_draw_18 : decode cX6_draw 18 = .ok (.aload_n 0, 1) := by decide +kernel
theorem dX6_draw_19 : decode cX6_draw 19 = .ok (.iload_n 1, 1) := by decide +kernel
theorem dX6_draw_20 : decode cX6_draw 20 = .ok (.iload_n 2, 1) := by decide +kernel
theorem dX6_draw_21 : decode cX6_draw 21 = .ok (.invokevirtual 129, 3) := by decide +kernel
theorem dX6_draw_24 : decode cX6_draw 24 = .ok (.istore 5, 2) := by decide +kernel
theorem dX6_draw_26 : decode cX6_draw 26 = .ok (.iconst 0, 1) := by decide +kernel
theorem dX6_draw_27 : decode cX6_draw 27 = .ok (.istore 6, 2) := by decide +kernel
theorem dX6_draw_29 : decode cX6_draw 29 = .ok (.iload 6, 2) := by decide +kernel
theorem dX6_draw_31 : decode cX6_draw 31 = .ok (.aload_n 0, 1) := by decide +kernel
theorem dX6_draw_32 : decode cX6_draw 32 = .ok (.getfield 123, 3) := by decide +kernel
theorem dX6_draw_35 : decode cX6_draw 35 = .ok (.if_icmp .ge 81, 3) := by decide +kernel
theorem dX6_draw_38 : decode cX6_draw 38 = .ok (.iload 5, 2) := by decide +kernel
end
section
theorem dX6_draw_40 : decode cX6_draw 40 = .ok (.ifCond .ne 76, 3) := by decide +kernel
theorem dX6_draw_43 : decode cX6_draw 43 = .ok (.iload_n 3, 1) := by decide +kernel
theorem dX6_draw_44 : decode cX6_draw 44 = .ok (.i2l, 1) := by decide +kernel
theorem dX6_draw_45 : decode cX6_draw 45 = .ok (.aload_n 0, 1) := by decide +kernel
theorem dX6_draw_46 : decode cX6_draw 46 = .ok (.getfield 42, 3) := by decide +kernel
theorem dX6_draw_49 : decode cX6_draw 49 = .ok (.iload 6, 2) := by decide +kernel
theorem dX6_draw_51 : decode cX6_draw 51 = .ok (.iaload, 1) := by decide +kernel
theorem dX6_draw_52 : decode cX6_draw 52 = .ok (.i2l, 1) := by decide +kernel
theorem dX6_draw_53 : decode cX6_draw 53 = .ok (.ladd, 1) := by decide +kernel
theorem dX6_draw_54 : decode cX6_draw 54 = .ok (.lstore 7, 2) := by decide +kernel
theorem dX6_draw_56 : decode cX6_draw 56 = .ok (.iload 4, 2) := by decide +kernel
theorem dX6_draw_58 : decode cX6_draw 58 = .ok (.i2l, 1) := by decide +kernel
theorem dX6_draw_59 : decode cX6_draw 59 = .ok (.aload_n 0, 1) := by decide +kernel
theorem dX6_draw_60 : decode cX6_draw 60 = .ok (.getfield 45, 3) := by decide +kernel
theorem dX6_draw_63 : decode cX6_draw 63 = .ok (.iload 6, 2) := by decide +kernel
theorem dX6_draw_65 : decode cX6_draw 65 = .ok (.iaload, 1) := by decide +kernel
theorem dX6_draw_66 : decode cX6_draw 66 = .ok (.i2l, 1) := by decide +kernel
theorem dX6_draw_67 : decode cX6_draw 67 = .ok (.ladd, 1) := by decide +kernel
theorem dX6_draw_68 : decode cX6_draw 68 = .ok (.lstore 9, 2) := by decide +kernel
theorem dX6_draw_70 : decode cX6_draw 70 = .ok (.aload_n 0, 1) := by decide +kernel
theorem dX6_draw_71 : decode cX6_draw 71 = .ok (.iload_n 2, 1) := by decide +kernel
theorem dX6_draw_72 : decode cX6_draw 72 = .ok (.lload 7, 2) := by decide +kernel
theorem dX6_draw_74 : decode cX6_draw 74 = .ok (.lload 9, 2) := by decide +kernel
theorem dX6_draw_76 : decode cX6_draw 76 = .ok (.invokevirtual 78, 3) := by decide +kernel
theorem dX6_draw_79 : decode cX6_draw 79 = .ok (.ifCond .eq 31, 3) := by decide +kernel
theorem dX6_draw_82 : decode cX6_draw 82 = .ok (.aload_n 0, 1) := by decide +kernel
theorem dX6_draw_83 : decode cX6_draw 83 = .ok (.getfield 23, 3) := by decide +kernel
theorem dX6_draw_86 : decode cX6_draw 86 = .ok (.sipush 4096, 3) := by decide +kernel
theorem dX6_draw_89 : decode cX6_draw 89 = .ok (.iload_n 2, 1) := by decide +kernel
theorem dX6_draw_90 : decode cX6_draw 90 = .ok (.imul, 1) := by decide +kernel
theorem dX6_draw_91 : decode cX6_draw 91 = .ok (.bipush 64, 2) := by decide +kernel
theorem dX6_draw_93 : decode cX6_draw 93 = .ok (.lload 9, 2) := by decide +kernel
theorem dX6_draw_95 : decode cX6_draw 95 = .ok (.l2i, 1) := by decide +kernel
theorem dX6_draw_96 : decode cX6_draw 96 = .ok (.imul, 1) := by decide +kernel
theorem dX6_draw_97 : decode cX6_draw 97 = .ok (.iadd, 1) := by decide +kernel
theorem dX6_draw_98 : decode cX6_draw 98 = .ok (.lload 7, 2) := by decide +kernel
theorem dX6_draw_100 : decode cX6_draw 100 = .ok (.l2i, 1) := by decide +kernel
theorem dX6_draw_101 : decode cX6_draw 101 = .ok (.iadd, 1) := by decide +kernel
theorem dX6_draw_102 : decode cX6_draw 102 = .ok (.aload_n 0, 1) := by decide +kernel
theorem dX6_draw_103 : decode cX6_draw 103 = .ok (.getfield 48, 3) := by decide +kernel
theorem dX6_draw_106 : decode cX6_draw 106 = .ok (.iload 6, 2) := by decide +kernel
theorem dX6_draw_108 : decode cX6_draw 108 = .ok (.iaload, 1) := by decide +kernel
theorem dX6_draw_109 : decode cX6_draw 109 = .ok (.iastore, 1) := by decide +kernel
theorem dX6_draw_110 : decode cX6_draw 110 = .ok (.iinc 6 1, 3) := by decide +kernel
theorem dX6_draw_113 : decode cX6_draw 113 = .ok (.goto (-84), 3) := by decide +kernel
theorem dX6_draw_116 : decode cX6_draw 116 = .ok (.iload 5, 2) := by decide +kernel
theorem dX6_draw_118 : decode cX6_draw 118 = .ok (.ireturn, 1) := by decide +kernel
theorem dX6_check_0 : decode cX6_check 0 = .ok (.iconst 1, 1) := by decide +kernel
theorem dX6_check_1 : decode cX6_check 1 = .ok (.ireturn, 1) := by decide +kernel
theorem dJ9_max_f86c9_0 : decode cJ9_max_f86c9 0 = .ok (.lload_n 0, 1) := by decide +kernel
theorem dJ9_max_f86c9_1 : decode cJ9_max_f86c9 1 = .ok (.lload_n 2, 1) := by decide +kernel
theorem dJ9_max_f86c9_2 : decode cJ9_max_f86c9 2 = .ok (.lcmp, 1) := by decide +kernel
theorem dJ9_max_f86c9_3 : decode cJ9_max_f86c9 3 = .ok (.ifCond .lt 7, 3) := by decide +kernel
theorem dJ9_max_f86c9_6 : decode cJ9_max_f86c9 6 = .ok (.lload_n 0, 1) := by decide +kernel
theorem dJ9_max_f86c9_7 : decode cJ9_max_f86c9 7 = .ok (.goto 4, 3) := by decide +kernel
theorem dJ9_max_f86c9_10 : decode cJ9_max_f86c9 10 = .ok (.lload_n 2, 1) := by decide +kernel
theorem dJ9_max_f86c9_11 : decode cJ9_max_f86c9 11 = .ok (.lreturn, 1) := by decide +kernel
theorem dJ9_min_7cf53_0 : decode cJ9_min_7cf53 0 = .ok (.iload_n 0, 1) := by decide +kernel
theorem dJ9_min_7cf53_1 : decode cJ9_min_7cf53 1 = .ok (.iload_n 1, 1) := by decide +kernel
theorem dJ9_min_7cf53_2 : decode cJ9_min_7cf53 2 = .ok (.if_icmp .gt 7, 3) := by decide +kernel
theorem dJ9_min_7cf53_5 : decode cJ9_min_7cf53 5 = .ok (.iload_n 0, 1) := by decide +kernel
theorem dJ9_min_7cf53_6 : decode cJ9_min_7cf53 6 = .ok (.goto 4, 3) := by decide +kernel
theorem dJ9_min_7cf53_9 : decode cJ9_min_7cf53 9 = .ok (.iload_n 1, 1) := by decide +kernel
theorem dJ9_min_7cf53_10 : decode cJ9_min_7cf53 10 = .ok (.ireturn, 1) := by decide +kernel
theorem dJ9_min_f86c9_0 : decode cJ9_min_f86c9 0 = .ok (.lload_n 0, 1) := by decide +kernel
theorem dJ9_min_f86c9_1 : decode cJ9_min_f86c9 1 = .ok (.lload_n 2, 1) := by decide +kernel
theorem dJ9_min_f86c9_2 : decode cJ9_min_f86c9 2 = .ok (.lcmp, 1) := by decide +kernel
theorem dJ9_min_f86c9_3 : decode cJ9_min_f86c9 3 = .ok (.ifCond .gt 7, 3) := by decide +kernel
theorem dJ9_min_f86c9_6 : decode cJ9_min_f86c9 6 = .ok (.lload_n 0, 1) := by decide +kernel
theorem dJ9_min_f86c9_7 : decode cJ9_min_f86c9 7 = .ok (.goto 4, 3) := by decide +kernel
theorem dJ9_min_f86c9_10 : decode cJ9_min_f86c9 10 = .ok (.lload_n 2, 1) := by decide +kernel
theorem dJ9_min_f86c9_11 : decode cJ9_min_f86c9 11 = .ok (.lreturn, 1) := by decide +kernel
theorem dJ7_rangeCheck_23922_0 : decode cJ7_rangeCheck_23922 0 = .ok (.iload_n 1, 1) := by decide +kernel
theorem dJ7_rangeCheck_23922_1 : decode cJ7_rangeCheck_23922 1 = .ok (.iload_n 2, 1) := by decide +kernel
theorem dJ7_rangeCheck_23922_2 : decode cJ7_rangeCheck_23922 2 = .ok (.if_icmp .le 44, 3) := by decide +kernel
theorem dJ7_rangeCheck_23922_5 : decode cJ7_rangeCheck_23922 5 = .ok (.new 43, 3) := by decide +kernel
theorem dJ7_rangeCheck_23922_8 : decode cJ7_rangeCheck_23922 8 = .ok (.dup, 1) := by decide +kernel
theorem dJ7_rangeCheck_23922_9 : decode cJ7_rangeCheck_23922 9 = .ok (.new 45, 3) := by decide +kernel
theorem dJ7_rangeCheck_23922_12 : decode cJ7_rangeCheck_23922 12 = .ok (.dup, 1) := by decide +kernel
theorem dJ7_rangeCheck_23922_13 : decode cJ7_rangeCheck_23922 13 = .ok (.invokespecial 47, 3) := by decide +kernel
theorem dJ7_rangeCheck_23922_16 : decode cJ7_rangeCheck_23922 16 = .ok (.ldc 48, 2) := by decide +kernel
theorem dJ7_rangeCheck_23922_18 : decode cJ7_rangeCheck_23922 18 = .ok (.invokevirtual 50, 3) := by decide +kernel
theorem dJ7_rangeCheck_23922_21 : decode cJ7_rangeCheck_23922 21 = .ok (.iload_n 1, 1) := by decide +kernel
theorem dJ7_rangeCheck_23922_22 : decode cJ7_rangeCheck_23922 22 = .ok (.invokevirtual 54, 3) := by decide +kernel
theorem dJ7_rangeCheck_23922_25 : decode cJ7_rangeCheck_23922 25 = .ok (.ldc 57, 2) := by decide +kernel
theorem dJ7_rangeCheck_23922_27 : decode cJ7_rangeCheck_23922 27 = .ok (.invokevirtual 50, 3) := by decide +kernel
theorem dJ7_rangeCheck_23922_30 : decode cJ7_rangeCheck_23922 30 = .ok (.iload_n 2, 1) := by decide +kernel
theorem dJ7_rangeCheck_23922_31 : decode cJ7_rangeCheck_23922 31 = .ok (.invokevirtual 54, 3) := by decide +kernel
theorem dJ7_rangeCheck_23922_34 : decode cJ7_rangeCheck_23922 34 = .ok (.ldc 59, 2) := by decide +kernel
theorem dJ7_rangeCheck_23922_36 : decode cJ7_rangeCheck_23922 36 = .ok (.invokevirtual 50, 3) := by decide +kernel
theorem dJ7_rangeCheck_23922_39 : decode cJ7_rangeCheck_23922 39 = .ok (.invokevirtual 61, 3) := by decide +kernel
theorem dJ7_rangeCheck_23922_42 : decode cJ7_rangeCheck_23922 42 = .ok (.invokespecial 65, 3) := by decide +kernel
theorem dJ7_rangeCheck_23922_45 : decode cJ7_rangeCheck_23922 45 = .ok (.athrow, 1) := by decide +kernel
theorem dJ7_rangeCheck_23922_46 : decode cJ7_rangeCheck_23922 46 = .ok (.iload_n 1, 1) := by decide +kernel
theorem dJ7_rangeCheck_23922_47 : decode cJ7_rangeCheck_23922 47 = .ok (.ifCond .ge 12, 3) := by decide +kernel
theorem dJ7_rangeCheck_23922_50 : decode cJ7_rangeCheck_23922 50 = .ok (.new 68, 3) := by decide +kernel
theorem dJ7_rangeCheck_23922_53 : decode cJ7_rangeCheck_23922 53 = .ok (.dup, 1) := by decide +kernel
theorem dJ7_rangeCheck_23922_54 : decode cJ7_rangeCheck_23922 54 = .ok (.iload_n 1, 1) := by decide +kernel
theorem dJ7_rangeCheck_23922_55 : decode cJ7_rangeCheck_23922 55 = .ok (.invokespecial 70, 3) := by decide +kernel
theorem dJ7_rangeCheck_23922_58 : decode cJ7_rangeCheck_23922 58 = .ok (.athrow, 1) := by decide +kernel
theorem dJ7_rangeCheck_23922_59 : decode cJ7_rangeCheck_23922 59 = .ok (.iload_n 2, 1) := by decide +kernel
theorem dJ7_rangeCheck_23922_60 : decode cJ7_rangeCheck_23922 60 = .ok (.iload_n 0, 1) := by decide +kernel
theorem dJ7_rangeCheck_23922_61 : decode cJ7_rangeCheck_23922 61 = .ok (.if_icmp .le 12, 3) := by decide +kernel
theorem dJ7_rangeCheck_23922_64 : decode cJ7_rangeCheck_23922 64 = .ok (.new 68, 3) := by decide +kernel
theorem dJ7_rangeCheck_23922_67 : decode cJ7_rangeCheck_23922 67 = .ok (.dup, 1) := by decide +kernel
theorem dJ7_rangeCheck_23922_68 : decode cJ7_rangeCheck_23922 68 = .ok (.iload_n 2, 1) := by decide +kernel
theorem dJ7_rangeCheck_23922_69 : decode cJ7_rangeCheck_23922 69 = .ok (.invokespecial 70, 3) := by decide +kernel
theorem dJ7_rangeCheck_23922_72 : decode cJ7_rangeCheck_23922 72 = .ok (.athrow, 1) := by decide +kernel
theorem dJ7_rangeCheck_23922_73 : decode cJ7_rangeCheck_23922 73 = .ok (.return_, 1) := by decide +kernel
set_option maxRecDepth 100000 in
theorem ggJ7_fill_fda19_J7_rangeCheck_23922 : GoodIn wsJ7_fill_fda19 wsJ7_rangeCheck_23922 := goodIn_r _ [4] rfl (by decide +kernel)
set_option maxRecDepth 20000 in
theorem gJ7_fill_fda19_J7_rangeCheck_23922 : GoodIn wsJ7_fill_fda19 (va_wsS RJ7 13 yJ7_rangeCheck_23922 wsJ7_rangeCheck_23922) := goodIn_app (goodIn_of _ (by decide +kernel)) ggJ7_fill_fda19_J7_rangeCheck_23922
theorem dJ7_fill_fda19_0 : decode cJ7_fill_fda19 0 = .ok (.aload_n 0, 1) := by decide +kernel
theorem dJ7_fill_fda19_1 : decode cJ7_fill_fda19 1 = .ok (.arraylength, 1) := by decide +kernel
theorem dJ7_fill_fda19_2 : decode cJ7_fill_fda19 2 = .ok (.iload_n 1, 1) := by decide +kernel
theorem dJ7_fill_fda19_3 : decode cJ7_fill_fda19 3 = .ok (.iload_n 2, 1) := by decide +kernel
theorem dJ7_fill_fda19_4 : decode cJ7_fill_fda19 4 = .ok (.invokestatic 13, 3) := by decide +kernel
theorem dJ7_fill_fda19_7 : decode cJ7_fill_fda19 7 = .ok (.iload_n 1, 1) := by decide +kernel
theorem dJ7_fill_fda19_8 : decode cJ7_fill_fda19 8 = .ok (.istore 4, 2) := by decide +kernel
theorem dJ7_fill_fda19_10 : decode cJ7_fill_fda19 10 = .ok (.iload 4, 2) := by decide +kernel
theorem dJ7_fill_fda19_12 : decode cJ7_fill_fda19 12 = .ok (.iload_n 2, 1) := by decide +kernel
theorem dJ7_fill_fda19_13 : decode cJ7_fill_fda19 13 = .ok (.if_icmp .ge 14, 3) := by decide +kernel
theorem dJ7_fill_fda19_16 : decode cJ7_fill_fda19 16 = .ok (.aload_n 0, 1) := by decide +kernel
theorem dJ7_fill_fda19_17 : decode cJ7_fill_fda19 17 = .ok (.iload 4, 2) := by decide +kernel
theorem dJ7_fill_fda19_19 : decode cJ7_fill_fda19 19 = .ok (.iload_n 3, 1) := by decide +kernel
theorem dJ7_fill_fda19_20 : decode cJ7_fill_fda19 20 = .ok (.iastore, 1) := by decide +kernel
theorem dJ7_fill_fda19_21 : decode cJ7_fill_fda19 21 = .ok (.iinc 4 1, 3) := by decide +kernel
theorem dJ7_fill_fda19_24 : decode cJ7_fill_fda19 24 = .ok (.goto (-14), 3) := by decide +kernel
theorem dJ7_fill_fda19_27 : decode cJ7_fill_fda19 27 = .ok (.return_, 1) := by decide +kernel
theorem dL_law_0 : decode cL_law 0 = .ok (.new 7, 3) := by decide +kernel
theorem dL_law_3 : decode cL_law 3 = .ok (.dup, 1) := by decide +kernel
theorem dL_law_4 : decode cL_law 4 = .ok (.invokespecial 9, 3) := by decide +kernel
theorem dL_law_7 : decode cL_law 7 = .ok (.astore_n 1, 1) := by decide +kernel
theorem dL_law_8 : decode cL_law 8 = .ok (.new 10, 3) := by decide +kernel
theorem dL_law_11 : decode cL_law 11 = .ok (.dup, 1) := by decide +kernel
theorem dL_law_12 : decode cL_law 12 = .ok (.invokespecial 12, 3) := by decide +kernel
theorem dL_law_15 : decode cL_law 15 = .ok (.astore_n 2, 1) := by decide +kernel
theorem dL_law_16 : decode cL_law 16 = .ok (.iconst 0, 1) := by decide +kernel
theorem dL_law_17 : decode cL_law 17 = .ok (.istore_n 3, 1) := by decide +kernel
theorem dL_law_18 : decode cL_law 18 = .ok (.iload_n 3, 1) := by decide +kernel
theorem dL_law_19 : decode cL_law 19 = .ok (.aload_n 0, 1) := by decide +kernel
theorem dL_law_20 : decode cL_law 20 = .ok (.arraylength, 1) := by decide +kernel
theorem dL_law_21 : decode cL_law 21 = .ok (.bipush 11, 2) := by decide +kernel
theorem dL_law_23 : decode cL_law 23 = .ok (.isub, 1) := by decide +kernel
theorem dL_law_24 : decode cL_law 24 = .ok (.if_icmp .gt 1184, 3) := by decide +kernel
theorem dL_law_27 : decode cL_law 27 = .ok (.aload_n 0, 1) := by decide +kernel
theorem dL_law_28 : decode cL_law 28 = .ok (.iload_n 3, 1) := by decide +kernel
theorem dL_law_29 : decode cL_law 29 = .ok (.iaload, 1) := by decide +kernel
theorem dL_law_30 : decode cL_law 30 = .ok (.bipush 31, 2) := by decide +kernel
theorem dL_law_32 : decode cL_law 32 = .ok (.iand, 1) := by decide +kernel
theorem dL_law_33 : decode cL_law 33 = .ok (.tableswitch 1169 0 17 #[87, 130, 193, 246, 289, 322, 409, 520, 631, 742, 865, 898, 931, 974, 1047, 1070, 1103, 1156], 87) := by decide +kernel
theorem dL_law_120 : decode cL_law 120 = .ok (.aload_n 1, 1) := by decide +kernel
theorem dL_law_121 : decode cL_law 121 = .ok (.aload_n 0, 1) := by decide +kernel
theorem dL_law_122 : decode cL_law 122 = .ok (.iload_n 3, 1) := by decide +kernel
theorem dL_law_123 : decode cL_law 123 = .ok (.iconst 1, 1) := by decide +kernel
theorem dL_law_124 : decode cL_law 124 = .ok (.iadd, 1) := by decide +kernel
theorem dL_law_125 : decode cL_law 125 = .ok (.iaload, 1) := by decide +kernel
theorem dL_law_126 : decode cL_law 126 = .ok (.aload_n 0, 1) := by decide +kernel
theorem dL_law_127 : decode cL_law 127 = .ok (.iload_n 3, 1) := by decide +kernel
theorem dL_law_128 : decode cL_law 128 = .ok (.iconst 2, 1) := by decide +kernel
theorem dL_law_129 : decode cL_law 129 = .ok (.iadd, 1) := by decide +kernel
theorem dL_law_130 : decode cL_law 130 = .ok (.iaload, 1) := by decide +kernel
theorem dL_law_131 : decode cL_law 131 = .ok (.aload_n 0, 1) := by decide +kernel
theorem dL_law_132 : decode cL_law 132 = .ok (.iload_n 3, 1) := by decide +kernel
theorem dL_law_133 : decode cL_law 133 = .ok (.iconst 3, 1) := by decide +kernel
theorem dL_law_134 : decode cL_law 134 = .ok (.iadd, 1) := by decide +kernel
theorem dL_law_135 : decode cL_law 135 = .ok (.iaload, 1) := by decide +kernel
theorem dL_law_136 : decode cL_law 136 = .ok (.invokevirtual 13, 3) := by decide +kernel
theorem dL_law_139 : decode cL_law 139 = .ok (.aload_n 2, 1) := by decide +kernel
theorem dL_law_140 : decode cL_law 140 = .ok (.aload_n 0, 1) := by decide +kernel
theorem dL_law_141 : decode cL_law 141 = .ok (.iload_n 3, 1) := by decide +kernel
theorem dL_law_142 : decode cL_law 142 = .ok (.iconst 1, 1) := by decide +kernel
theorem dL_law_143 : decode cL_law 143 = .ok (.iadd, 1) := by decide +kernel
theorem dL_law_144 : decode cL_law 144 = .ok (.iaload, 1) := by decide +kernel
theorem dL_law_145 : decode cL_law 145 = .ok (.aload_n 0, 1) := by decide +kernel
theorem dL_law_146 : decode cL_law 146 = .ok (.iload_n 3, 1) := by decide +kernel
theorem dL_law_147 : decode cL_law 147 = .ok (.iconst 2, 1) := by decide +kernel
theorem dL_law_148 : decode cL_law 148 = .ok (.iadd, 1) := by decide +kernel
theorem dL_law_149 : decode cL_law 149 = .ok (.iaload, 1) := by decide +kernel
theorem dL_law_150 : decode cL_law 150 = .ok (.aload_n 0, 1) := by decide +kernel
theorem dL_law_151 : decode cL_law 151 = .ok (.iload_n 3, 1) := by decide +kernel
theorem dL_law_152 : decode cL_law 152 = .ok (.iconst 3, 1) := by decide +kernel
theorem dL_law_153 : decode cL_law 153 = .ok (.iadd, 1) := by decide +kernel
theorem dL_law_154 : decode cL_law 154 = .ok (.iaload, 1) := by decide +kernel
theorem dL_law_155 : decode cL_law 155 = .ok (.invokevirtual 17, 3) := by decide +kernel
theorem dL_law_158 : decode cL_law 158 = .ok (.if_icmp .eq 1044, 3) := by decide +kernel
theorem dL_law_161 : decode cL_law 161 = .ok (.iconst 0, 1) := by decide +kernel
theorem dL_law_162 : decode cL_law 162 = .ok (.ireturn, 1) := by decide +kernel
theorem dL_law_163 : decode cL_law 163 = .ok (.aload_n 1, 1) := by decide +kernel
theorem dL_law_164 : decode cL_law 164 = .ok (.aload_n 0, 1) := by decide +kernel
theorem dL_law_165 : decode cL_law 165 = .ok (.iload_n 3, 1) := by decide +kernel
theorem dL_law_166 : decode cL_law 166 = .ok (.iconst 1, 1) := by decide +kernel
theorem dL_law_167 : decode cL_law 167 = .ok (.iadd, 1) := by decide +kernel
theorem dL_law_168 : decode cL_law 168 = .ok (.iaload, 1) := by decide +kernel
theorem dL_law_169 : decode cL_law 169 = .ok (.aload_n 0, 1) := by decide +kernel
theorem dL_law_170 : decode cL_law 170 = .ok (.iload_n 3, 1) := by decide +kernel
theorem dL_law_171 : decode cL_law 171 = .ok (.iconst 2, 1) := by decide +kernel
theorem dL_law_172 : decode cL_law 172 = .ok (.iadd, 1) := by decide +kernel
theorem dL_law_173 : decode cL_law 173 = .ok (.iaload, 1) := by decide +kernel
theorem dL_law_174 : decode cL_law 174 = .ok (.aload_n 0, 1) := by decide +kernel
theorem dL_law_175 : decode cL_law 175 = .ok (.iload_n 3, 1) := by decide +kernel
theorem dL_law_176 : decode cL_law 176 = .ok (.iconst 3, 1) := by decide +kernel
theorem dL_law_177 : decode cL_law 177 = .ok (.iadd, 1) := by decide +kernel
theorem dL_law_178 : decode cL_law 178 = .ok (.iaload, 1) := by decide +kernel
theorem dL_law_179 : decode cL_law 179 = .ok (.aload_n 0, 1) := by decide +kernel
theorem dL_law_180 : decode cL_law 180 = .ok (.iload_n 3, 1) := by decide +kernel
theorem dL_law_181 : decode cL_law 181 = .ok (.iconst 4, 1) := by decide +kernel
theorem dL_law_182 : decode cL_law 182 = .ok (.iadd, 1) := by decide +kernel
theorem dL_law_183 : decode cL_law 183 = .ok (.iaload, 1) := by decide +kernel
theorem dL_law_184 : decode cL_law 184 = .ok (.aload_n 0, 1) := by decide +kernel
theorem dL_law_185 : decode cL_law 185 = .ok (.iload_n 3, 1) := by decide +kernel
theorem dL_law_186 : decode cL_law 186 = .ok (.iconst 5, 1) := by decide +kernel
theorem dL_law_187 : decode cL_law 187 = .ok (.iadd, 1) := by decide +kernel
theorem dL_law_188 : decode cL_law 188 = .ok (.iaload, 1) := by decide +kernel
theorem dL_law_189 : decode cL_law 189 = .ok (.invokevirtual 18, 3) := by decide +kernel
theorem dL_law_192 : decode cL_law 192 = .ok (.aload_n 2, 1) := by decide +kernel
theorem dL_law_193 : decode cL_law 193 = .ok (.aload_n 0, 1) := by decide +kernel
theorem dL_law_194 : decode cL_law 194 = .ok (.iload_n 3, 1) := by decide +kernel
theorem dL_law_195 : decode cL_law 195 = .ok (.iconst 1, 1) := by decide +kernel
theorem dL_law_196 : decode cL_law 196 = .ok (.iadd, 1) := by decide +kernel
theorem dL_law_197 : decode cL_law 197 = .ok (.iaload, 1) := by decide +kernel
theorem dL_law_198 : decode cL_law 198 = .ok (.aload_n 0, 1) := by decide +kernel
theorem dL_law_199 : decode cL_law 199 = .ok (.iload_n 3, 1) := by decide +kernel
theorem dL_law_200 : decode cL_law 200 = .ok (.iconst 2, 1) := by decide +kernel
theorem dL_law_201 : decode cL_law 201 = .ok (.iadd, 1) := by decide +kernel
theorem dL_law_202 : decode cL_law 202 = .ok (.iaload, 1) := by decide +kernel
theorem dL_law_203 : decode cL_law 203 = .ok (.aload_n 0, 1) := by decide +kernel
theorem dL_law_204 : decode cL_law 204 = .ok (.iload_n 3, 1) := by decide +kernel
theorem dL_law_205 : decode cL_law 205 = .ok (.iconst 3, 1) := by decide +kernel
theorem dL_law_206 : decode cL_law 206 = .ok (.iadd, 1) := by decide +kernel
theorem dL_law_207 : decode cL_law 207 = .ok (.iaload, 1) := by decide +kernel
theorem dL_law_208 : decode cL_law 208 = .ok (.aload_n 0, 1) := by decide +kernel
theorem dL_law_209 : decode cL_law 209 = .ok (.iload_n 3, 1) := by decide +kernel
theorem dL_law_210 : decode cL_law 210 = .ok (.iconst 4, 1) := by decide +kernel
theorem dL_law_211 : decode cL_law 211 = .ok (.iadd, 1) := by decide +kernel
theorem dL_law_212 : decode cL_law 212 = .ok (.iaload, 1) := by decide +kernel
theorem dL_law_213 : decode cL_law 213 = .ok (.aload_n 0, 1) := by decide +kernel
theorem dL_law_214 : decode cL_law 214 = .ok (.iload_n 3, 1) := by decide +kernel
theorem dL_law_215 : decode cL_law 215 = .ok (.iconst 5, 1) := by decide +kernel
theorem dL_law_216 : decode cL_law 216 = .ok (.iadd, 1) := by decide +kernel
theorem dL_law_217 : decode cL_law 217 = .ok (.iaload, 1) := by decide +kernel
theorem dL_law_218 : decode cL_law 218 = .ok (.invokevirtual 22, 3) := by decide +kernel
theorem dL_law_221 : decode cL_law 221 = .ok (.if_icmp .eq 981, 3) := by decide +kernel
theorem dL_law_224 : decode cL_law 224 = .ok (.iconst 0, 1) := by decide +kernel
theorem dL_law_225 : decode cL_law 225 = .ok (.ireturn, 1) := by decide +kernel
theorem dL_law_226 : decode cL_law 226 = .ok (.aload_n 1, 1) := by decide +kernel
theorem dL_law_227 : decode cL_law 227 = .ok (.aload_n 0, 1) := by decide +kernel
theorem dL_law_228 : decode cL_law 228 = .ok (.iload_n 3, 1) := by decide +kernel
theorem dL_law_229 : decode cL_law 229 = .ok (.iconst 1, 1) := by decide +kernel
theorem dL_law_230 : decode cL_law 230 = .ok (.iadd, 1) := by decide +kernel
theorem dL_law_231 : decode cL_law 231 = .ok (.iaload, 1) := by decide +kernel
theorem dL_law_232 : decode cL_law 232 = .ok (.aload_n 0, 1) := by decide +kernel
theorem dL_law_233 : decode cL_law 233 = .ok (.iload_n 3, 1) := by decide +kernel
theorem dL_law_234 : decode cL_law 234 = .ok (.iconst 2, 1) := by decide +kernel
theorem dL_law_235 : decode cL_law 235 = .ok (.iadd, 1) := by decide +kernel
theorem dL_law_236 : decode cL_law 236 = .ok (.iaload, 1) := by decide +kernel
theorem dL_law_237 : decode cL_law 237 = .ok (.aload_n 0, 1) := by decide +kernel
theorem dL_law_238 : decode cL_law 238 = .ok (.iload_n 3, 1) := by decide +kernel
theorem dL_law_239 : decode cL_law 239 = .ok (.iconst 3, 1) := by decide +kernel
theorem dL_law_240 : decode cL_law 240 = .ok (.iadd, 1) := by decide +kernel
theorem dL_law_241 : decode cL_law 241 = .ok (.iaload, 1) := by decide +kernel
theorem dL_law_242 : decode cL_law 242 = .ok (.aload_n 0, 1) := by decide +kernel
theorem dL_law_243 : decode cL_law 243 = .ok (.iload_n 3, 1) := by decide +kernel
theorem dL_law_244 : decode cL_law 244 = .ok (.iconst 4, 1) := by decide +kernel
theorem dL_law_245 : decode cL_law 245 = .ok (.iadd, 1) := by decide +kernel
theorem dL_law_246 : decode cL_law 246 = .ok (.iaload, 1) := by decide +kernel
theorem dL_law_247 : decode cL_law 247 = .ok (.invokevirtual 23, 3) := by decide +kernel
theorem dL_law_250 : decode cL_law 250 = .ok (.aload_n 2, 1) := by decide +kernel
theorem dL_law_251 : decode cL_law 251 = .ok (.aload_n 0, 1) := by decide +kernel
theorem dL_law_252 : decode cL_law 252 = .ok (.iload_n 3, 1) := by decide +kernel
theorem dL_law_253 : decode cL_law 253 = .ok (.iconst 1, 1) := by decide +kernel
theorem dL_law_254 : decode cL_law 254 = .ok (.iadd, 1) := by decide +kernel
theorem dL_law_255 : decode cL_law 255 = .ok (.iaload, 1) := by decide +kernel
theorem dL_law_256 : decode cL_law 256 = .ok (.aload_n 0, 1) := by decide +kernel
theorem dL_law_257 : decode cL_law 257 = .ok (.iload_n 3, 1) := by decide +kernel
theorem dL_law_258 : decode cL_law 258 = .ok (.iconst 2, 1) := by decide +kernel
theorem dL_law_259 : decode cL_law 259 = .ok (.iadd, 1) := by decide +kernel
theorem dL_law_260 : decode cL_law 260 = .ok (.iaload, 1) := by decide +kernel
theorem dL_law_261 : decode cL_law 261 = .ok (.aload_n 0, 1) := by decide +kernel
theorem dL_law_262 : decode cL_law 262 = .ok (.iload_n 3, 1) := by decide +kernel
theorem dL_law_263 : decode cL_law 263 = .ok (.iconst 3, 1) := by decide +kernel
theorem dL_law_264 : decode cL_law 264 = .ok (.iadd, 1) := by decide +kernel
theorem dL_law_265 : decode cL_law 265 = .ok (.iaload, 1) := by decide +kernel
theorem dL_law_266 : decode cL_law 266 = .ok (.aload_n 0, 1) := by decide +kernel
theorem dL_law_267 : decode cL_law 267 = .ok (.iload_n 3, 1) := by decide +kernel
theorem dL_law_268 : decode cL_law 268 = .ok (.iconst 4, 1) := by decide +kernel
theorem dL_law_269 : decode cL_law 269 = .ok (.iadd, 1) := by decide +kernel
theorem dL_law_270 : decode cL_law 270 = .ok (.iaload, 1) := by decide +kernel
theorem dL_law_271 : decode cL_law 271 = .ok (.invokevirtual 27, 3) := by decide +kernel
theorem dL_law_274 : decode cL_law 274 = .ok (.if_icmp .eq 928, 3) := by decide +kernel
theorem dL_law_277 : decode cL_law 277 = .ok (.iconst 0, 1) := by decide +kernel
theorem dL_law_278 : decode cL_law 278 = .ok (.ireturn, 1) := by decide +kernel
theorem dL_law_279 : decode cL_law 279 = .ok (.aload_n 1, 1) := by decide +kernel
theorem dL_law_280 : decode cL_law 280 = .ok (.aload_n 0, 1) := by decide +kernel
theorem dL_law_281 : decode cL_law 281 = .ok (.iload_n 3, 1) := by decide +kernel
theorem dL_law_282 : decode cL_law 282 = .ok (.iconst 1, 1) := by decide +kernel
theorem dL_law_283 : decode cL_law 283 = .ok (.iadd, 1) := by decide +kernel
theorem dL_law_284 : decode cL_law 284 = .ok (.iaload, 1) := by decide +kernel
theorem dL_law_285 : decode cL_law 285 = .ok (.aload_n 0, 1) := by decide +kernel
theorem dL_law_286 : decode cL_law 286 = .ok (.iload_n 3, 1) := by decide +kernel
theorem dL_law_287 : decode cL_law 287 = .ok (.iconst 2, 1) := by decide +kernel
theorem dL_law_288 : decode cL_law 288 = .ok (.iadd, 1) := by decide +kernel
theorem dL_law_289 : decode cL_law 289 = .ok (.iaload, 1) := by decide +kernel
theorem dL_law_290 : decode cL_law 290 = .ok (.aload_n 0, 1) := by decide +kernel
theorem dL_law_291 : decode cL_law 291 = .ok (.iload_n 3, 1) := by decide +kernel
theorem dL_law_292 : decode cL_law 292 = .ok (.iconst 3, 1) := by decide +kernel
theorem dL_law_293 : decode cL_law 293 = .ok (.iadd, 1) := by decide +kernel
theorem dL_law_294 : decode cL_law 294 = .ok (.iaload, 1) := by decide +kernel
theorem dL_law_295 : decode cL_law 295 = .ok (.invokevirtual 28, 3) := by decide +kernel
theorem dL_law_298 : decode cL_law 298 = .ok (.aload_n 2, 1) := by decide +kernel
theorem dL_law_299 : decode cL_law 299 = .ok (.aload_n 0, 1) := by decide +kernel
theorem dL_law_300 : decode cL_law 300 = .ok (.iload_n 3, 1) := by decide +kernel
theorem dL_law_301 : decode cL_law 301 = .ok (.iconst 1, 1) := by decide +kernel
theorem dL_law_302 : decode cL_law 302 = .ok (.iadd, 1) := by decide +kernel
theorem dL_law_303 : decode cL_law 303 = .ok (.iaload, 1) := by decide +kernel
theorem dL_law_304 : decode cL_law 304 = .ok (.aload_n 0, 1) := by decide +kernel
theorem dL_law_305 : decode cL_law 305 = .ok (.iload_n 3, 1) := by decide +kernel
theorem dL_law_306 : decode cL_law 306 = .ok (.iconst 2, 1) := by decide +kernel
theorem dL_law_307 : decode cL_law 307 = .ok (.iadd, 1) := by decide +kernel
theorem dL_law_308 : decode cL_law 308 = .ok (.iaload, 1) := by decide +kernel
theorem dL_law_309 : decode cL_law 309 = .ok (.aload_n 0, 1) := by decide +kernel
theorem dL_law_310 : decode cL_law 310 = .ok (.iload_n 3, 1) := by decide +kernel
theorem dL_law_311 : decode cL_law 311 = .ok (.iconst 3, 1) := by decide +kernel
theorem dL_law_312 : decode cL_law 312 = .ok (.iadd, 1) := by decide +kernel
theorem dL_law_313 : decode cL_law 313 = .ok (.iaload, 1) := by decide +kernel
theorem dL_law_314 : decode cL_law 314 = .ok (.invokevirtual 31, 3) := by decide +kernel
theorem dL_law_317 : decode cL_law 317 = .ok (.if_icmp .eq 885, 3) := by decide +kernel
theorem dL_law_320 : decode cL_law 320 = .ok (.iconst 0, 1) := by decide +kernel
theorem dL_law_321 : decode cL_law 321 = .ok (.ireturn, 1) := by decide +kernel
theorem dL_law_322 : decode cL_law 322 = .ok (.aload_n 1, 1) := by decide +kernel
theorem dL_law_323 : decode cL_law 323 = .ok (.aload_n 0, 1) := by decide +kernel
theorem dL_law_324 : decode cL_law 324 = .ok (.iload_n 3, 1) := by decide +kernel
theorem dL_law_325 : decode cL_law 325 = .ok (.iconst 1, 1) := by decide +kernel
theorem dL_law_326 : decode cL_law 326 = .ok (.iadd, 1) := by decide +kernel
theorem dL_law_327 : decode cL_law 327 = .ok (.iaload, 1) := by decide +kernel
theorem dL_law_328 : decode cL_law 328 = .ok (.aload_n 0, 1) := by decide +kernel
theorem dL_law_329 : decode cL_law 329 = .ok (.iload_n 3, 1) := by decide +kernel
theorem dL_law_330 : decode cL_law 330 = .ok (.iconst 2, 1) := by decide +kernel
theorem dL_law_331 : decode cL_law 331 = .ok (.iadd, 1) := by decide +kernel
theorem dL_law_332 : decode cL_law 332 = .ok (.iaload, 1) := by decide +kernel
theorem dL_law_333 : decode cL_law 333 = .ok (.invokevirtual 32, 3) := by decide +kernel
theorem dL_law_336 : decode cL_law 336 = .ok (.aload_n 2, 1) := by decide +kernel
theorem dL_law_337 : decode cL_law 337 = .ok (.aload_n 0, 1) := by decide +kernel
theorem dL_law_338 : decode cL_law 338 = .ok (.iload_n 3, 1) := by decide +kernel
theorem dL_law_339 : decode cL_law 339 = .ok (.iconst 1, 1) := by decide +kernel
theorem dL_law_340 : decode cL_law 340 = .ok (.iadd, 1) := by decide +kernel
theorem dL_law_341 : decode cL_law 341 = .ok (.iaload, 1) := by decide +kernel
theorem dL_law_342 : decode cL_law 342 = .ok (.aload_n 0, 1) := by decide +kernel
theorem dL_law_343 : decode cL_law 343 = .ok (.iload_n 3, 1) := by decide +kernel
theorem dL_law_344 : decode cL_law 344 = .ok (.iconst 2, 1) := by decide +kernel
theorem dL_law_345 : decode cL_law 345 = .ok (.iadd, 1) := by decide +kernel
theorem dL_law_346 : decode cL_law 346 = .ok (.iaload, 1) := by decide +kernel
theorem dL_law_347 : decode cL_law 347 = .ok (.invokevirtual 36, 3) := by decide +kernel
theorem dL_law_350 : decode cL_law 350 = .ok (.if_icmp .eq 852, 3) := by decide +kernel
theorem dL_law_353 : decode cL_law 353 = .ok (.iconst 0, 1) := by decide +kernel
theorem dL_law_354 : decode cL_law 354 = .ok (.ireturn, 1) := by decide +kernel
theorem dL_law_355 : decode cL_law 355 = .ok (.aload_n 1, 1) := by decide +kernel
theorem dL_law_356 : decode cL_law 356 = .ok (.aload_n 0, 1) := by decide +kernel
theorem dL_law_357 : decode cL_law 357 = .ok (.iload_n 3, 1) := by decide +kernel
theorem dL_law_358 : decode cL_law 358 = .ok (.iconst 1, 1) := by decide +kernel
theorem dL_law_359 : decode cL_law 359 = .ok (.iadd, 1) := by decide +kernel
theorem dL_law_360 : decode cL_law 360 = .ok (.iaload, 1) := by decide +kernel
theorem dL_law_361 : decode cL_law 361 = .ok (.aload_n 0, 1) := by decide +kernel
theorem dL_law_362 : decode cL_law 362 = .ok (.iload_n 3, 1) := by decide +kernel
theorem dL_law_363 : decode cL_law 363 = .ok (.iconst 2, 1) := by decide +kernel
theorem dL_law_364 : decode cL_law 364 = .ok (.iadd, 1) := by decide +kernel
theorem dL_law_365 : decode cL_law 365 = .ok (.iaload, 1) := by decide +kernel
theorem dL_law_366 : decode cL_law 366 = .ok (.aload_n 0, 1) := by decide +kernel
theorem dL_law_367 : decode cL_law 367 = .ok (.iload_n 3, 1) := by decide +kernel
theorem dL_law_368 : decode cL_law 368 = .ok (.iconst 3, 1) := by decide +kernel
theorem dL_law_369 : decode cL_law 369 = .ok (.iadd, 1) := by decide +kernel
theorem dL_law_370 : decode cL_law 370 = .ok (.iaload, 1) := by decide +kernel
theorem dL_law_371 : decode cL_law 371 = .ok (.aload_n 0, 1) := by decide +kernel
theorem dL_law_372 : decode cL_law 372 = .ok (.iload_n 3, 1) := by decide +kernel
theorem dL_law_373 : decode cL_law 373 = .ok (.iconst 4, 1) := by decide +kernel
theorem dL_law_374 : decode cL_law 374 = .ok (.iadd, 1) := by decide +kernel
theorem dL_law_375 : decode cL_law 375 = .ok (.iaload, 1) := by decide +kernel
theorem dL_law_376 : decode cL_law 376 = .ok (.aload_n 0, 1) := by decide +kernel
theorem dL_law_377 : decode cL_law 377 = .ok (.iload_n 3, 1) := by decide +kernel
theorem dL_law_378 : decode cL_law 378 = .ok (.iconst 5, 1) := by decide +kernel
theorem dL_law_379 : decode cL_law 379 = .ok (.iadd, 1) := by decide +kernel
theorem dL_law_380 : decode cL_law 380 = .ok (.iaload, 1) := by decide +kernel
theorem dL_law_381 : decode cL_law 381 = .ok (.aload_n 0, 1) := by decide +kernel
theorem dL_law_382 : decode cL_law 382 = .ok (.iload_n 3, 1) := by decide +kernel
theorem dL_law_383 : decode cL_law 383 = .ok (.bipush 6, 2) := by decide +kernel
theorem dL_law_385 : decode cL_law 385 = .ok (.iadd, 1) := by decide +kernel
theorem dL_law_386 : decode cL_law 386 = .ok (.iaload, 1) := by decide +kernel
theorem dL_law_387 : decode cL_law 387 = .ok (.aload_n 0, 1) := by decide +kernel
theorem dL_law_388 : decode cL_law 388 = .ok (.iload_n 3, 1) := by decide +kernel
theorem dL_law_389 : decode cL_law 389 = .ok (.bipush 7, 2) := by decide +kernel
theorem dL_law_391 : decode cL_law 391 = .ok (.iadd, 1) := by decide +kernel
theorem dL_law_392 : decode cL_law 392 = .ok (.iaload, 1) := by decide +kernel
theorem dL_law_393 : decode cL_law 393 = .ok (.invokevirtual 37, 3) := by decide +kernel
theorem dL_law_396 : decode cL_law 396 = .ok (.aload_n 2, 1) := by decide +kernel
theorem dL_law_397 : decode cL_law 397 = .ok (.aload_n 0, 1) := by decide +kernel
theorem dL_law_398 : decode cL_law 398 = .ok (.iload_n 3, 1) := by decide +kernel
theorem dL_law_399 : decode cL_law 399 = .ok (.iconst 1, 1) := by decide +kernel
theorem dL_law_400 : decode cL_law 400 = .ok (.iadd, 1) := by decide +kernel
theorem dL_law_401 : decode cL_law 401 = .ok (.iaload, 1) := by decide +kernel
theorem dL_law_402 : decode cL_law 402 = .ok (.aload_n 0, 1) := by decide +kernel
theorem dL_law_403 : decode cL_law 403 = .ok (.iload_n 3, 1) := by decide +kernel
theorem dL_law_404 : decode cL_law 404 = .ok (.iconst 2, 1) := by decide +kernel
theorem dL_law_405 : decode cL_law 405 = .ok (.iadd, 1) := by decide +kernel
theorem dL_law_406 : decode cL_law 406 = .ok (.iaload, 1) := by decide +kernel
theorem dL_law_407 : decode cL_law 407 = .ok (.aload_n 0, 1) := by decide +kernel
theorem dL_law_408 : decode cL_law 408 = .ok (.iload_n 3, 1) := by decide +kernel
theorem dL_law_409 : decode cL_law 409 = .ok (.iconst 3, 1) := by decide +kernel
theorem dL_law_410 : decode cL_law 410 = .ok (.iadd, 1) := by decide +kernel
theorem dL_law_411 : decode cL_law 411 = .ok (.iaload, 1) := by decide +kernel
theorem dL_law_412 : decode cL_law 412 = .ok (.aload_n 0, 1) := by decide +kernel
theorem dL_law_413 : decode cL_law 413 = .ok (.iload_n 3, 1) := by decide +kernel
theorem dL_law_414 : decode cL_law 414 = .ok (.iconst 4, 1) := by decide +kernel
theorem dL_law_415 : decode cL_law 415 = .ok (.iadd, 1) := by decide +kernel
theorem dL_law_416 : decode cL_law 416 = .ok (.iaload, 1) := by decide +kernel
theorem dL_law_417 : decode cL_law 417 = .ok (.aload_n 0, 1) := by decide +kernel
theorem dL_law_418 : decode cL_law 418 = .ok (.iload_n 3, 1) := by decide +kernel
theorem dL_law_419 : decode cL_law 419 = .ok (.iconst 5, 1) := by decide +kernel
theorem dL_law_420 : decode cL_law 420 = .ok (.iadd, 1) := by decide +kernel
theorem dL_law_421 : decode cL_law 421 = .ok (.iaload, 1) := by decide +kernel
theorem dL_law_422 : decode cL_law 422 = .ok (.aload_n 0, 1) := by decide +kernel
theorem dL_law_423 : decode cL_law 423 = .ok (.iload_n 3, 1) := by decide +kernel
theorem dL_law_424 : decode cL_law 424 = .ok (.bipush 6, 2) := by decide +kernel
theorem dL_law_426 : decode cL_law 426 = .ok (.iadd, 1) := by decide +kernel
theorem dL_law_427 : decode cL_law 427 = .ok (.iaload, 1) := by decide +kernel
theorem dL_law_428 : decode cL_law 428 = .ok (.aload_n 0, 1) := by decide +kernel
theorem dL_law_429 : decode cL_law 429 = .ok (.iload_n 3, 1) := by decide +kernel
theorem dL_law_430 : decode cL_law 430 = .ok (.bipush 7, 2) := by decide +kernel
theorem dL_law_432 : decode cL_law 432 = .ok (.iadd, 1) := by decide +kernel
theorem dL_law_433 : decode cL_law 433 = .ok (.iaload, 1) := by decide +kernel
theorem dL_law_434 : decode cL_law 434 = .ok (.invokevirtual 41, 3) := by decide +kernel
theorem dL_law_437 : decode cL_law 437 = .ok (.if_icmp .eq 765, 3) := by decide +kernel
theorem dL_law_440 : decode cL_law 440 = .ok (.iconst 0, 1) := by decide +kernel
theorem dL_law_441 : decode cL_law 441 = .ok (.ireturn, 1) := by decide +kernel
theorem dL_law_442 : decode cL_law 442 = .ok (.aload_n 1, 1) := by decide +kernel
theorem dL_law_443 : decode cL_law 443 = .ok (.aload_n 0, 1) := by decide +kernel
theorem dL_law_444 : decode cL_law 444 = .ok (.iload_n 3, 1) := by decide +kernel
theorem dL_law_445 : decode cL_law 445 = .ok (.iconst 1, 1) := by decide +kernel
theorem dL_law_446 : decode cL_law 446 = .ok (.iadd, 1) := by decide +kernel
theorem dL_law_447 : decode cL_law 447 = .ok (.iaload, 1) := by decide +kernel
theorem dL_law_448 : decode cL_law 448 = .ok (.aload_n 0, 1) := by decide +kernel
theorem dL_law_449 : decode cL_law 449 = .ok (.iload_n 3, 1) := by decide +kernel
theorem dL_law_450 : decode cL_law 450 = .ok (.iconst 2, 1) := by decide +kernel
theorem dL_law_451 : decode cL_law 451 = .ok (.iadd, 1) := by decide +kernel
theorem dL_law_452 : decode cL_law 452 = .ok (.iaload, 1) := by decide +kernel
theorem dL_law_453 : decode cL_law 453 = .ok (.aload_n 0, 1) := by decide +kernel
theorem dL_law_454 : decode cL_law 454 = .ok (.iload_n 3, 1) := by decide +kernel
theorem dL_law_455 : decode cL_law 455 = .ok (.iconst 3, 1) := by decide +kernel
theorem dL_law_456 : decode cL_law 456 = .ok (.iadd, 1) := by decide +kernel
theorem dL_law_457 : decode cL_law 457 = .ok (.iaload, 1) := by decide +kernel
theorem dL_law_458 : decode cL_law 458 = .ok (.aload_n 0, 1) := by decide +kernel
theorem dL_law_459 : decode cL_law 459 = .ok (.iload_n 3, 1) := by decide +kernel
theorem dL_law_460 : decode cL_law 460 = .ok (.iconst 4, 1) := by decide +kernel
theorem dL_law_461 : decode cL_law 461 = .ok (.iadd, 1) := by decide +kernel
theorem dL_law_462 : decode cL_law 462 = .ok (.iaload, 1) := by decide +kernel
theorem dL_law_463 : decode cL_law 463 = .ok (.aload_n 0, 1) := by decide +kernel
theorem dL_law_464 : decode cL_law 464 = .ok (.iload_n 3, 1) := by decide +kernel
theorem dL_law_465 : decode cL_law 465 = .ok (.iconst 5, 1) := by decide +kernel
theorem dL_law_466 : decode cL_law 466 = .ok (.iadd, 1) := by decide +kernel
theorem dL_law_467 : decode cL_law 467 = .ok (.iaload, 1) := by decide +kernel
theorem dL_law_468 : decode cL_law 468 = .ok (.aload_n 0, 1) := by decide +kernel
theorem dL_law_469 : decode cL_law 469 = .ok (.iload_n 3, 1) := by decide +kernel
theorem dL_law_470 : decode cL_law 470 = .ok (.bipush 6, 2) := by decide +kernel
theorem dL_law_472 : decode cL_law 472 = .ok (.iadd, 1) := by decide +kernel
theorem dL_law_473 : decode cL_law 473 = .ok (.iaload, 1) := by decide +kernel
theorem dL_law_474 : decode cL_law 474 = .ok (.aload_n 0, 1) := by decide +kernel
theorem dL_law_475 : decode cL_law 475 = .ok (.iload_n 3, 1) := by decide +kernel
theorem dL_law_476 : decode cL_law 476 = .ok (.bipush 7, 2) := by decide +kernel
theorem dL_law_478 : decode cL_law 478 = .ok (.iadd, 1) := by decide +kernel
theorem dL_law_479 : decode cL_law 479 = .ok (.iaload, 1) := by decide +kernel
theorem dL_law_480 : decode cL_law 480 = .ok (.aload_n 0, 1) := by decide +kernel
theorem dL_law_481 : decode cL_law 481 = .ok (.iload_n 3, 1) := by decide +kernel
theorem dL_law_482 : decode cL_law 482 = .ok (.bipush 8, 2) := by decide +kernel
theorem dL_law_484 : decode cL_law 484 = .ok (.iadd, 1) := by decide +kernel
theorem dL_law_485 : decode cL_law 485 = .ok (.iaload, 1) := by decide +kernel
theorem dL_law_486 : decode cL_law 486 = .ok (.aload_n 0, 1) := by decide +kernel
theorem dL_law_487 : decode cL_law 487 = .ok (.iload_n 3, 1) := by decide +kernel
theorem dL_law_488 : decode cL_law 488 = .ok (.bipush 9, 2) := by decide +kernel
theorem dL_law_490 : decode cL_law 490 = .ok (.iadd, 1) := by decide +kernel
theorem dL_law_491 : decode cL_law 491 = .ok (.iaload, 1) := by decide +kernel
theorem dL_law_492 : decode cL_law 492 = .ok (.invokevirtual 42, 3) := by decide +kernel
theorem dL_law_495 : decode cL_law 495 = .ok (.aload_n 2, 1) := by decide +kernel
theorem dL_law_496 : decode cL_law 496 = .ok (.aload_n 0, 1) := by decide +kernel
theorem dL_law_497 : decode cL_law 497 = .ok (.iload_n 3, 1) := by decide +kernel
theorem dL_law_498 : decode cL_law 498 = .ok (.iconst 1, 1) := by decide +kernel
theorem dL_law_499 : decode cL_law 499 = .ok (.iadd, 1) := by decide +kernel
theorem dL_law_500 : decode cL_law 500 = .ok (.iaload, 1) := by decide +kernel
theorem dL_law_501 : decode cL_law 501 = .ok (.aload_n 0, 1) := by decide +kernel
theorem dL_law_502 : decode cL_law 502 = .ok (.iload_n 3, 1) := by decide +kernel
theorem dL_law_503 : decode cL_law 503 = .ok (.iconst 2, 1) := by decide +kernel
theorem dL_law_504 : decode cL_law 504 = .ok (.iadd, 1) := by decide +kernel
theorem dL_law_505 : decode cL_law 505 = .ok (.iaload, 1) := by decide +kernel
theorem dL_law_506 : decode cL_law 506 = .ok (.aload_n 0, 1) := by decide +kernel
theorem dL_law_507 : decode cL_law 507 = .ok (.iload_n 3, 1) := by decide +kernel
theorem dL_law_508 : decode cL_law 508 = .ok (.iconst 3, 1) := by decide +kernel
theorem dL_law_509 : decode cL_law 509 = .ok (.iadd, 1) := by decide +kernel
theorem dL_law_510 : decode cL_law 510 = .ok (.iaload, 1) := by decide +kernel
theorem dL_law_511 : decode cL_law 511 = .ok (.aload_n 0, 1) := by decide +kernel
theorem dL_law_512 : decode cL_law 512 = .ok (.iload_n 3, 1) := by decide +kernel
theorem dL_law_513 : decode cL_law 513 = .ok (.iconst 4, 1) := by decide +kernel
theorem dL_law_514 : decode cL_law 514 = .ok (.iadd, 1) := by decide +kernel
theorem dL_law_515 : decode cL_law 515 = .ok (.iaload, 1) := by decide +kernel
theorem dL_law_516 : decode cL_law 516 = .ok (.aload_n 0, 1) := by decide +kernel
theorem dL_law_517 : decode cL_law 517 = .ok (.iload_n 3, 1) := by decide +kernel
theorem dL_law_518 : decode cL_law 518 = .ok (.iconst 5, 1) := by decide +kernel
theorem dL_law_519 : decode cL_law 519 = .ok (.iadd, 1) := by decide +kernel
theorem dL_law_520 : decode cL_law 520 = .ok (.iaload, 1) := by decide +kernel
theorem dL_law_521 : decode cL_law 521 = .ok (.aload_n 0, 1) := by decide +kernel
theorem dL_law_522 : decode cL_law 522 = .ok (.iload_n 3, 1) := by decide +kernel
theorem dL_law_523 : decode cL_law 523 = .ok (.bipush 6, 2) := by decide +kernel
theorem dL_law_525 : decode cL_law 525 = .ok (.iadd, 1) := by decide +kernel
theorem dL_law_526 : decode cL_law 526 = .ok (.iaload, 1) := by decide +kernel
theorem dL_law_527 : decode cL_law 527 = .ok (.aload_n 0, 1) := by decide +kernel
theorem dL_law_528 : decode cL_law 528 = .ok (.iload_n 3, 1) := by decide +kernel
theorem dL_law_529 : decode cL_law 529 = .ok (.bipush 7, 2) := by decide +kernel
theorem dL_law_531 : decode cL_law 531 = .ok (.iadd, 1) := by decide +kernel
theorem dL_law_532 : decode cL_law 532 = .ok (.iaload, 1) := by decide +kernel
theorem dL_law_533 : decode cL_law 533 = .ok (.aload_n 0, 1) := by decide +kernel
theorem dL_law_534 : decode cL_law 534 = .ok (.iload_n 3, 1) := by decide +kernel
theorem dL_law_535 : decode cL_law 535 = .ok (.bipush 8, 2) := by decide +kernel
theorem dL_law_537 : decode cL_law 537 = .ok (.iadd, 1) := by decide +kernel
theorem dL_law_538 : decode cL_law 538 = .ok (.iaload, 1) := by decide +kernel
theorem dL_law_539 : decode cL_law 539 = .ok (.aload_n 0, 1) := by decide +kernel
theorem dL_law_540 : decode cL_law 540 = .ok (.iload_n 3, 1) := by decide +kernel
theorem dL_law_541 : decode cL_law 541 = .ok (.bipush 9, 2) := by decide +kernel
theorem dL_law_543 : decode cL_law 543 = .ok (.iadd, 1) := by decide +kernel
theorem dL_law_544 : decode cL_law 544 = .ok (.iaload, 1) := by decide +kernel
theorem dL_law_545 : decode cL_law 545 = .ok (.invokevirtual 46, 3) := by decide +kernel
theorem dL_law_548 : decode cL_law 548 = .ok (.if_icmp .eq 654, 3) := by decide +kernel
theorem dL_law_551 : decode cL_law 551 = .ok (.iconst 0, 1) := by decide +kernel
theorem dL_law_552 : decode cL_law 552 = .ok (.ireturn, 1) := by decide +kernel
theorem dL_law_553 : decode cL_law 553 = .ok (.aload_n 1, 1) := by decide +kernel
theorem dL_law_554 : decode cL_law 554 = .ok (.aload_n 0, 1) := by decide +kernel
theorem dL_law_555 : decode cL_law 555 = .ok (.iload_n 3, 1) := by decide +kernel
theorem dL_law_556 : decode cL_law 556 = .ok (.iconst 1, 1) := by decide +kernel
theorem dL_law_557 : decode cL_law 557 = .ok (.iadd, 1) := by decide +kernel
theorem dL_law_558 : decode cL_law 558 = .ok (.iaload, 1) := by decide +kernel
theorem dL_law_559 : decode cL_law 559 = .ok (.aload_n 0, 1) := by decide +kernel
theorem dL_law_560 : decode cL_law 560 = .ok (.iload_n 3, 1) := by decide +kernel
theorem dL_law_561 : decode cL_law 561 = .ok (.iconst 2, 1) := by decide +kernel
theorem dL_law_562 : decode cL_law 562 = .ok (.iadd, 1) := by decide +kernel
theorem dL_law_563 : decode cL_law 563 = .ok (.iaload, 1) := by decide +kernel
theorem dL_law_564 : decode cL_law 564 = .ok (.aload_n 0, 1) := by decide +kernel
theorem dL_law_565 : decode cL_law 565 = .ok (.iload_n 3, 1) := by decide +kernel
theorem dL_law_566 : decode cL_law 566 = .ok (.iconst 3, 1) := by decide +kernel
theorem dL_law_567 : decode cL_law 567 = .ok (.iadd, 1) := by decide +kernel
theorem dL_law_568 : decode cL_law 568 = .ok (.iaload, 1) := by decide +kernel
theorem dL_law_569 : decode cL_law 569 = .ok (.aload_n 0, 1) := by decide +kernel
theorem dL_law_570 : decode cL_law 570 = .ok (.iload_n 3, 1) := by decide +kernel
theorem dL_law_571 : decode cL_law 571 = .ok (.iconst 4, 1) := by decide +kernel
theorem dL_law_572 : decode cL_law 572 = .ok (.iadd, 1) := by decide +kernel
theorem dL_law_573 : decode cL_law 573 = .ok (.iaload, 1) := by decide +kernel
theorem dL_law_574 : decode cL_law 574 = .ok (.aload_n 0, 1) := by decide +kernel
theorem dL_law_575 : decode cL_law 575 = .ok (.iload_n 3, 1) := by decide +kernel
theorem dL_law_576 : decode cL_law 576 = .ok (.iconst 5, 1) := by decide +kernel
theorem dL_law_577 : decode cL_law 577 = .ok (.iadd, 1) := by decide +kernel
theorem dL_law_578 : decode cL_law 578 = .ok (.iaload, 1) := by decide +kernel
theorem dL_law_579 : decode cL_law 579 = .ok (.aload_n 0, 1) := by decide +kernel
theorem dL_law_580 : decode cL_law 580 = .ok (.iload_n 3, 1) := by decide +kernel
theorem dL_law_581 : decode cL_law 581 = .ok (.bipush 6, 2) := by decide +kernel
theorem dL_law_583 : decode cL_law 583 = .ok (.iadd, 1) := by decide +kernel
theorem dL_law_584 : decode cL_law 584 = .ok (.iaload, 1) := by decide +kernel
theorem dL_law_585 : decode cL_law 585 = .ok (.aload_n 0, 1) := by decide +kernel
theorem dL_law_586 : decode cL_law 586 = .ok (.iload_n 3, 1) := by decide +kernel
theorem dL_law_587 : decode cL_law 587 = .ok (.bipush 7, 2) := by decide +kernel
theorem dL_law_589 : decode cL_law 589 = .ok (.iadd, 1) := by decide +kernel
theorem dL_law_590 : decode cL_law 590 = .ok (.iaload, 1) := by decide +kernel
theorem dL_law_591 : decode cL_law 591 = .ok (.aload_n 0, 1) := by decide +kernel
theorem dL_law_592 : decode cL_law 592 = .ok (.iload_n 3, 1) := by decide +kernel
theorem dL_law_593 : decode cL_law 593 = .ok (.bipush 8, 2) := by decide +kernel
theorem dL_law_595 : decode cL_law 595 = .ok (.iadd, 1) := by decide +kernel
theorem dL_law_596 : decode cL_law 596 = .ok (.iaload, 1) := by decide +kernel
theorem dL_law_597 : decode cL_law 597 = .ok (.aload_n 0, 1) := by decide +kernel
theorem dL_law_598 : decode cL_law 598 = .ok (.iload_n 3, 1) := by decide +kernel
theorem dL_law_599 : decode cL_law 599 = .ok (.bipush 9, 2) := by decide +kernel
theorem dL_law_601 : decode cL_law 601 = .ok (.iadd, 1) := by decide +kernel
theorem dL_law_602 : decode cL_law 602 = .ok (.iaload, 1) := by decide +kernel
theorem dL_law_603 : decode cL_law 603 = .ok (.invokevirtual 47, 3) := by decide +kernel
theorem dL_law_606 : decode cL_law 606 = .ok (.aload_n 2, 1) := by decide +kernel
theorem dL_law_607 : decode cL_law 607 = .ok (.aload_n 0, 1) := by decide +kernel
theorem dL_law_608 : decode cL_law 608 = .ok (.iload_n 3, 1) := by decide +kernel
theorem dL_law_609 : decode cL_law 609 = .ok (.iconst 1, 1) := by decide +kernel
theorem dL_law_610 : decode cL_law 610 = .ok (.iadd, 1) := by decide +kernel
theorem dL_law_611 : decode cL_law 611 = .ok (.iaload, 1) := by decide +kernel
theorem dL_law_612 : decode cL_law 612 = .ok (.aload_n 0, 1) := by decide +kernel
theorem dL_law_613 : decode cL_law 613 = .ok (.iload_n 3, 1) := by decide +kernel
theorem dL_law_614 : decode cL_law 614 = .ok (.iconst 2, 1) := by decide +kernel
theorem dL_law_615 : decode cL_law 615 = .ok (.iadd, 1) := by decide +kernel
theorem dL_law_616 : decode cL_law 616 = .ok (.iaload, 1) := by decide +kernel
theorem dL_law_617 : decode cL_law 617 = .ok (.aload_n 0, 1) := by decide +kernel
theorem dL_law_618 : decode cL_law 618 = .ok (.iload_n 3, 1) := by decide +kernel
theorem dL_law_619 : decode cL_law 619 = .ok (.iconst 3, 1) := by decide +kernel
theorem dL_law_620 : decode cL_law 620 = .ok (.iadd, 1) := by decide +kernel
theorem dL_law_621 : decode cL_law 621 = .ok (.iaload, 1) := by decide +kernel
theorem dL_law_622 : decode cL_law 622 = .ok (.aload_n 0, 1) := by decide +kernel
theorem dL_law_623 : decode cL_law 623 = .ok (.iload_n 3, 1) := by decide +kernel
theorem dL_law_624 : decode cL_law 624 = .ok (.iconst 4, 1) := by decide +kernel
theorem dL_law_625 : decode cL_law 625 = .ok (.iadd, 1) := by decide +kernel
theorem dL_law_626 : decode cL_law 626 = .ok (.iaload, 1) := by decide +kernel
theorem dL_law_627 : decode cL_law 627 = .ok (.aload_n 0, 1) := by decide +kernel
theorem dL_law_628 : decode cL_law 628 = .ok (.iload_n 3, 1) := by decide +kernel
theorem dL_law_629 : decode cL_law 629 = .ok (.iconst 5, 1) := by decide +kernel
theorem dL_law_630 : decode cL_law 630 = .ok (.iadd, 1) := by decide +kernel
theorem dL_law_631 : decode cL_law 631 = .ok (.iaload, 1) := by decide +kernel
theorem dL_law_632 : decode cL_law 632 = .ok (.aload_n 0, 1) := by decide +kernel
theorem dL_law_633 : decode cL_law 633 = .ok (.iload_n 3, 1) := by decide +kernel
theorem dL_law_634 : decode cL_law 634 = .ok (.bipush 6, 2) := by decide +kernel
theorem dL_law_636 : decode cL_law 636 = .ok (.iadd, 1) := by decide +kernel
theorem dL_law_637 : decode cL_law 637 = .ok (.iaload, 1) := by decide +kernel
theorem dL_law_638 : decode cL_law 638 = .ok (.aload_n 0, 1) := by decide +kernel
theorem dL_law_639 : decode cL_law 639 = .ok (.iload_n 3, 1) := by decide +kernel
theorem dL_law_640 : decode cL_law 640 = .ok (.bipush 7, 2) := by decide +kernel
theorem dL_law_642 : decode cL_law 642 = .ok (.iadd, 1) := by decide +kernel
theorem dL_law_643 : decode cL_law 643 = .ok (.iaload, 1) := by decide +kernel
theorem dL_law_644 : decode cL_law 644 = .ok (.aload_n 0, 1) := by decide +kernel
theorem dL_law_645 : decode cL_law 645 = .ok (.iload_n 3, 1) := by decide +kernel
theorem dL_law_646 : decode cL_law 646 = .ok (.bipush 8, 2) := by decide +kernel
theorem dL_law_648 : decode cL_law 648 = .ok (.iadd, 1) := by decide +kernel
theorem dL_law_649 : decode cL_law 649 = .ok (.iaload, 1) := by decide +kernel
theorem dL_law_650 : decode cL_law 650 = .ok (.aload_n 0, 1) := by decide +kernel
theorem dL_law_651 : decode cL_law 651 = .ok (.iload_n 3, 1) := by decide +kernel
theorem dL_law_652 : decode cL_law 652 = .ok (.bipush 9, 2) := by decide +kernel
theorem dL_law_654 : decode cL_law 654 = .ok (.iadd, 1) := by decide +kernel
theorem dL_law_655 : decode cL_law 655 = .ok (.iaload, 1) := by decide +kernel
theorem dL_law_656 : decode cL_law 656 = .ok (.invokevirtual 50, 3) := by decide +kernel
theorem dL_law_659 : decode cL_law 659 = .ok (.if_icmp .eq 543, 3) := by decide +kernel
theorem dL_law_662 : decode cL_law 662 = .ok (.iconst 0, 1) := by decide +kernel
theorem dL_law_663 : decode cL_law 663 = .ok (.ireturn, 1) := by decide +kernel
theorem dL_law_664 : decode cL_law 664 = .ok (.aload_n 1, 1) := by decide +kernel
theorem dL_law_665 : decode cL_law 665 = .ok (.aload_n 0, 1) := by decide +kernel
theorem dL_law_666 : decode cL_law 666 = .ok (.iload_n 3, 1) := by decide +kernel
theorem dL_law_667 : decode cL_law 667 = .ok (.iconst 1, 1) := by decide +kernel
theorem dL_law_668 : decode cL_law 668 = .ok (.iadd, 1) := by decide +kernel
theorem dL_law_669 : decode cL_law 669 = .ok (.iaload, 1) := by decide +kernel
theorem dL_law_670 : decode cL_law 670 = .ok (.aload_n 0, 1) := by decide +kernel
theorem dL_law_671 : decode cL_law 671 = .ok (.iload_n 3, 1) := by decide +kernel
theorem dL_law_672 : decode cL_law 672 = .ok (.iconst 2, 1) := by decide +kernel
theorem dL_law_673 : decode cL_law 673 = .ok (.iadd, 1) := by decide +kernel
theorem dL_law_674 : decode cL_law 674 = .ok (.iaload, 1) := by decide +kernel
theorem dL_law_675 : decode cL_law 675 = .ok (.aload_n 0, 1) := by decide +kernel
theorem dL_law_676 : decode cL_law 676 = .ok (.iload_n 3, 1) := by decide +kernel
theorem dL_law_677 : decode cL_law 677 = .ok (.iconst 3, 1) := by decide +kernel
theorem dL_law_678 : decode cL_law 678 = .ok (.iadd, 1) := by decide +kernel
theorem dL_law_679 : decode cL_law 679 = .ok (.iaload, 1) := by decide +kernel
theorem dL_law_680 : decode cL_law 680 = .ok (.aload_n 0, 1) := by decide +kernel
theorem dL_law_681 : decode cL_law 681 = .ok (.iload_n 3, 1) := by decide +kernel
theorem dL_law_682 : decode cL_law 682 = .ok (.iconst 4, 1) := by decide +kernel
theorem dL_law_683 : decode cL_law 683 = .ok (.iadd, 1) := by decide +kernel
theorem dL_law_684 : decode cL_law 684 = .ok (.iaload, 1) := by decide +kernel
theorem dL_law_685 : decode cL_law 685 = .ok (.aload_n 0, 1) := by decide +kernel
theorem dL_law_686 : decode cL_law 686 = .ok (.iload_n 3, 1) := by decide +kernel
theorem dL_law_687 : decode cL_law 687 = .ok (.iconst 5, 1) := by decide +kernel
theorem dL_law_688 : decode cL_law 688 = .ok (.iadd, 1) := by decide +kernel
theorem dL_law_689 : decode cL_law 689 = .ok (.iaload, 1) := by decide +kernel
theorem dL_law_690 : decode cL_law 690 = .ok (.aload_n 0, 1) := by decide +kernel
theorem dL_law_691 : decode cL_law 691 = .ok (.iload_n 3, 1) := by decide +kernel
theorem dL_law_692 : decode cL_law 692 = .ok (.bipush 6, 2) := by decide +kernel
theorem dL_law_694 : decode cL_law 694 = .ok (.iadd, 1) := by decide +kernel
theorem dL_law_695 : decode cL_law 695 = .ok (.iaload, 1) := by decide +kernel
theorem dL_law_696 : decode cL_law 696 = .ok (.aload_n 0, 1) := by decide +kernel
theorem dL_law_697 : decode cL_law 697 = .ok (.iload_n 3, 1) := by decide +kernel
theorem dL_law_698 : decode cL_law 698 = .ok (.bipush 7, 2) := by decide +kernel
theorem dL_law_700 : decode cL_law 700 = .ok (.iadd, 1) := by decide +kernel
theorem dL_law_701 : decode cL_law 701 = .ok (.iaload, 1) := by decide +kernel
theorem dL_law_702 : decode cL_law 702 = .ok (.aload_n 0, 1) := by decide +kernel
theorem dL_law_703 : decode cL_law 703 = .ok (.iload_n 3, 1) := by decide +kernel
theorem dL_law_704 : decode cL_law 704 = .ok (.bipush 8, 2) := by decide +kernel
theorem dL_law_706 : decode cL_law 706 = .ok (.iadd, 1) := by decide +kernel
theorem dL_law_707 : decode cL_law 707 = .ok (.iaload, 1) := by decide +kernel
theorem dL_law_708 : decode cL_law 708 = .ok (.aload_n 0, 1) := by decide +kernel
theorem dL_law_709 : decode cL_law 709 = .ok (.iload_n 3, 1) := by decide +kernel
theorem dL_law_710 : decode cL_law 710 = .ok (.bipush 9, 2) := by decide +kernel
theorem dL_law_712 : decode cL_law 712 = .ok (.iadd, 1) := by decide +kernel
theorem dL_law_713 : decode cL_law 713 = .ok (.iaload, 1) := by decide +kernel
theorem dL_law_714 : decode cL_law 714 = .ok (.invokevirtual 51, 3) := by decide +kernel
theorem dL_law_717 : decode cL_law 717 = .ok (.aload_n 2, 1) := by decide +kernel
theorem dL_law_718 : decode cL_law 718 = .ok (.aload_n 0, 1) := by decide +kernel
theorem dL_law_719 : decode cL_law 719 = .ok (.iload_n 3, 1) := by decide +kernel
theorem dL_law_720 : decode cL_law 720 = .ok (.iconst 1, 1) := by decide +kernel
theorem dL_law_721 : decode cL_law 721 = .ok (.iadd, 1) := by decide +kernel
theorem dL_law_722 : decode cL_law 722 = .ok (.iaload, 1) := by decide +kernel
theorem dL_law_723 : decode cL_law 723 = .ok (.aload_n 0, 1) := by decide +kernel
theorem dL_law_724 : decode cL_law 724 = .ok (.iload_n 3, 1) := by decide +kernel
theorem dL_law_725 : decode cL_law 725 = .ok (.iconst 2, 1) := by decide +kernel
theorem dL_law_726 : decode cL_law 726 = .ok (.iadd, 1) := by decide +kernel
theorem dL_law_727 : decode cL_law 727 = .ok (.iaload, 1) := by decide +kernel
theorem dL_law_728 : decode cL_law 728 = .ok (.aload_n 0, 1) := by decide +kernel
theorem dL_law_729 : decode cL_law 729 = .ok (.iload_n 3, 1) := by decide +kernel
theorem dL_law_730 : decode cL_law 730 = .ok (.iconst 3, 1) := by decide +kernel
theorem dL_law_731 : decode cL_law 731 = .ok (.iadd, 1) := by decide +kernel
theorem dL_law_732 : decode cL_law 732 = .ok (.iaload, 1) := by decide +kernel
theorem dL_law_733 : decode cL_law 733 = .ok (.aload_n 0, 1) := by decide +kernel
theorem dL_law_734 : decode cL_law 734 = .ok (.iload_n 3, 1) := by decide +kernel
theorem dL_law_735 : decode cL_law 735 = .ok (.iconst 4, 1) := by decide +kernel
theorem dL_law_736 : decode cL_law 736 = .ok (.iadd, 1) := by decide +kernel
theorem dL_law_737 : decode cL_law 737 = .ok (.iaload, 1) := by decide +kernel
theorem dL_law_738 : decode cL_law 738 = .ok (.aload_n 0, 1) := by decide +kernel
theorem dL_law_739 : decode cL_law 739 = .ok (.iload_n 3, 1) := by decide +kernel
theorem dL_law_740 : decode cL_law 740 = .ok (.iconst 5, 1) := by decide +kernel
theorem dL_law_741 : decode cL_law 741 = .ok (.iadd, 1) := by decide +kernel
theorem dL_law_742 : decode cL_law 742 = .ok (.iaload, 1) := by decide +kernel
theorem dL_law_743 : decode cL_law 743 = .ok (.aload_n 0, 1) := by decide +kernel
theorem dL_law_744 : decode cL_law 744 = .ok (.iload_n 3, 1) := by decide +kernel
theorem dL_law_745 : decode cL_law 745 = .ok (.bipush 6, 2) := by decide +kernel
theorem dL_law_747 : decode cL_law 747 = .ok (.iadd, 1) := by decide +kernel
theorem dL_law_748 : decode cL_law 748 = .ok (.iaload, 1) := by decide +kernel
theorem dL_law_749 : decode cL_law 749 = .ok (.aload_n 0, 1) := by decide +kernel
theorem dL_law_750 : decode cL_law 750 = .ok (.iload_n 3, 1) := by decide +kernel
theorem dL_law_751 : decode cL_law 751 = .ok (.bipush 7, 2) := by decide +kernel
theorem dL_law_753 : decode cL_law 753 = .ok (.iadd, 1) := by decide +kernel
theorem dL_law_754 : decode cL_law 754 = .ok (.iaload, 1) := by decide +kernel
theorem dL_law_755 : decode cL_law 755 = .ok (.aload_n 0, 1) := by decide +kernel
theorem dL_law_756 : decode cL_law 756 = .ok (.iload_n 3, 1) := by decide +kernel
theorem dL_law_757 : decode cL_law 757 = .ok (.bipush 8, 2) := by decide +kernel
theorem dL_law_759 : decode cL_law 759 = .ok (.iadd, 1) := by decide +kernel
theorem dL_law_760 : decode cL_law 760 = .ok (.iaload, 1) := by decide +kernel
theorem dL_law_761 : decode cL_law 761 = .ok (.aload_n 0, 1) := by decide +kernel
theorem dL_law_762 : decode cL_law 762 = .ok (.iload_n 3, 1) := by decide +kernel
theorem dL_law_763 : decode cL_law 763 = .ok (.bipush 9, 2) := by decide +kernel
theorem dL_law_765 : decode cL_law 765 = .ok (.iadd, 1) := by decide +kernel
theorem dL_law_766 : decode cL_law 766 = .ok (.iaload, 1) := by decide +kernel
theorem dL_law_767 : decode cL_law 767 = .ok (.invokevirtual 54, 3) := by decide +kernel
theorem dL_law_770 : decode cL_law 770 = .ok (.if_icmp .eq 432, 3) := by decide +kernel
theorem dL_law_773 : decode cL_law 773 = .ok (.iconst 0, 1) := by decide +kernel
theorem dL_law_774 : decode cL_law 774 = .ok (.ireturn, 1) := by decide +kernel
theorem dL_law_775 : decode cL_law 775 = .ok (.aload_n 1, 1) := by decide +kernel
theorem dL_law_776 : decode cL_law 776 = .ok (.aload_n 0, 1) := by decide +kernel
theorem dL_law_777 : decode cL_law 777 = .ok (.iload_n 3, 1) := by decide +kernel
theorem dL_law_778 : decode cL_law 778 = .ok (.iconst 1, 1) := by decide +kernel
theorem dL_law_779 : decode cL_law 779 = .ok (.iadd, 1) := by decide +kernel
theorem dL_law_780 : decode cL_law 780 = .ok (.iaload, 1) := by decide +kernel
theorem dL_law_781 : decode cL_law 781 = .ok (.aload_n 0, 1) := by decide +kernel
theorem dL_law_782 : decode cL_law 782 = .ok (.iload_n 3, 1) := by decide +kernel
theorem dL_law_783 : decode cL_law 783 = .ok (.iconst 2, 1) := by decide +kernel
theorem dL_law_784 : decode cL_law 784 = .ok (.iadd, 1) := by decide +kernel
theorem dL_law_785 : decode cL_law 785 = .ok (.iaload, 1) := by decide +kernel
theorem dL_law_786 : decode cL_law 786 = .ok (.aload_n 0, 1) := by decide +kernel
theorem dL_law_787 : decode cL_law 787 = .ok (.iload_n 3, 1) := by decide +kernel
theorem dL_law_788 : decode cL_law 788 = .ok (.iconst 3, 1) := by decide +kernel
theorem dL_law_789 : decode cL_law 789 = .ok (.iadd, 1) := by decide +kernel
theorem dL_law_790 : decode cL_law 790 = .ok (.iaload, 1) := by decide +kernel
theorem dL_law_791 : decode cL_law 791 = .ok (.aload_n 0, 1) := by decide +kernel
theorem dL_law_792 : decode cL_law 792 = .ok (.iload_n 3, 1) := by decide +kernel
theorem dL_law_793 : decode cL_law 793 = .ok (.iconst 4, 1) := by decide +kernel
theorem dL_law_794 : decode cL_law 794 = .ok (.iadd, 1) := by decide +kernel
theorem dL_law_795 : decode cL_law 795 = .ok (.iaload, 1) := by decide +kernel
theorem dL_law_796 : decode cL_law 796 = .ok (.aload_n 0, 1) := by decide +kernel
theorem dL_law_797 : decode cL_law 797 = .ok (.iload_n 3, 1) := by decide +kernel
theorem dL_law_798 : decode cL_law 798 = .ok (.iconst 5, 1) := by decide +kernel
theorem dL_law_799 : decode cL_law 799 = .ok (.iadd, 1) := by decide +kernel
theorem dL_law_800 : decode cL_law 800 = .ok (.iaload, 1) := by decide +kernel
theorem dL_law_801 : decode cL_law 801 = .ok (.aload_n 0, 1) := by decide +kernel
theorem dL_law_802 : decode cL_law 802 = .ok (.iload_n 3, 1) := by decide +kernel
theorem dL_law_803 : decode cL_law 803 = .ok (.bipush 6, 2) := by decide +kernel
theorem dL_law_805 : decode cL_law 805 = .ok (.iadd, 1) := by decide +kernel
theorem dL_law_806 : decode cL_law 806 = .ok (.iaload, 1) := by decide +kernel
theorem dL_law_807 : decode cL_law 807 = .ok (.aload_n 0, 1) := by decide +kernel
theorem dL_law_808 : decode cL_law 808 = .ok (.iload_n 3, 1) := by decide +kernel
theorem dL_law_809 : decode cL_law 809 = .ok (.bipush 7, 2) := by decide +kernel
theorem dL_law_811 : decode cL_law 811 = .ok (.iadd, 1) := by decide +kernel
theorem dL_law_812 : decode cL_law 812 = .ok (.iaload, 1) := by decide +kernel
theorem dL_law_813 : decode cL_law 813 = .ok (.aload_n 0, 1) := by decide +kernel
theorem dL_law_814 : decode cL_law 814 = .ok (.iload_n 3, 1) := by decide +kernel
theorem dL_law_815 : decode cL_law 815 = .ok (.bipush 8, 2) := by decide +kernel
theorem dL_law_817 : decode cL_law 817 = .ok (.iadd, 1) := by decide +kernel
theorem dL_law_818 : decode cL_law 818 = .ok (.iaload, 1) := by decide +kernel
theorem dL_law_819 : decode cL_law 819 = .ok (.aload_n 0, 1) := by decide +kernel
theorem dL_law_820 : decode cL_law 820 = .ok (.iload_n 3, 1) := by decide +kernel
theorem dL_law_821 : decode cL_law 821 = .ok (.bipush 9, 2) := by decide +kernel
theorem dL_law_823 : decode cL_law 823 = .ok (.iadd, 1) := by decide +kernel
theorem dL_law_824 : decode cL_law 824 = .ok (.iaload, 1) := by decide +kernel
theorem dL_law_825 : decode cL_law 825 = .ok (.aload_n 0, 1) := by decide +kernel
theorem dL_law_826 : decode cL_law 826 = .ok (.iload_n 3, 1) := by decide +kernel
theorem dL_law_827 : decode cL_law 827 = .ok (.bipush 10, 2) := by decide +kernel
theorem dL_law_829 : decode cL_law 829 = .ok (.iadd, 1) := by decide +kernel
theorem dL_law_830 : decode cL_law 830 = .ok (.iaload, 1) := by decide +kernel
theorem dL_law_831 : decode cL_law 831 = .ok (.invokevirtual 55, 3) := by decide +kernel
theorem dL_law_834 : decode cL_law 834 = .ok (.aload_n 2, 1) := by decide +kernel
theorem dL_law_835 : decode cL_law 835 = .ok (.aload_n 0, 1) := by decide +kernel
theorem dL_law_836 : decode cL_law 836 = .ok (.iload_n 3, 1) := by decide +kernel
theorem dL_law_837 : decode cL_law 837 = .ok (.iconst 1, 1) := by decide +kernel
theorem dL_law_838 : decode cL_law 838 = .ok (.iadd, 1) := by decide +kernel
theorem dL_law_839 : decode cL_law 839 = .ok (.iaload, 1) := by decide +kernel
theorem dL_law_840 : decode cL_law 840 = .ok (.aload_n 0, 1) := by decide +kernel
theorem dL_law_841 : decode cL_law 841 = .ok (.iload_n 3, 1) := by decide +kernel
theorem dL_law_842 : decode cL_law 842 = .ok (.iconst 2, 1) := by decide +kernel
theorem dL_law_843 : decode cL_law 843 = .ok (.iadd, 1) := by decide +kernel
theorem dL_law_844 : decode cL_law 844 = .ok (.iaload, 1) := by decide +kernel
theorem dL_law_845 : decode cL_law 845 = .ok (.aload_n 0, 1) := by decide +kernel
theorem dL_law_846 : decode cL_law 846 = .ok (.iload_n 3, 1) := by decide +kernel
theorem dL_law_847 : decode cL_law 847 = .ok (.iconst 3, 1) := by decide +kernel
theorem dL_law_848 : decode cL_law 848 = .ok (.iadd, 1) := by decide +kernel
theorem dL_law_849 : decode cL_law 849 = .ok (.iaload, 1) := by decide +kernel
theorem dL_law_850 : decode cL_law 850 = .ok (.aload_n 0, 1) := by decide +kernel
theorem dL_law_851 : decode cL_law 851 = .ok (.iload_n 3, 1) := by decide +kernel
theorem dL_law_852 : decode cL_law 852 = .ok (.iconst 4, 1) := by decide +kernel
theorem dL_law_853 : decode cL_law 853 = .ok (.iadd, 1) := by decide +kernel
theorem dL_law_854 : decode cL_law 854 = .ok (.iaload, 1) := by decide +kernel
theorem dL_law_855 : decode cL_law 855 = .ok (.aload_n 0, 1) := by decide +kernel
theorem dL_law_856 : decode cL_law 856 = .ok (.iload_n 3, 1) := by decide +kernel
theorem dL_law_857 : decode cL_law 857 = .ok (.iconst 5, 1) := by decide +kernel
theorem dL_law_858 : decode cL_law 858 = .ok (.iadd, 1) := by decide +kernel
theorem dL_law_859 : decode cL_law 859 = .ok (.iaload, 1) := by decide +kernel
theorem dL_law_860 : decode cL_law 860 = .ok (.aload_n 0, 1) := by decide +kernel
theorem dL_law_861 : decode cL_law 861 = .ok (.iload_n 3, 1) := by decide +kernel
theorem dL_law_862 : decode cL_law 862 = .ok (.bipush 6, 2) := by decide +kernel
theorem dL_law_864 : decode cL_law 864 = .ok (.iadd, 1) := by decide +kernel
theorem dL_law_865 : decode cL_law 865 = .ok (.iaload, 1) := by decide +kernel
theorem dL_law_866 : decode cL_law 866 = .ok (.aload_n 0, 1) := by decide +kernel
theorem dL_law_867 : decode cL_law 867 = .ok (.iload_n 3, 1) := by decide +kernel
theorem dL_law_868 : decode cL_law 868 = .ok (.bipush 7, 2) := by decide +kernel
theorem dL_law_870 : decode cL_law 870 = .ok (.iadd, 1) := by decide +kernel
theorem dL_law_871 : decode cL_law 871 = .ok (.iaload, 1) := by decide +kernel
theorem dL_law_872 : decode cL_law 872 = .ok (.aload_n 0, 1) := by decide +kernel
theorem dL_law_873 : decode cL_law 873 = .ok (.iload_n 3, 1) := by decide +kernel
theorem dL_law_874 : decode cL_law 874 = .ok (.bipush 8, 2) := by decide +kernel
theorem dL_law_876 : decode cL_law 876 = .ok (.iadd, 1) := by decide +kernel
theorem dL_law_877 : decode cL_law 877 = .ok (.iaload, 1) := by decide +kernel
theorem dL_law_878 : decode cL_law 878 = .ok (.aload_n 0, 1) := by decide +kernel
theorem dL_law_879 : decode cL_law 879 = .ok (.iload_n 3, 1) := by decide +kernel
theorem dL_law_880 : decode cL_law 880 = .ok (.bipush 9, 2) := by decide +kernel
theorem dL_law_882 : decode cL_law 882 = .ok (.iadd, 1) := by decide +kernel
theorem dL_law_883 : decode cL_law 883 = .ok (.iaload, 1) := by decide +kernel
theorem dL_law_884 : decode cL_law 884 = .ok (.aload_n 0, 1) := by decide +kernel
theorem dL_law_885 : decode cL_law 885 = .ok (.iload_n 3, 1) := by decide +kernel
theorem dL_law_886 : decode cL_law 886 = .ok (.bipush 10, 2) := by decide +kernel
theorem dL_law_888 : decode cL_law 888 = .ok (.iadd, 1) := by decide +kernel
theorem dL_law_889 : decode cL_law 889 = .ok (.iaload, 1) := by decide +kernel
theorem dL_law_890 : decode cL_law 890 = .ok (.invokevirtual 59, 3) := by decide +kernel
theorem dL_law_893 : decode cL_law 893 = .ok (.if_icmp .eq 309, 3) := by decide +kernel
theorem dL_law_896 : decode cL_law 896 = .ok (.iconst 0, 1) := by decide +kernel
theorem dL_law_897 : decode cL_law 897 = .ok (.ireturn, 1) := by decide +kernel
theorem dL_law_898 : decode cL_law 898 = .ok (.aload_n 1, 1) := by decide +kernel
theorem dL_law_899 : decode cL_law 899 = .ok (.aload_n 0, 1) := by decide +kernel
theorem dL_law_900 : decode cL_law 900 = .ok (.iload_n 3, 1) := by decide +kernel
theorem dL_law_901 : decode cL_law 901 = .ok (.iconst 1, 1) := by decide +kernel
theorem dL_law_902 : decode cL_law 902 = .ok (.iadd, 1) := by decide +kernel
theorem dL_law_903 : decode cL_law 903 = .ok (.iaload, 1) := by decide +kernel
theorem dL_law_904 : decode cL_law 904 = .ok (.aload_n 0, 1) := by decide +kernel
theorem dL_law_905 : decode cL_law 905 = .ok (.iload_n 3, 1) := by decide +kernel
theorem dL_law_906 : decode cL_law 906 = .ok (.iconst 2, 1) := by decide +kernel
theorem dL_law_907 : decode cL_law 907 = .ok (.iadd, 1) := by decide +kernel
theorem dL_law_908 : decode cL_law 908 = .ok (.iaload, 1) := by decide +kernel
theorem dL_law_909 : decode cL_law 909 = .ok (.invokevirtual 60, 3) := by decide +kernel
theorem dL_law_912 : decode cL_law 912 = .ok (.aload_n 2, 1) := by decide +kernel
theorem dL_law_913 : decode cL_law 913 = .ok (.aload_n 0, 1) := by decide +kernel
theorem dL_law_914 : decode cL_law 914 = .ok (.iload_n 3, 1) := by decide +kernel
theorem dL_law_915 : decode cL_law 915 = .ok (.iconst 1, 1) := by decide +kernel
theorem dL_law_916 : decode cL_law 916 = .ok (.iadd, 1) := by decide +kernel
theorem dL_law_917 : decode cL_law 917 = .ok (.iaload, 1) := by decide +kernel
theorem dL_law_918 : decode cL_law 918 = .ok (.aload_n 0, 1) := by decide +kernel
theorem dL_law_919 : decode cL_law 919 = .ok (.iload_n 3, 1) := by decide +kernel
theorem dL_law_920 : decode cL_law 920 = .ok (.iconst 2, 1) := by decide +kernel
theorem dL_law_921 : decode cL_law 921 = .ok (.iadd, 1) := by decide +kernel
theorem dL_law_922 : decode cL_law 922 = .ok (.iaload, 1) := by decide +kernel
theorem dL_law_923 : decode cL_law 923 = .ok (.invokevirtual 63, 3) := by decide +kernel
theorem dL_law_926 : decode cL_law 926 = .ok (.if_icmp .eq 276, 3) := by decide +kernel
theorem dL_law_929 : decode cL_law 929 = .ok (.iconst 0, 1) := by decide +kernel
theorem dL_law_930 : decode cL_law 930 = .ok (.ireturn, 1) := by decide +kernel
theorem dL_law_931 : decode cL_law 931 = .ok (.aload_n 1, 1) := by decide +kernel
theorem dL_law_932 : decode cL_law 932 = .ok (.aload_n 0, 1) := by decide +kernel
theorem dL_law_933 : decode cL_law 933 = .ok (.iload_n 3, 1) := by decide +kernel
theorem dL_law_934 : decode cL_law 934 = .ok (.iconst 1, 1) := by decide +kernel
theorem dL_law_935 : decode cL_law 935 = .ok (.iadd, 1) := by decide +kernel
theorem dL_law_936 : decode cL_law 936 = .ok (.iaload, 1) := by decide +kernel
theorem dL_law_937 : decode cL_law 937 = .ok (.aload_n 0, 1) := by decide +kernel
theorem dL_law_938 : decode cL_law 938 = .ok (.iload_n 3, 1) := by decide +kernel
theorem dL_law_939 : decode cL_law 939 = .ok (.iconst 2, 1) := by decide +kernel
theorem dL_law_940 : decode cL_law 940 = .ok (.iadd, 1) := by decide +kernel
theorem dL_law_941 : decode cL_law 941 = .ok (.iaload, 1) := by decide +kernel
theorem dL_law_942 : decode cL_law 942 = .ok (.invokevirtual 64, 3) := by decide +kernel
theorem dL_law_945 : decode cL_law 945 = .ok (.aload_n 2, 1) := by decide +kernel
theorem dL_law_946 : decode cL_law 946 = .ok (.aload_n 0, 1) := by decide +kernel
theorem dL_law_947 : decode cL_law 947 = .ok (.iload_n 3, 1) := by decide +kernel
theorem dL_law_948 : decode cL_law 948 = .ok (.iconst 1, 1) := by decide +kernel
theorem dL_law_949 : decode cL_law 949 = .ok (.iadd, 1) := by decide +kernel
theorem dL_law_950 : decode cL_law 950 = .ok (.iaload, 1) := by decide +kernel
theorem dL_law_951 : decode cL_law 951 = .ok (.aload_n 0, 1) := by decide +kernel
theorem dL_law_952 : decode cL_law 952 = .ok (.iload_n 3, 1) := by decide +kernel
theorem dL_law_953 : decode cL_law 953 = .ok (.iconst 2, 1) := by decide +kernel
theorem dL_law_954 : decode cL_law 954 = .ok (.iadd, 1) := by decide +kernel
theorem dL_law_955 : decode cL_law 955 = .ok (.iaload, 1) := by decide +kernel
theorem dL_law_956 : decode cL_law 956 = .ok (.invokevirtual 67, 3) := by decide +kernel
theorem dL_law_959 : decode cL_law 959 = .ok (.if_icmp .eq 243, 3) := by decide +kernel
theorem dL_law_962 : decode cL_law 962 = .ok (.iconst 0, 1) := by decide +kernel
theorem dL_law_963 : decode cL_law 963 = .ok (.ireturn, 1) := by decide +kernel
theorem dL_law_964 : decode cL_law 964 = .ok (.aload_n 1, 1) := by decide +kernel
theorem dL_law_965 : decode cL_law 965 = .ok (.aload_n 0, 1) := by decide +kernel
theorem dL_law_966 : decode cL_law 966 = .ok (.iload_n 3, 1) := by decide +kernel
theorem dL_law_967 : decode cL_law 967 = .ok (.iconst 1, 1) := by decide +kernel
theorem dL_law_968 : decode cL_law 968 = .ok (.iadd, 1) := by decide +kernel
theorem dL_law_969 : decode cL_law 969 = .ok (.iaload, 1) := by decide +kernel
theorem dL_law_970 : decode cL_law 970 = .ok (.aload_n 0, 1) := by decide +kernel
theorem dL_law_971 : decode cL_law 971 = .ok (.iload_n 3, 1) := by decide +kernel
theorem dL_law_972 : decode cL_law 972 = .ok (.iconst 2, 1) := by decide +kernel
theorem dL_law_973 : decode cL_law 973 = .ok (.iadd, 1) := by decide +kernel
theorem dL_law_974 : decode cL_law 974 = .ok (.iaload, 1) := by decide +kernel
theorem dL_law_975 : decode cL_law 975 = .ok (.aload_n 0, 1) := by decide +kernel
theorem dL_law_976 : decode cL_law 976 = .ok (.iload_n 3, 1) := by decide +kernel
theorem dL_law_977 : decode cL_law 977 = .ok (.iconst 3, 1) := by decide +kernel
theorem dL_law_978 : decode cL_law 978 = .ok (.iadd, 1) := by decide +kernel
theorem dL_law_979 : decode cL_law 979 = .ok (.iaload, 1) := by decide +kernel
theorem dL_law_980 : decode cL_law 980 = .ok (.invokevirtual 68, 3) := by decide +kernel
theorem dL_law_983 : decode cL_law 983 = .ok (.aload_n 2, 1) := by decide +kernel
theorem dL_law_984 : decode cL_law 984 = .ok (.aload_n 0, 1) := by decide +kernel
theorem dL_law_985 : decode cL_law 985 = .ok (.iload_n 3, 1) := by decide +kernel
theorem dL_law_986 : decode cL_law 986 = .ok (.iconst 1, 1) := by decide +kernel
theorem dL_law_987 : decode cL_law 987 = .ok (.iadd, 1) := by decide +kernel
theorem dL_law_988 : decode cL_law 988 = .ok (.iaload, 1) := by decide +kernel
theorem dL_law_989 : decode cL_law 989 = .ok (.aload_n 0, 1) := by decide +kernel
theorem dL_law_990 : decode cL_law 990 = .ok (.iload_n 3, 1) := by decide +kernel
theorem dL_law_991 : decode cL_law 991 = .ok (.iconst 2, 1) := by decide +kernel
theorem dL_law_992 : decode cL_law 992 = .ok (.iadd, 1) := by decide +kernel
theorem dL_law_993 : decode cL_law 993 = .ok (.iaload, 1) := by decide +kernel
theorem dL_law_994 : decode cL_law 994 = .ok (.aload_n 0, 1) := by decide +kernel
theorem dL_law_995 : decode cL_law 995 = .ok (.iload_n 3, 1) := by decide +kernel
theorem dL_law_996 : decode cL_law 996 = .ok (.iconst 3, 1) := by decide +kernel
theorem dL_law_997 : decode cL_law 997 = .ok (.iadd, 1) := by decide +kernel
theorem dL_law_998 : decode cL_law 998 = .ok (.iaload, 1) := by decide +kernel
theorem dL_law_999 : decode cL_law 999 = .ok (.invokevirtual 71, 3) := by decide +kernel
theorem dL_law_1002 : decode cL_law 1002 = .ok (.if_icmp .eq 200, 3) := by decide +kernel
theorem dL_law_1005 : decode cL_law 1005 = .ok (.iconst 0, 1) := by decide +kernel
theorem dL_law_1006 : decode cL_law 1006 = .ok (.ireturn, 1) := by decide +kernel
theorem dL_law_1007 : decode cL_law 1007 = .ok (.aload_n 1, 1) := by decide +kernel
theorem dL_law_1008 : decode cL_law 1008 = .ok (.aload_n 0, 1) := by decide +kernel
theorem dL_law_1009 : decode cL_law 1009 = .ok (.iload_n 3, 1) := by decide +kernel
theorem dL_law_1010 : decode cL_law 1010 = .ok (.iconst 1, 1) := by decide +kernel
theorem dL_law_1011 : decode cL_law 1011 = .ok (.iadd, 1) := by decide +kernel
theorem dL_law_1012 : decode cL_law 1012 = .ok (.iaload, 1) := by decide +kernel
theorem dL_law_1013 : decode cL_law 1013 = .ok (.aload_n 0, 1) := by decide +kernel
theorem dL_law_1014 : decode cL_law 1014 = .ok (.iload_n 3, 1) := by decide +kernel
theorem dL_law_1015 : decode cL_law 1015 = .ok (.iconst 2, 1) := by decide +kernel
theorem dL_law_1016 : decode cL_law 1016 = .ok (.iadd, 1) := by decide +kernel
theorem dL_law_1017 : decode cL_law 1017 = .ok (.iaload, 1) := by decide +kernel
theorem dL_law_1018 : decode cL_law 1018 = .ok (.i2l, 1) := by decide +kernel
theorem dL_law_1019 : decode cL_law 1019 = .ok (.bipush 32, 2) := by decide +kernel
theorem dL_law_1021 : decode cL_law 1021 = .ok (.lshl, 1) := by decide +kernel
theorem dL_law_1022 : decode cL_law 1022 = .ok (.aload_n 0, 1) := by decide +kernel
theorem dL_law_1023 : decode cL_law 1023 = .ok (.iload_n 3, 1) := by decide +kernel
theorem dL_law_1024 : decode cL_law 1024 = .ok (.iconst 3, 1) := by decide +kernel
theorem dL_law_1025 : decode cL_law 1025 = .ok (.iadd, 1) := by decide +kernel
theorem dL_law_1026 : decode cL_law 1026 = .ok (.iaload, 1) := by decide +kernel
theorem dL_law_1027 : decode cL_law 1027 = .ok (.i2l, 1) := by decide +kernel
theorem dL_law_1028 : decode cL_law 1028 = .ok (.ldc2_w 72, 3) := by decide +kernel
theorem dL_law_1031 : decode cL_law 1031 = .ok (.land, 1) := by decide +kernel
theorem dL_law_1032 : decode cL_law 1032 = .ok (.lor, 1) := by decide +kernel
theorem dL_law_1033 : decode cL_law 1033 = .ok (.aload_n 0, 1) := by decide +kernel
theorem dL_law_1034 : decode cL_law 1034 = .ok (.iload_n 3, 1) := by decide +kernel
end
section
theorem dL_law_1035 : decode cL_law 1035 = .ok (.iconst 4, 1) := by decide +kernel
theorem dL_law_1036 : decode cL_law 1036 = .ok (.iadd, 1) := by decide +kernel
theorem dL_law_1037 : decode cL_law 1037 = .ok (.iaload, 1) := by decide +kernel
theorem dL_law_1038 : decode cL_law 1038 = .ok (.invokevirtual 74, 3) := by decide +kernel
theorem dL_law_1041 : decode cL_law 1041 = .ok (.aload_n 2, 1) := by decide +kernel
theorem dL_law_1042 : decode cL_law 1042 = .ok (.aload_n 0, 1) := by decide +kernel
theorem dL_law_1043 : decode cL_law 1043 = .ok (.iload_n 3, 1) := by decide +kernel
theorem dL_law_1044 : decode cL_law 1044 = .ok (.iconst 1, 1) := by decide +kernel
theorem dL_law_1045 : decode cL_law 1045 = .ok (.iadd, 1) := by decide +kernel
theorem dL_law_1046 : decode cL_law 1046 = .ok (.iaload, 1) := by decide +kernel
theorem dL_law_1047 : decode cL_law 1047 = .ok (.aload_n 0, 1) := by decide +kernel
theorem dL_law_1048 : decode cL_law 1048 = .ok (.iload_n 3, 1) := by decide +kernel
theorem dL_law_1049 : decode cL_law 1049 = .ok (.iconst 2, 1) := by decide +kernel
theorem dL_law_1050 : decode cL_law 1050 = .ok (.iadd, 1) := by decide +kernel
theorem dL_law_1051 : decode cL_law 1051 = .ok (.iaload, 1) := by decide +kernel
theorem dL_law_1052 : decode cL_law 1052 = .ok (.i2l, 1) := by decide +kernel
theorem dL_law_1053 : decode cL_law 1053 = .ok (.bipush 32, 2) := by decide +kernel
theorem dL_law_1055 : decode cL_law 1055 = .ok (.lshl, 1) := by decide +kernel
theorem dL_law_1056 : decode cL_law 1056 = .ok (.aload_n 0, 1) := by decide +kernel
theorem dL_law_1057 : decode cL_law 1057 = .ok (.iload_n 3, 1) := by decide +kernel
theorem dL_law_1058 : decode cL_law 1058 = .ok (.iconst 3, 1) := by decide +kernel
theorem dL_law_1059 : decode cL_law 1059 = .ok (.iadd, 1) := by decide +kernel
theorem dL_law_1060 : decode cL_law 1060 = .ok (.iaload, 1) := by decide +kernel
theorem dL_law_1061 : decode cL_law 1061 = .ok (.i2l, 1) := by decide +kernel
theorem dL_law_1062 : decode cL_law 1062 = .ok (.ldc2_w 72, 3) := by decide +kernel
theorem dL_law_1065 : decode cL_law 1065 = .ok (.land, 1) := by decide +kernel
theorem dL_law_1066 : decode cL_law 1066 = .ok (.lor, 1) := by decide +kernel
theorem dL_law_1067 : decode cL_law 1067 = .ok (.aload_n 0, 1) := by decide +kernel
theorem dL_law_1068 : decode cL_law 1068 = .ok (.iload_n 3, 1) := by decide +kernel
theorem dL_law_1069 : decode cL_law 1069 = .ok (.iconst 4, 1) := by decide +kernel
theorem dL_law_1070 : decode cL_law 1070 = .ok (.iadd, 1) := by decide +kernel
theorem dL_law_1071 : decode cL_law 1071 = .ok (.iaload, 1) := by decide +kernel
theorem dL_law_1072 : decode cL_law 1072 = .ok (.invokevirtual 78, 3) := by decide +kernel
theorem dL_law_1075 : decode cL_law 1075 = .ok (.if_icmp .eq 127, 3) := by decide +kernel
theorem dL_law_1078 : decode cL_law 1078 = .ok (.iconst 0, 1) := by decide +kernel
theorem dL_law_1079 : decode cL_law 1079 = .ok (.ireturn, 1) := by decide +kernel
theorem dL_law_1080 : decode cL_law 1080 = .ok (.aload_n 1, 1) := by decide +kernel
theorem dL_law_1081 : decode cL_law 1081 = .ok (.aload_n 0, 1) := by decide +kernel
theorem dL_law_1082 : decode cL_law 1082 = .ok (.iload_n 3, 1) := by decide +kernel
theorem dL_law_1083 : decode cL_law 1083 = .ok (.iconst 1, 1) := by decide +kernel
theorem dL_law_1084 : decode cL_law 1084 = .ok (.iadd, 1) := by decide +kernel
theorem dL_law_1085 : decode cL_law 1085 = .ok (.iaload, 1) := by decide +kernel
theorem dL_law_1086 : decode cL_law 1086 = .ok (.invokevirtual 79, 3) := by decide +kernel
theorem dL_law_1089 : decode cL_law 1089 = .ok (.aload_n 2, 1) := by decide +kernel
theorem dL_law_1090 : decode cL_law 1090 = .ok (.aload_n 0, 1) := by decide +kernel
theorem dL_law_1091 : decode cL_law 1091 = .ok (.iload_n 3, 1) := by decide +kernel
theorem dL_law_1092 : decode cL_law 1092 = .ok (.iconst 1, 1) := by decide +kernel
theorem dL_law_1093 : decode cL_law 1093 = .ok (.iadd, 1) := by decide +kernel
theorem dL_law_1094 : decode cL_law 1094 = .ok (.iaload, 1) := by decide +kernel
theorem dL_law_1095 : decode cL_law 1095 = .ok (.invokevirtual 83, 3) := by decide +kernel
theorem dL_law_1098 : decode cL_law 1098 = .ok (.if_icmp .eq 104, 3) := by decide +kernel
theorem dL_law_1101 : decode cL_law 1101 = .ok (.iconst 0, 1) := by decide +kernel
theorem dL_law_1102 : decode cL_law 1102 = .ok (.ireturn, 1) := by decide +kernel
theorem dL_law_1103 : decode cL_law 1103 = .ok (.aload_n 1, 1) := by decide +kernel
theorem dL_law_1104 : decode cL_law 1104 = .ok (.aload_n 0, 1) := by decide +kernel
theorem dL_law_1105 : decode cL_law 1105 = .ok (.iload_n 3, 1) := by decide +kernel
theorem dL_law_1106 : decode cL_law 1106 = .ok (.iconst 1, 1) := by decide +kernel
theorem dL_law_1107 : decode cL_law 1107 = .ok (.iadd, 1) := by decide +kernel
theorem dL_law_1108 : decode cL_law 1108 = .ok (.iaload, 1) := by decide +kernel
theorem dL_law_1109 : decode cL_law 1109 = .ok (.aload_n 0, 1) := by decide +kernel
theorem dL_law_1110 : decode cL_law 1110 = .ok (.iload_n 3, 1) := by decide +kernel
theorem dL_law_1111 : decode cL_law 1111 = .ok (.iconst 2, 1) := by decide +kernel
theorem dL_law_1112 : decode cL_law 1112 = .ok (.iadd, 1) := by decide +kernel
theorem dL_law_1113 : decode cL_law 1113 = .ok (.iaload, 1) := by decide +kernel
theorem dL_law_1114 : decode cL_law 1114 = .ok (.invokevirtual 84, 3) := by decide +kernel
theorem dL_law_1117 : decode cL_law 1117 = .ok (.aload_n 2, 1) := by decide +kernel
theorem dL_law_1118 : decode cL_law 1118 = .ok (.aload_n 0, 1) := by decide +kernel
theorem dL_law_1119 : decode cL_law 1119 = .ok (.iload_n 3, 1) := by decide +kernel
theorem dL_law_1120 : decode cL_law 1120 = .ok (.iconst 1, 1) := by decide +kernel
theorem dL_law_1121 : decode cL_law 1121 = .ok (.iadd, 1) := by decide +kernel
theorem dL_law_1122 : decode cL_law 1122 = .ok (.iaload, 1) := by decide +kernel
theorem dL_law_1123 : decode cL_law 1123 = .ok (.aload_n 0, 1) := by decide +kernel
theorem dL_law_1124 : decode cL_law 1124 = .ok (.iload_n 3, 1) := by decide +kernel
theorem dL_law_1125 : decode cL_law 1125 = .ok (.iconst 2, 1) := by decide +kernel
theorem dL_law_1126 : decode cL_law 1126 = .ok (.iadd, 1) := by decide +kernel
theorem dL_law_1127 : decode cL_law 1127 = .ok (.iaload, 1) := by decide +kernel
theorem dL_law_1128 : decode cL_law 1128 = .ok (.invokevirtual 87, 3) := by decide +kernel
theorem dL_law_1131 : decode cL_law 1131 = .ok (.if_icmp .eq 71, 3) := by decide +kernel
theorem dL_law_1134 : decode cL_law 1134 = .ok (.iconst 0, 1) := by decide +kernel
theorem dL_law_1135 : decode cL_law 1135 = .ok (.ireturn, 1) := by decide +kernel
theorem dL_law_1136 : decode cL_law 1136 = .ok (.aload_n 1, 1) := by decide +kernel
theorem dL_law_1137 : decode cL_law 1137 = .ok (.aload_n 0, 1) := by decide +kernel
theorem dL_law_1138 : decode cL_law 1138 = .ok (.iload_n 3, 1) := by decide +kernel
theorem dL_law_1139 : decode cL_law 1139 = .ok (.iconst 1, 1) := by decide +kernel
theorem dL_law_1140 : decode cL_law 1140 = .ok (.iadd, 1) := by decide +kernel
theorem dL_law_1141 : decode cL_law 1141 = .ok (.iaload, 1) := by decide +kernel
theorem dL_law_1142 : decode cL_law 1142 = .ok (.aload_n 0, 1) := by decide +kernel
theorem dL_law_1143 : decode cL_law 1143 = .ok (.iload_n 3, 1) := by decide +kernel
theorem dL_law_1144 : decode cL_law 1144 = .ok (.iconst 2, 1) := by decide +kernel
theorem dL_law_1145 : decode cL_law 1145 = .ok (.iadd, 1) := by decide +kernel
theorem dL_law_1146 : decode cL_law 1146 = .ok (.iaload, 1) := by decide +kernel
theorem dL_law_1147 : decode cL_law 1147 = .ok (.aload_n 0, 1) := by decide +kernel
theorem dL_law_1148 : decode cL_law 1148 = .ok (.iload_n 3, 1) := by decide +kernel
theorem dL_law_1149 : decode cL_law 1149 = .ok (.iconst 3, 1) := by decide +kernel
theorem dL_law_1150 : decode cL_law 1150 = .ok (.iadd, 1) := by decide +kernel
theorem dL_law_1151 : decode cL_law 1151 = .ok (.iaload, 1) := by decide +kernel
theorem dL_law_1152 : decode cL_law 1152 = .ok (.aload_n 0, 1) := by decide +kernel
theorem dL_law_1153 : decode cL_law 1153 = .ok (.iload_n 3, 1) := by decide +kernel
theorem dL_law_1154 : decode cL_law 1154 = .ok (.iconst 4, 1) := by decide +kernel
theorem dL_law_1155 : decode cL_law 1155 = .ok (.iadd, 1) := by decide +kernel
theorem dL_law_1156 : decode cL_law 1156 = .ok (.iaload, 1) := by decide +kernel
theorem dL_law_1157 : decode cL_law 1157 = .ok (.invokevirtual 88, 3) := by decide +kernel
theorem dL_law_1160 : decode cL_law 1160 = .ok (.aload_n 2, 1) := by decide +kernel
theorem dL_law_1161 : decode cL_law 1161 = .ok (.aload_n 0, 1) := by decide +kernel
theorem dL_law_1162 : decode cL_law 1162 = .ok (.iload_n 3, 1) := by decide +kernel
theorem dL_law_1163 : decode cL_law 1163 = .ok (.iconst 1, 1) := by decide +kernel
theorem dL_law_1164 : decode cL_law 1164 = .ok (.iadd, 1) := by decide +kernel
theorem dL_law_1165 : decode cL_law 1165 = .ok (.iaload, 1) := by decide +kernel
theorem dL_law_1166 : decode cL_law 1166 = .ok (.aload_n 0, 1) := by decide +kernel
theorem dL_law_1167 : decode cL_law 1167 = .ok (.iload_n 3, 1) := by decide +kernel
theorem dL_law_1168 : decode cL_law 1168 = .ok (.iconst 2, 1) := by decide +kernel
theorem dL_law_1169 : decode cL_law 1169 = .ok (.iadd, 1) := by decide +kernel
theorem dL_law_1170 : decode cL_law 1170 = .ok (.iaload, 1) := by decide +kernel
theorem dL_law_1171 : decode cL_law 1171 = .ok (.aload_n 0, 1) := by decide +kernel
theorem dL_law_1172 : decode cL_law 1172 = .ok (.iload_n 3, 1) := by decide +kernel
theorem dL_law_1173 : decode cL_law 1173 = .ok (.iconst 3, 1) := by decide +kernel
theorem dL_law_1174 : decode cL_law 1174 = .ok (.iadd, 1) := by decide +kernel
theorem dL_law_1175 : decode cL_law 1175 = .ok (.iaload, 1) := by decide +kernel
theorem dL_law_1176 : decode cL_law 1176 = .ok (.aload_n 0, 1) := by decide +kernel
theorem dL_law_1177 : decode cL_law 1177 = .ok (.iload_n 3, 1) := by decide +kernel
theorem dL_law_1178 : decode cL_law 1178 = .ok (.iconst 4, 1) := by decide +kernel
theorem dL_law_1179 : decode cL_law 1179 = .ok (.iadd, 1) := by decide +kernel
theorem dL_law_1180 : decode cL_law 1180 = .ok (.iaload, 1) := by decide +kernel
theorem dL_law_1181 : decode cL_law 1181 = .ok (.invokevirtual 91, 3) := by decide +kernel
theorem dL_law_1184 : decode cL_law 1184 = .ok (.if_icmp .eq 18, 3) := by decide +kernel
theorem dL_law_1187 : decode cL_law 1187 = .ok (.iconst 0, 1) := by decide +kernel
theorem dL_law_1188 : decode cL_law 1188 = .ok (.ireturn, 1) := by decide +kernel
theorem dL_law_1189 : decode cL_law 1189 = .ok (.aload_n 1, 1) := by decide +kernel
theorem dL_law_1190 : decode cL_law 1190 = .ok (.invokevirtual 92, 3) := by decide +kernel
theorem dL_law_1193 : decode cL_law 1193 = .ok (.aload_n 2, 1) := by decide +kernel
theorem dL_law_1194 : decode cL_law 1194 = .ok (.invokevirtual 96, 3) := by decide +kernel
theorem dL_law_1197 : decode cL_law 1197 = .ok (.if_icmp .eq 5, 3) := by decide +kernel
theorem dL_law_1200 : decode cL_law 1200 = .ok (.iconst 0, 1) := by decide +kernel
theorem dL_law_1201 : decode cL_law 1201 = .ok (.ireturn, 1) := by decide +kernel
theorem dL_law_1202 : decode cL_law 1202 = .ok (.iinc 3 11, 3) := by decide +kernel
theorem dL_law_1205 : decode cL_law 1205 = .ok (.goto (-1187), 3) := by decide +kernel
theorem dL_law_1208 : decode cL_law 1208 = .ok (.iconst 1, 1) := by decide +kernel
theorem dL_law_1209 : decode cL_law 1209 = .ok (.ireturn, 1) := by decide +kernel
end
section
set_option maxRecDepth 100000 in
theorem ggL_law_X5_init : GoodIn wsL_law wsX5_init := goodIn_r _ [9, 10, 11, 12, 13, 14, 15, 16, 17, 18, 19, 20, 21, 22, 23, 24, 25, 26, 27, 28, 29, 512, 513, 514, 515, 516, 533, 534, 535] rfl (by decide +kernel)
set_option maxRecDepth 100000 in
theorem gL_law_X5_init : GoodIn wsL_law (wsX5_init) := ggL_law_X5_init
set_option maxRecDepth 100000 in
theorem ggL_law_X6_init : GoodIn wsL_law wsX6_init := goodIn_r _ [32, 33, 11, 12, 21, 34, 35, 36, 37, 38, 39, 40, 41, 42, 43, 44, 45, 46, 47, 48, 517, 518, 519, 520, 521, 522, 523, 524, 525, 526, 527, 528, 529, 530, 531, 532] rfl (by decide +kernel)
set_option maxRecDepth 100000 in
theorem gL_law_X6_init : GoodIn wsL_law (wsX6_init) := ggL_law_X6_init
set_option maxRecDepth 100000 in
theorem ggL_law_X5_make : GoodIn wsL_law wsX5_make := goodIn_r _ [52, 15, 14, 13, 53, 54, 55, 56, 2, 57, 58, 59, 60, 61, 11, 12, 62, 63, 64, 65, 66, 67, 21, 68, 69, 70, 71, 72, 73, 74, 75, 76, 77, 512, 513, 514, 515, 516, 536, 537, 538, 539, 540, 541, 542, 543, 544] rfl (by decide +kernel)
set_option maxRecDepth 100000 in
theorem gL_law_X5_make : GoodIn wsL_law (wsV RL 13 RX5 yX5_make wsX5_make) := goodIn_app (goodIn_of _ (by decide +kernel)) ggL_law_X5_make
set_option maxRecDepth 100000 in
theorem ggL_law_X6_make : GoodIn wsL_law wsX6_make := goodIn_r _ [81, 82, 34, 35, 36, 37, 517, 518, 519, 520, 521, 522, 523, 524, 525, 526, 527, 528, 529, 530, 531, 532] rfl (by decide +kernel)
set_option maxRecDepth 100000 in
theorem gL_law_X6_make : GoodIn wsL_law (wsV RL 17 RX6 yX6_make wsX6_make) := goodIn_app (goodIn_of _ (by decide +kernel)) ggL_law_X6_make
set_option maxRecDepth 100000 in
theorem ggL_law_X5_clip : GoodIn wsL_law wsX5_clip := goodIn_r _ [86, 87, 88, 65, 66, 89, 90, 91, 92, 2, 93, 15, 14, 55, 56, 57, 94, 71, 72, 73, 11, 12, 74, 75, 76, 77, 95, 96, 97, 98, 99, 100, 101, 102, 103, 104, 105, 106, 107, 108, 109, 110, 111, 536, 537, 538, 539, 540, 541, 542, 543, 544, 512, 513, 514, 515, 516] rfl (by decide +kernel)
set_option maxRecDepth 100000 in
theorem gL_law_X5_clip : GoodIn wsL_law (wsV RL 18 RX5 yX5_clip wsX5_clip) := goodIn_app (goodIn_of _ (by decide +kernel)) ggL_law_X5_clip
set_option maxRecDepth 100000 in
theorem ggL_law_X6_clip : GoodIn wsL_law wsX6_clip := goodIn_r _ [115, 35, 36, 37, 116, 117, 118, 5, 119, 82, 120, 121, 122, 123, 124, 125, 517, 518, 519, 520, 521, 522, 523, 524, 525, 526, 527, 528, 529, 530, 531, 532] rfl (by decide +kernel)
set_option maxRecDepth 100000 in
theorem gL_law_X6_clip : GoodIn wsL_law (wsV RL 22 RX6 yX6_clip wsX6_clip) := goodIn_app (goodIn_of _ (by decide +kernel)) ggL_law_X6_clip
set_option maxRecDepth 100000 in
theorem ggL_law_X5_set : GoodIn wsL_law wsX5_set := goodIn_r _ [129, 87, 130, 90, 91, 92, 2, 93, 15, 14, 131, 132, 133, 66, 134, 74, 76, 75, 77, 135, 136, 137, 54, 138, 63, 139, 140, 141, 142, 67, 143, 536, 537, 538, 539, 540, 512, 513, 514, 515, 516, 541, 542, 543, 544] rfl (by decide +kernel)
set_option maxRecDepth 100000 in
theorem gL_law_X5_set : GoodIn wsL_law (wsV RL 23 RX5 yX5_set wsX5_set) := goodIn_app (goodIn_of _ (by decide +kernel)) ggL_law_X5_set
set_option maxRecDepth 100000 in
theorem ggL_law_X6_set : GoodIn wsL_law wsX6_set := goodIn_r _ [147, 39, 116, 117, 118, 5, 119, 82, 148, 149, 150, 151, 35, 36, 152, 153, 154, 155, 34, 517, 518, 519, 520, 521, 522, 523, 524, 525, 526, 527, 528, 529, 530, 531, 532] rfl (by decide +kernel)
set_option maxRecDepth 100000 in
theorem gL_law_X6_set : GoodIn wsL_law (wsV RL 27 RX6 yX6_set wsX6_set) := goodIn_app (goodIn_of _ (by decide +kernel)) ggL_law_X6_set
set_option maxRecDepth 100000 in
theorem ggL_law_X5_get : GoodIn wsL_law wsX5_get := goodIn_r _ [159, 87, 130, 90, 91, 92, 2, 93, 15, 14, 131, 132, 133, 66, 134, 74, 76, 75, 77, 139, 140, 141, 54, 142, 67, 143, 536, 537, 538, 539, 540, 512, 513, 514, 515, 516, 541, 542, 543, 544] rfl (by decide +kernel)
set_option maxRecDepth 100000 in
theorem gL_law_X5_get : GoodIn wsL_law (wsV RL 28 RX5 yX5_get wsX5_get) := goodIn_app (goodIn_of _ (by decide +kernel)) ggL_law_X5_get
set_option maxRecDepth 100000 in
theorem ggL_law_X6_get : GoodIn wsL_law wsX6_get := goodIn_r _ [163, 116, 117, 118, 5, 119, 82, 148, 149, 150, 151, 35, 36, 164, 165, 166, 167, 39, 517, 518, 519, 520, 521, 522, 523, 524, 525, 526, 527, 528, 529, 530, 531, 532] rfl (by decide +kernel)
set_option maxRecDepth 100000 in
theorem gL_law_X6_get : GoodIn wsL_law (wsV RL 31 RX6 yX6_get wsX6_get) := goodIn_app (goodIn_of _ (by decide +kernel)) ggL_law_X6_get
set_option maxRecDepth 100000 in
theorem ggL_law_X5_told : GoodIn wsL_law wsX5_told := goodIn_r _ [171, 172, 87, 173, 174, 89, 175, 176, 90, 91, 92, 2, 93, 15, 14, 536, 537, 538, 539, 540, 541, 542, 543, 544, 512, 513, 514, 515, 516] rfl (by decide +kernel)
set_option maxRecDepth 100000 in
theorem gL_law_X5_told : GoodIn wsL_law (wsV RL 32 RX5 yX5_told wsX5_told) := goodIn_app (goodIn_of _ (by decide +kernel)) ggL_law_X5_told
set_option maxRecDepth 100000 in
theorem ggL_law_X6_told : GoodIn wsL_law wsX6_told := goodIn_r _ [180, 34, 35, 36, 37, 116, 117, 118, 5, 119, 82, 517, 518, 519, 520, 521, 522, 523, 524, 525, 526, 527, 528, 529, 530, 531, 532] rfl (by decide +kernel)
set_option maxRecDepth 100000 in
theorem gL_law_X6_told : GoodIn wsL_law (wsV RL 36 RX6 yX6_told wsX6_told) := goodIn_app (goodIn_of _ (by decide +kernel)) ggL_law_X6_told
set_option maxRecDepth 100000 in
theorem ggL_law_X5_fill : GoodIn wsL_law wsX5_fill := goodIn_r _ [184, 89, 88, 65, 66, 22, 90, 91, 92, 2, 93, 15, 14, 135, 136, 137, 54, 138, 63, 185, 186, 187, 55, 56, 57, 94, 71, 72, 73, 11, 12, 74, 75, 76, 77, 95, 96, 97, 98, 99, 100, 101, 102, 103, 104, 105, 106, 107, 108, 109, 110, 111, 188, 189, 190, 191, 192, 193, 194, 195, 196, 197, 198, 174, 175, 176, 173, 130, 199, 139, 140, 141, 142, 67, 143, 200, 201, 202, 536, 537, 538, 539, 540, 541, 542, 543, 544, 512, 513, 514, 515, 516] rfl (by decide +kernel)
set_option maxRecDepth 100000 in
theorem gL_law_X5_fill : GoodIn wsL_law (wsV RL 37 RX5 yX5_fill wsX5_fill) := goodIn_app (goodIn_of _ (by decide +kernel)) ggL_law_X5_fill
set_option maxRecDepth 100000 in
theorem ggL_law_X6_fill : GoodIn wsL_law wsX6_fill := goodIn_r _ [206, 39, 116, 117, 118, 5, 119, 82, 120, 121, 122, 152, 153, 154, 155, 34, 207, 208, 209, 210, 37, 211, 212, 213, 214, 215, 216, 217, 517, 518, 519, 520, 521, 522, 523, 524, 525, 526, 527, 528, 529, 530, 531, 532] rfl (by decide +kernel)
set_option maxRecDepth 100000 in
theorem gL_law_X6_fill : GoodIn wsL_law (wsV RL 41 RX6 yX6_fill wsX6_fill) := goodIn_app (goodIn_of _ (by decide +kernel)) ggL_law_X6_fill
set_option maxRecDepth 100000 in
theorem ggL_law_X5_copy : GoodIn wsL_law wsX5_copy := goodIn_r _ [221, 88, 65, 66, 222, 223, 90, 91, 92, 2, 93, 15, 14, 94, 71, 72, 73, 11, 12, 74, 75, 76, 77, 224, 225, 226, 173, 174, 227, 228, 229, 55, 56, 57, 230, 231, 232, 233, 234, 235, 236, 237, 238, 239, 240, 241, 242, 96, 97, 98, 99, 100, 101, 102, 103, 104, 105, 106, 107, 243, 244, 245, 246, 247, 248, 249, 250, 251, 185, 186, 187, 252, 253, 254, 255, 256, 257, 175, 176, 130, 22, 258, 259, 260, 261, 139, 140, 141, 54, 142, 67, 143, 195, 196, 197, 198, 199, 200, 201, 202, 108, 109, 110, 111, 541, 542, 543, 544, 545, 546, 547, 548, 512, 513, 514, 515, 516, 536, 537, 538, 539, 540] rfl (by decide +kernel)
set_option maxRecDepth 100000 in
theorem gL_law_X5_copy : GoodIn wsL_law (wsV RL 42 RX5 yX5_copy wsX5_copy) := goodIn_app (goodIn_of _ (by decide +kernel)) ggL_law_X5_copy
set_option maxRecDepth 100000 in
theorem ggL_law_X6_copy : GoodIn wsL_law wsX6_copy := goodIn_r _ [265, 266, 267, 268, 5, 269, 34, 116, 117, 118, 119, 82, 120, 121, 122, 270, 271, 272, 273, 42, 39, 40, 148, 149, 150, 151, 35, 36, 207, 208, 209, 210, 37, 164, 165, 166, 167, 211, 212, 213, 214, 215, 216, 217, 517, 518, 519, 520, 521, 522, 523, 524, 525, 526, 527, 528, 529, 530, 531, 532] rfl (by decide +kernel)
set_option maxRecDepth 100000 in
theorem gL_law_X6_copy : GoodIn wsL_law (wsV RL 46 RX6 yX6_copy wsX6_copy) := goodIn_app (goodIn_of _ (by decide +kernel)) ggL_law_X6_copy
set_option maxRecDepth 100000 in
theorem ggL_law_X5_keyed : GoodIn wsL_law wsX5_keyed := goodIn_r _ [277, 88, 65, 66, 222, 223, 90, 91, 92, 2, 93, 15, 14, 94, 71, 72, 73, 11, 12, 74, 75, 76, 77, 224, 225, 226, 173, 174, 227, 228, 229, 55, 56, 57, 230, 231, 232, 233, 234, 235, 236, 237, 238, 239, 240, 241, 242, 96, 97, 98, 99, 100, 101, 102, 103, 104, 105, 106, 107, 243, 244, 245, 246, 247, 248, 249, 250, 251, 135, 136, 137, 54, 138, 63, 252, 253, 254, 255, 256, 257, 175, 176, 130, 22, 258, 259, 260, 261, 139, 140, 141, 142, 67, 143, 108, 109, 110, 111, 278, 279, 280, 281, 195, 196, 197, 198, 199, 200, 201, 202, 541, 542, 543, 544, 545, 546, 547, 548, 512, 513, 514, 515, 516, 536, 537, 538, 539, 540] rfl (by decide +kernel)
set_option maxRecDepth 100000 in
theorem gL_law_X5_keyed : GoodIn wsL_law (wsV RL 47 RX5 yX5_keyed wsX5_keyed) := goodIn_app (goodIn_of _ (by decide +kernel)) ggL_law_X5_keyed
set_option maxRecDepth 100000 in
theorem ggL_law_X6_keyed : GoodIn wsL_law wsX6_keyed := goodIn_r _ [285, 266, 267, 268, 5, 269, 34, 116, 117, 118, 119, 82, 120, 121, 122, 152, 153, 154, 155, 270, 271, 272, 273, 42, 39, 40, 148, 149, 150, 151, 35, 36, 207, 208, 209, 210, 37, 164, 165, 166, 167, 211, 212, 213, 214, 215, 216, 217, 517, 518, 519, 520, 521, 522, 523, 524, 525, 526, 527, 528, 529, 530, 531, 532] rfl (by decide +kernel)
set_option maxRecDepth 100000 in
theorem gL_law_X6_keyed : GoodIn wsL_law (wsV RL 50 RX6 yX6_keyed wsX6_keyed) := goodIn_app (goodIn_of _ (by decide +kernel)) ggL_law_X6_keyed
set_option maxRecDepth 100000 in
theorem ggL_law_X5_masked : GoodIn wsL_law wsX5_masked := goodIn_r _ [289, 88, 65, 66, 172, 256, 222, 223, 90, 91, 92, 2, 93, 15, 14, 94, 71, 72, 73, 11, 12, 74, 75, 76, 77, 224, 225, 226, 173, 174, 227, 228, 229, 55, 56, 57, 230, 231, 232, 233, 234, 235, 236, 237, 238, 239, 240, 241, 242, 96, 97, 98, 99, 100, 101, 102, 103, 104, 105, 106, 107, 243, 244, 245, 246, 247, 248, 249, 250, 251, 252, 253, 254, 255, 257, 175, 176, 130, 22, 258, 259, 260, 261, 139, 140, 141, 54, 142, 67, 143, 290, 291, 292, 293, 294, 295, 296, 297, 68, 298, 132, 133, 134, 299, 195, 196, 197, 198, 199, 200, 201, 202, 108, 109, 110, 111, 541, 542, 543, 544, 536, 537, 538, 539, 540, 545, 546, 547, 548, 512, 513, 514, 515, 516] rfl (by decide +kernel)
set_option maxRecDepth 100000 in
theorem gL_law_X5_masked : GoodIn wsL_law (wsV RL 51 RX5 yX5_masked wsX5_masked) := goodIn_app (goodIn_of _ (by decide +kernel)) ggL_law_X5_masked
set_option maxRecDepth 100000 in
theorem ggL_law_X6_masked : GoodIn wsL_law wsX6_masked := goodIn_r _ [303, 34, 266, 267, 268, 5, 269, 116, 117, 118, 119, 82, 120, 121, 122, 270, 271, 272, 273, 42, 39, 40, 148, 149, 150, 151, 35, 36, 207, 208, 209, 210, 37, 164, 165, 166, 167, 211, 212, 213, 214, 215, 216, 217, 517, 518, 519, 520, 521, 522, 523, 524, 525, 526, 527, 528, 529, 530, 531, 532] rfl (by decide +kernel)
set_option maxRecDepth 100000 in
theorem gL_law_X6_masked : GoodIn wsL_law (wsV RL 54 RX6 yX6_masked wsX6_masked) := goodIn_app (goodIn_of _ (by decide +kernel)) ggL_law_X6_masked
set_option maxRecDepth 100000 in
theorem ggL_law_X5_spread : GoodIn wsL_law wsX5_spread := goodIn_r _ [307, 88, 65, 66, 257, 172, 222, 223, 22, 90, 91, 92, 2, 93, 15, 14, 94, 71, 72, 73, 11, 12, 74, 75, 76, 77, 224, 225, 226, 173, 174, 227, 228, 229, 55, 56, 57, 230, 231, 232, 233, 234, 235, 236, 237, 238, 239, 240, 241, 242, 96, 97, 98, 99, 100, 101, 102, 103, 104, 105, 106, 107, 243, 244, 245, 246, 135, 136, 137, 54, 138, 63, 252, 253, 254, 255, 256, 175, 176, 130, 258, 259, 260, 261, 139, 140, 141, 142, 67, 143, 108, 109, 110, 111, 195, 196, 197, 198, 199, 200, 201, 202, 541, 542, 543, 544, 545, 546, 547, 548, 536, 537, 538, 539, 540, 512, 513, 514, 515, 516] rfl (by decide +kernel)
set_option maxRecDepth 100000 in
theorem gL_law_X5_spread : GoodIn wsL_law (wsV RL 55 RX5 yX5_spread wsX5_spread) := goodIn_app (goodIn_of _ (by decide +kernel)) ggL_law_X5_spread
set_option maxRecDepth 100000 in
theorem ggL_law_X6_spread : GoodIn wsL_law wsX6_spread := goodIn_r _ [311, 34, 116, 117, 118, 5, 119, 82, 120, 121, 122, 152, 153, 154, 155, 270, 271, 272, 273, 42, 39, 40, 148, 149, 150, 151, 35, 36, 207, 208, 209, 210, 37, 164, 165, 166, 167, 211, 212, 213, 214, 215, 216, 217, 517, 518, 519, 520, 521, 522, 523, 524, 525, 526, 527, 528, 529, 530, 531, 532] rfl (by decide +kernel)
set_option maxRecDepth 100000 in
theorem gL_law_X6_spread : GoodIn wsL_law (wsV RL 59 RX6 yX6_spread wsX6_spread) := goodIn_app (goodIn_of _ (by decide +kernel)) ggL_law_X6_spread
set_option maxRecDepth 100000 in
theorem ggL_law_X5_turn : GoodIn wsL_law wsX5_turn := goodIn_r _ [315, 90, 91, 92, 2, 93, 15, 14, 316, 317, 318, 54, 319, 67, 320, 143, 299, 140, 141, 142, 321, 322, 323, 324, 68, 325, 326, 327, 328, 512, 513, 514, 515, 516, 536, 537, 538, 539, 540, 541, 542, 543, 544] rfl (by decide +kernel)
set_option maxRecDepth 100000 in
theorem gL_law_X5_turn : GoodIn wsL_law (wsV RL 60 RX5 yX5_turn wsX5_turn) := goodIn_app (goodIn_of _ (by decide +kernel)) ggL_law_X5_turn
set_option maxRecDepth 100000 in
theorem ggL_law_X6_turn : GoodIn wsL_law wsX6_turn := goodIn_r _ [332, 36, 35, 40, 39, 116, 117, 118, 5, 119, 82, 164, 165, 166, 167, 148, 149, 150, 151, 517, 518, 519, 520, 521, 522, 523, 524, 525, 526, 527, 528, 529, 530, 531, 532] rfl (by decide +kernel)
set_option maxRecDepth 100000 in
theorem gL_law_X6_turn : GoodIn wsL_law (wsV RL 63 RX6 yX6_turn wsX6_turn) := goodIn_app (goodIn_of _ (by decide +kernel)) ggL_law_X6_turn
set_option maxRecDepth 100000 in
theorem ggL_law_X5_count : GoodIn wsL_law wsX5_count := goodIn_r _ [336, 130, 90, 91, 92, 2, 93, 15, 14, 536, 537, 538, 539, 540, 512, 513, 514, 515, 516] rfl (by decide +kernel)
set_option maxRecDepth 100000 in
theorem gL_law_X5_count : GoodIn wsL_law (wsV RL 64 RX5 yX5_count wsX5_count) := goodIn_app (goodIn_of _ (by decide +kernel)) ggL_law_X5_count
set_option maxRecDepth 100000 in
theorem ggL_law_X6_count : GoodIn wsL_law wsX6_count := goodIn_r _ [340, 36, 35, 116, 117, 118, 5, 119, 82, 164, 165, 166, 167, 39, 148, 149, 150, 151, 517, 518, 519, 520, 521, 522, 523, 524, 525, 526, 527, 528, 529, 530, 531, 532] rfl (by decide +kernel)
set_option maxRecDepth 100000 in
theorem gL_law_X6_count : GoodIn wsL_law (wsV RL 67 RX6 yX6_count wsX6_count) := goodIn_app (goodIn_of _ (by decide +kernel)) ggL_law_X6_count
set_option maxRecDepth 100000 in
theorem ggL_law_X5_tell : GoodIn wsL_law wsX5_tell := goodIn_r _ [344, 20, 345, 346, 347, 348, 17, 349, 350, 351, 352, 2, 353, 90, 91, 92, 93, 15, 14, 354, 355, 356, 19, 357, 28, 29, 358, 359, 360, 361, 11, 12, 362, 363, 364, 365, 366, 367, 368, 369, 370, 371, 140, 141, 54, 142, 67, 143, 372, 373, 374, 375, 376, 377, 378, 379, 380, 381, 382, 383, 384, 385, 386, 387, 388, 389, 390, 391, 392, 393, 394, 395, 101, 396, 397, 398, 399, 400, 27, 512, 513, 514, 515, 516, 549, 550, 551, 533, 534, 535, 536, 537, 538, 539, 540, 541, 542, 543, 544] rfl (by decide +kernel)
set_option maxRecDepth 100000 in
theorem gL_law_X5_tell : GoodIn wsL_law (wsV RL 68 RX5 yX5_tell wsX5_tell) := goodIn_app (goodIn_of _ (by decide +kernel)) ggL_law_X5_tell
set_option maxRecDepth 100000 in
theorem ggL_law_X6_tell : GoodIn wsL_law wsX6_tell := goodIn_r _ [404, 405, 36, 43, 44, 45, 406, 407, 408, 5, 409, 116, 117, 118, 119, 82, 410, 411, 412, 413, 35, 164, 165, 166, 167, 39, 148, 149, 150, 151, 414, 415, 416, 417, 418, 419, 420, 421, 422, 423, 424, 425, 426, 427, 428, 429, 517, 518, 519, 520, 521, 522, 523, 524, 525, 526, 527, 528, 529, 530, 531, 532] rfl (by decide +kernel)
set_option maxRecDepth 100000 in
theorem gL_law_X6_tell : GoodIn wsL_law (wsV RL 71 RX6 yX6_tell wsX6_tell) := goodIn_app (goodIn_of _ (by decide +kernel)) ggL_law_X6_tell
set_option maxRecDepth 100000 in
theorem ggL_law_X5_load : GoodIn wsL_law wsX5_load := goodIn_r _ [433, 349, 350, 351, 352, 2, 353, 17, 434, 398, 399, 19, 400, 28, 29, 27, 533, 534, 535, 512, 513, 514, 515, 516] rfl (by decide +kernel)
set_option maxRecDepth 100000 in
theorem gL_law_X5_load : GoodIn wsL_law (wsV RL 74 RX5 yX5_load wsX5_load) := goodIn_app (goodIn_of _ (by decide +kernel)) ggL_law_X5_load
set_option maxRecDepth 100000 in
theorem ggL_law_X6_load : GoodIn wsL_law wsX6_load := goodIn_r _ [438, 43, 44, 406, 407, 408, 5, 409, 517, 518, 519, 520, 521, 522, 523, 524, 525, 526, 527, 528, 529, 530, 531, 532] rfl (by decide +kernel)
set_option maxRecDepth 100000 in
theorem gL_law_X6_load : GoodIn wsL_law (wsV RL 78 RX6 yX6_load wsX6_load) := goodIn_app (goodIn_of _ (by decide +kernel)) ggL_law_X6_load
set_option maxRecDepth 100000 in
theorem ggL_law_X5_forget : GoodIn wsL_law wsX5_forget := goodIn_r _ [442, 349, 350, 351, 352, 2, 353, 17, 354, 355, 356, 19, 357, 28, 29, 533, 534, 535, 512, 513, 514, 515, 516] rfl (by decide +kernel)
set_option maxRecDepth 100000 in
theorem gL_law_X5_forget : GoodIn wsL_law (wsV RL 79 RX5 yX5_forget wsX5_forget) := goodIn_app (goodIn_of _ (by decide +kernel)) ggL_law_X5_forget
set_option maxRecDepth 100000 in
theorem ggL_law_X6_forget : GoodIn wsL_law wsX6_forget := goodIn_r _ [446, 43, 406, 407, 408, 5, 409, 517, 518, 519, 520, 521, 522, 523, 524, 525, 526, 527, 528, 529, 530, 531, 532] rfl (by decide +kernel)
set_option maxRecDepth 100000 in
theorem gL_law_X6_forget : GoodIn wsL_law (wsV RL 83 RX6 yX6_forget wsX6_forget) := goodIn_app (goodIn_of _ (by decide +kernel)) ggL_law_X6_forget
set_option maxRecDepth 100000 in
theorem ggL_law_X5_part : GoodIn wsL_law wsX5_part := goodIn_r _ [450, 349, 451, 350, 351, 352, 2, 353, 17, 533, 534, 535, 512, 513, 514, 515, 516] rfl (by decide +kernel)
set_option maxRecDepth 100000 in
theorem gL_law_X5_part : GoodIn wsL_law (wsV RL 84 RX5 yX5_part wsX5_part) := goodIn_app (goodIn_of _ (by decide +kernel)) ggL_law_X5_part
set_option maxRecDepth 100000 in
theorem ggL_law_X6_part : GoodIn wsL_law wsX6_part := goodIn_r _ [455, 43, 44, 406, 407, 408, 5, 409, 517, 518, 519, 520, 521, 522, 523, 524, 525, 526, 527, 528, 529, 530, 531, 532] rfl (by decide +kernel)
set_option maxRecDepth 100000 in
theorem gL_law_X6_part : GoodIn wsL_law (wsV RL 87 RX6 yX6_part wsX6_part) := goodIn_app (goodIn_of _ (by decide +kernel)) ggL_law_X6_part
set_option maxRecDepth 100000 in
theorem ggL_law_X5_draw : GoodIn wsL_law wsX5_draw := goodIn_r _ [459, 199, 350, 351, 352, 2, 353, 17, 90, 91, 92, 93, 15, 14, 460, 461, 462, 19, 463, 28, 27, 464, 465, 466, 467, 468, 469, 470, 471, 472, 473, 474, 475, 476, 477, 478, 479, 480, 481, 482, 54, 483, 69, 68, 298, 132, 133, 66, 134, 74, 76, 75, 77, 299, 140, 141, 142, 67, 143, 536, 537, 538, 539, 540, 512, 513, 514, 515, 516, 533, 534, 535, 541, 542, 543, 544] rfl (by decide +kernel)
set_option maxRecDepth 100000 in
theorem gL_law_X5_draw : GoodIn wsL_law (wsV RL 88 RX5 yX5_draw wsX5_draw) := goodIn_app (goodIn_of _ (by decide +kernel)) ggL_law_X5_draw
set_option maxRecDepth 100000 in
theorem ggL_law_X6_draw : GoodIn wsL_law wsX6_draw := goodIn_r _ [487, 488, 46, 47, 39, 48, 406, 407, 408, 5, 409, 116, 117, 118, 119, 82, 489, 490, 491, 492, 43, 44, 152, 153, 154, 155, 34, 493, 494, 495, 496, 207, 208, 209, 210, 37, 517, 518, 519, 520, 521, 522, 523, 524, 525, 526, 527, 528, 529, 530, 531, 532] rfl (by decide +kernel)
set_option maxRecDepth 100000 in
theorem gL_law_X6_draw : GoodIn wsL_law (wsV RL 91 RX6 yX6_draw wsX6_draw) := goodIn_app (goodIn_of _ (by decide +kernel)) ggL_law_X6_draw
set_option maxRecDepth 100000 in
theorem ggL_law_X5_check : GoodIn wsL_law wsX5_check := goodIn_r _ [500, 15, 14, 501, 502, 503, 54, 504, 68, 69, 505, 506, 143, 67, 320, 507, 136, 137, 138, 63, 512, 513, 514, 515, 516, 536, 537, 538, 539, 540, 541, 542, 543, 544] rfl (by decide +kernel)
set_option maxRecDepth 100000 in
theorem gL_law_X5_check : GoodIn wsL_law (wsV RL 92 RX5 yX5_check wsX5_check) := goodIn_app (goodIn_of _ (by decide +kernel)) ggL_law_X5_check
set_option maxRecDepth 100000 in
theorem ggL_law_X6_check : GoodIn wsL_law wsX6_check := goodIn_r _ [511] rfl (by decide +kernel)
set_option maxRecDepth 100000 in
theorem gL_law_X6_check : GoodIn wsL_law (wsV RL 96 RX6 yX6_check wsX6_check) := goodIn_app (goodIn_of _ (by decide +kernel)) ggL_law_X6_check
end
section
/-! what the printed walks stand on -/
def hm_ty (kA : Nat → ClassId) : List (ClassId × FieldType) := [(kA 0, .int), (kA 1, .boolean), (kA 2, .object "BlitBoard$Sprite"), (kA 3, .object "BlitBoard$Surface")]
end
section
/-! ==== X0_init: BlitBoard$Area.<init>(JJII)V ==== -/
def fX0_init (t : Nat) (a1 : Int64) (a2 : Int64) (a3 : Int32) (a4 : Int32) (h0 : hm_H) : Option hm_H :=
  hm_b (hm_p 0 0 (.long a1) h0 (some t)) fun h1 =>
  hm_b (hm_p 0 1 (.long a2) h1 (some t)) fun h2 =>
  hm_b (hm_p 0 2 (.int a3) h2 (some t)) fun h3 =>
  hm_b (hm_p 0 3 (.int a4) h3 (some t)) fun h4 =>
  some h4
set_option maxRecDepth 100000 in
set_option maxHeartbeats 8000000 in
theorem kX0_init (l : Launch) (D : va_G) (kA : Nat → ClassId) (t : Nat) (a1 : Int64) (a2 : Int64) (a3 : Int32) (a4 : Int32) (h0 h' : hm_H) (hf : fX0_init t a1 a2 a3 a4 h0 = some h') : hm_C l yX0_init wsX0_init { frames := 1, cells := 0, slots := 0, locals := 20 } D vwCl kA (hm_ty kA) [.ref t, .long a1, .long a2, .int a3, .int a4] h0 none h' 0 0 := by
  refine Met.ofW (cc := cX0_init) (maxL := 7) (ret := none) (by decide) rfl ?_
  intro p e s m args below meth c s₁ B hml hv
  obtain ⟨hargs, hB⟩ := hv
  have hx := B.exec
  have hb := B.bytes
  have hr := B.returns
  have hts := atoms_spec (ws := wsX0_init) B.pre
  have hown : s.vm.findClass RX0 = some m.cls := findClass_of_methodNamed B.named
  have hlocks := B.notSynchronized
  have hin : meth.name = "<init>" := (name_of_methodNamed B.named B.method).1
  have hK := hB.2
  have hI := hm_start hB
  have w1 := hts (.methodLink RX0 1 objectInit) (by decide +kernel)
  have w2 := hts (.instanceMethod objectInit) (by decide +kernel)
  have w3 := hts (.code objectInit ⟨#[0xb1]⟩ 1 none) (by decide +kernel)
  have w4 := hts (.fieldLink RX0 7 "BlitBoard$Area" "left" "J") (by decide +kernel)
  have w5 := hts (.fieldLink RX0 13 "BlitBoard$Area" "top" "J") (by decide +kernel)
  have w6 := hts (.fieldLink RX0 16 "BlitBoard$Area" "wide" "I") (by decide +kernel)
  have w7 := hts (.fieldLink RX0 20 "BlitBoard$Area" "high" "I") (by decide +kernel)
  have hiX0 : ∀ w ∈ wsX00, w ∈ wsX0_init := by decide +kernel
  rw [show entryFrame m args 7 = entryFrame m ([.ref t, .long a1, .long a2, .int a3, .int a4] : List Value).toArray 7 from by rw [hargs]]
  have hl := lv_entry ([.ref t, .long a1, .long a2, .int a3, .int a4]) (n := 7) (Nat.le_of_ble_eq_true rfl)
  rw [lg_entry_eq]
  generalize (lg_sl ([.ref t, .long a1, .long a2, .int a3, .int a4]) ++ List.replicate (7 - (lg_sl ([.ref t, .long a1, .long a2, .int a3, .int a4])).length) Slot.unset).toArray = ls at hl ⊢
  have hl : lv_has ls 7 [(0, va_rf (some t)), (1, .long a1), (3, .long a2), (5, .int a3), (6, .int a4)] := hl
  unfold fX0_init at hf
  refine hm_aload_n hx hb dX0_init_0 rfl (lv_at hl 0 rfl) ?_
  refine W.objInit hx hb hown w1 w2 w3 rfl (by rw [hml]; exact hl.1) rfl dX0_init_1 (Nat.le_of_ble_eq_true rfl) (Nat.le_of_ble_eq_true rfl) ?_
  refine W.eq (g2 := F0 m 4 ls []) rfl ?_
  refine hm_aload_n hx hb dX0_init_4 rfl (lv_at hl 0 rfl) ?_
  refine lv_lload_n hx hb dX0_init_5 rfl (lv_at hl 1 rfl) ?_
  obtain ⟨h1, eh1, hf⟩ := hm_b_s hf
  refine hm_putF (ci := 0) (k := 0) (C := RX0) (T := TX0) (N := 4) hx hb hts hiX0 tyX0 tyX0_ok nmX0 hown hK hI rfl (by decide) w4 rfl hin rfl eh1 rfl rfl dX0_init_6 (fun H locs hI => ?_)
  refine hm_aload_n hx hb dX0_init_9 rfl (lv_at hl 0 rfl) ?_
  refine lv_lload_n hx hb dX0_init_10 rfl (lv_at hl 2 rfl) ?_
  obtain ⟨h2, eh2, hf⟩ := hm_b_s hf
  refine hm_putF (ci := 0) (k := 1) (C := RX0) (T := TX0) (N := 4) hx hb hts hiX0 tyX0 tyX0_ok nmX0 hown hK hI rfl (by decide) w5 rfl hin rfl eh2 rfl rfl dX0_init_11 (fun H locs hI => ?_)
  refine hm_aload_n hx hb dX0_init_14 rfl (lv_at hl 0 rfl) ?_
  refine lv_iload hx hb dX0_init_15 (lv_at hl 3 rfl) ?_
  obtain ⟨h3, eh3, hf⟩ := hm_b_s hf
  refine hm_putF (ci := 0) (k := 2) (C := RX0) (T := TX0) (N := 4) hx hb hts hiX0 tyX0 tyX0_ok nmX0 hown hK hI rfl (by decide) w6 rfl hin rfl eh3 rfl rfl dX0_init_17 (fun H locs hI => ?_)
  refine hm_aload_n hx hb dX0_init_20 rfl (lv_at hl 0 rfl) ?_
  refine lv_iload hx hb dX0_init_21 (lv_at hl 4 rfl) ?_
  obtain ⟨h4, eh4, hf⟩ := hm_b_s hf
  refine hm_putF (ci := 0) (k := 3) (C := RX0) (T := TX0) (N := 4) hx hb hts hiX0 tyX0 tyX0_ok nmX0 hown hK hI rfl (by decide) w7 rfl hin rfl eh4 rfl rfl dX0_init_23 (fun H locs hI => ?_)
  exact hm_vret_e hf hx hb hr hlocks hK hI (Nat.le_of_ble_eq_true rfl) (Nat.le_of_ble_eq_true rfl) dX0_init_26
/-! ==== X0_size: BlitBoard$Area.size()I ==== -/
def fX0_size (t : Nat) (h0 : hm_H) : Option (Int32 × hm_H) :=
  hm_b (hm_gi 0 2 h0 (some t)) fun v1 =>
  hm_b (hm_gi 0 3 h0 (some t)) fun v2 =>
  some (v1 * v2, h0)
set_option maxRecDepth 100000 in
set_option maxHeartbeats 8000000 in
theorem kX0_size (l : Launch) (D : va_G) (kA : Nat → ClassId) (t : Nat) (h0 h' : hm_H) (r : Int32) (hf : fX0_size t h0 = some (r, h')) : hm_C l yX0_size wsX0_size { frames := 0, cells := 0, slots := 0, locals := 0 } D vwCl kA (hm_ty kA) [.ref t] h0 (some (.int r)) h' 0 0 := by
  refine Met.ofW (cc := cX0_size) (maxL := 1) (ret := (some .int)) (by decide) rfl ?_
  intro p e s m args below meth c s₁ B hml hv
  obtain ⟨hargs, hB⟩ := hv
  have hx := B.exec
  have hb := B.bytes
  have hr := B.returns
  have hts := atoms_spec (ws := wsX0_size) B.pre
  have hown : s.vm.findClass RX0 = some m.cls := findClass_of_methodNamed B.named
  have hlocks := B.notSynchronized
  have hK := hB.2
  have hI := hm_start hB
  have w1 := hts (.fieldLink RX0 16 "BlitBoard$Area" "wide" "I") (by decide +kernel)
  have w2 := hts (.fieldLink RX0 20 "BlitBoard$Area" "high" "I") (by decide +kernel)
  have hiX0 : ∀ w ∈ wsX00, w ∈ wsX0_size := by decide +kernel
  rw [show entryFrame m args 1 = entryFrame m ([.ref t] : List Value).toArray 1 from by rw [hargs]]
  have hl := lv_entry ([.ref t]) (n := 1) (Nat.le_of_ble_eq_true rfl)
  rw [lg_entry_eq]
  generalize (lg_sl ([.ref t]) ++ List.replicate (1 - (lg_sl ([.ref t])).length) Slot.unset).toArray = ls at hl ⊢
  have hl : lv_has ls 1 [(0, va_rf (some t))] := hl
  unfold fX0_size at hf
  refine hm_aload_n hx hb dX0_size_0 rfl (lv_at hl 0 rfl) ?_
  obtain ⟨v1, ev1, hf⟩ := hm_b_s hf
  refine hm_get (ci := 0) (k := 2) (C := RX0) (T := TX0) (N := 4) hx hb hts hiX0 hown hK hI rfl (by decide) w1 (hm_gi_s ev1) dX0_size_1 ?_
  refine hm_aload_n hx hb dX0_size_4 rfl (lv_at hl 0 rfl) ?_
  obtain ⟨v2, ev2, hf⟩ := hm_b_s hf
  refine hm_get (ci := 0) (k := 3) (C := RX0) (T := TX0) (N := 4) hx hb hts hiX0 hown hK hI rfl (by decide) w2 (hm_gi_s ev2) dX0_size_5 ?_
  refine lv_imul hx hb dX0_size_8 ?_
  exact hm_iret_e hf hx hb hr hlocks hK hI (Nat.le_of_ble_eq_true rfl) (Nat.le_of_ble_eq_true rfl) dX0_size_9
/-! ==== X0_holds: BlitBoard$Area.holds(JJ)Z ==== -/
def fX0_holds (t : Nat) (a1 : Int64) (a2 : Int64) (h0 : hm_H) : Option (Int32 × hm_H) :=
  hm_b (hm_gl 0 0 h0 (some t)) fun v1 =>
  if (lg_cmp a1 v1) < 0 then
    some ((0 : Int32), h0)
  else
    hm_b (hm_gl 0 0 h0 (some t)) fun v2 =>
    hm_b (hm_gi 0 2 h0 (some t)) fun v3 =>
    if 0 ≤ (lg_cmp a1 (v2 + ((v3).toInt64))) then
      some ((0 : Int32), h0)
    else
      hm_b (hm_gl 0 1 h0 (some t)) fun v4 =>
      if (lg_cmp a2 v4) < 0 then
        some ((0 : Int32), h0)
      else
        hm_b (hm_gl 0 1 h0 (some t)) fun v5 =>
        hm_b (hm_gi 0 3 h0 (some t)) fun v6 =>
        if 0 ≤ (lg_cmp a2 (v5 + ((v6).toInt64))) then
          some ((0 : Int32), h0)
        else
          some ((1 : Int32), h0)
set_option maxRecDepth 100000 in
set_option maxHeartbeats 8000000 in
theorem kX0_holds (l : Launch) (D : va_G) (kA : Nat → ClassId) (t : Nat) (a1 : Int64) (a2 : Int64) (h0 h' : hm_H) (r : Int32) (hf : fX0_holds t a1 a2 h0 = some (r, h')) : hm_C l yX0_holds wsX0_holds { frames := 0, cells := 0, slots := 0, locals := 0 } D vwCl kA (hm_ty kA) [.ref t, .long a1, .long a2] h0 (some (.int r)) h' 0 0 := by
  refine Met.ofW (cc := cX0_holds) (maxL := 5) (ret := (some .boolean)) (by decide) rfl ?_
  intro p e s m args below meth c s₁ B hml hv
  obtain ⟨hargs, hB⟩ := hv
  have hx := B.exec
  have hb := B.bytes
  have hr := B.returns
  have hts := atoms_spec (ws := wsX0_holds) B.pre
  have hown : s.vm.findClass RX0 = some m.cls := findClass_of_methodNamed B.named
  have hlocks := B.notSynchronized
  have hK := hB.2
  have hI := hm_start hB
  have w1 := hts (.fieldLink RX0 7 "BlitBoard$Area" "left" "J") (by decide +kernel)
  have w2 := hts (.fieldLink RX0 16 "BlitBoard$Area" "wide" "I") (by decide +kernel)
  have w3 := hts (.fieldLink RX0 13 "BlitBoard$Area" "top" "J") (by decide +kernel)
  have w4 := hts (.fieldLink RX0 20 "BlitBoard$Area" "high" "I") (by decide +kernel)
  have hiX0 : ∀ w ∈ wsX00, w ∈ wsX0_holds := by decide +kernel
  rw [show entryFrame m args 5 = entryFrame m ([.ref t, .long a1, .long a2] : List Value).toArray 5 from by rw [hargs]]
  have hl := lv_entry ([.ref t, .long a1, .long a2]) (n := 5) (Nat.le_of_ble_eq_true rfl)
  rw [lg_entry_eq]
  generalize (lg_sl ([.ref t, .long a1, .long a2]) ++ List.replicate (5 - (lg_sl ([.ref t, .long a1, .long a2])).length) Slot.unset).toArray = ls at hl ⊢
  have hl : lv_has ls 5 [(0, va_rf (some t)), (1, .long a1), (3, .long a2)] := hl
  unfold fX0_holds at hf
  refine lv_lload_n hx hb dX0_holds_0 rfl (lv_at hl 1 rfl) ?_
  refine hm_aload_n hx hb dX0_holds_1 rfl (lv_at hl 0 rfl) ?_
  obtain ⟨v1, ev1, hf⟩ := hm_b_s hf
  refine hm_get (ci := 0) (k := 0) (C := RX0) (T := TX0) (N := 4) hx hb hts hiX0 hown hK hI rfl (by decide) w1 (hm_gl_s ev1) dX0_holds_2 ?_
  refine W.lcmp hx hb dX0_holds_5 ?_
  refine lv_if_lt (tgt := 52) hx hb dX0_holds_6 (by decide) (fun c => ?_) (fun c => ?_)
  · rw [if_pos c] at hf
    refine lv_iconst (v := (0 : Int32)) hx hb dX0_holds_52 (by decide) ?_
    exact hm_zret_e hf hx hb hr hlocks hK hI (Nat.le_of_ble_eq_true rfl) (Nat.le_of_ble_eq_true rfl) rfl dX0_holds_53
  · rw [if_neg c] at hf
    refine lv_lload_n hx hb dX0_holds_9 rfl (lv_at hl 1 rfl) ?_
    refine hm_aload_n hx hb dX0_holds_10 rfl (lv_at hl 0 rfl) ?_
    obtain ⟨v2, ev2, hf⟩ := hm_b_s hf
    refine hm_get (ci := 0) (k := 0) (C := RX0) (T := TX0) (N := 4) hx hb hts hiX0 hown hK hI rfl (by decide) w1 (hm_gl_s ev2) dX0_holds_11 ?_
    refine hm_aload_n hx hb dX0_holds_14 rfl (lv_at hl 0 rfl) ?_
    obtain ⟨v3, ev3, hf⟩ := hm_b_s hf
    refine hm_get (ci := 0) (k := 2) (C := RX0) (T := TX0) (N := 4) hx hb hts hiX0 hown hK hI rfl (by decide) w2 (hm_gi_s ev3) dX0_holds_15 ?_
    refine lv_i2l (v := (v3).toInt64) hx hb dX0_holds_18 rfl ?_
    refine lv_ladd hx hb dX0_holds_19 ?_
    refine W.lcmp hx hb dX0_holds_20 ?_
    refine lv_if_ge (tgt := 52) hx hb dX0_holds_21 (by decide) (fun c => ?_) (fun c => ?_)
    · rw [if_pos c] at hf
      refine lv_iconst (v := (0 : Int32)) hx hb dX0_holds_52 (by decide) ?_
      exact hm_zret_e hf hx hb hr hlocks hK hI (Nat.le_of_ble_eq_true rfl) (Nat.le_of_ble_eq_true rfl) rfl dX0_holds_53
    · rw [if_neg c] at hf
      refine lv_lload_n hx hb dX0_holds_24 rfl (lv_at hl 2 rfl) ?_
      refine hm_aload_n hx hb dX0_holds_25 rfl (lv_at hl 0 rfl) ?_
      obtain ⟨v4, ev4, hf⟩ := hm_b_s hf
      refine hm_get (ci := 0) (k := 1) (C := RX0) (T := TX0) (N := 4) hx hb hts hiX0 hown hK hI rfl (by decide) w3 (hm_gl_s ev4) dX0_holds_26 ?_
      refine W.lcmp hx hb dX0_holds_29 ?_
      refine lv_if_lt (tgt := 52) hx hb dX0_holds_30 (by decide) (fun c => ?_) (fun c => ?_)
      · rw [if_pos c] at hf
        refine lv_iconst (v := (0 : Int32)) hx hb dX0_holds_52 (by decide) ?_
        exact hm_zret_e hf hx hb hr hlocks hK hI (Nat.le_of_ble_eq_true rfl) (Nat.le_of_ble_eq_true rfl) rfl dX0_holds_53
      · rw [if_neg c] at hf
        refine lv_lload_n hx hb dX0_holds_33 rfl (lv_at hl 2 rfl) ?_
        refine hm_aload_n hx hb dX0_holds_34 rfl (lv_at hl 0 rfl) ?_
        obtain ⟨v5, ev5, hf⟩ := hm_b_s hf
        refine hm_get (ci := 0) (k := 1) (C := RX0) (T := TX0) (N := 4) hx hb hts hiX0 hown hK hI rfl (by decide) w3 (hm_gl_s ev5) dX0_holds_35 ?_
        refine hm_aload_n hx hb dX0_holds_38 rfl (lv_at hl 0 rfl) ?_
        obtain ⟨v6, ev6, hf⟩ := hm_b_s hf
        refine hm_get (ci := 0) (k := 3) (C := RX0) (T := TX0) (N := 4) hx hb hts hiX0 hown hK hI rfl (by decide) w4 (hm_gi_s ev6) dX0_holds_39 ?_
        refine lv_i2l (v := (v6).toInt64) hx hb dX0_holds_42 rfl ?_
        refine lv_ladd hx hb dX0_holds_43 ?_
        refine W.lcmp hx hb dX0_holds_44 ?_
        refine lv_if_ge (tgt := 52) hx hb dX0_holds_45 (by decide) (fun c => ?_) (fun c => ?_)
        · rw [if_pos c] at hf
          refine lv_iconst (v := (0 : Int32)) hx hb dX0_holds_52 (by decide) ?_
          exact hm_zret_e hf hx hb hr hlocks hK hI (Nat.le_of_ble_eq_true rfl) (Nat.le_of_ble_eq_true rfl) rfl dX0_holds_53
        · rw [if_neg c] at hf
          refine lv_iconst (v := (1 : Int32)) hx hb dX0_holds_48 (by decide) ?_
          refine lv_goto (tgt := 53) hx hb dX0_holds_49 (by decide) ?_
          exact hm_zret_e hf hx hb hr hlocks hK hI (Nat.le_of_ble_eq_true rfl) (Nat.le_of_ble_eq_true rfl) rfl dX0_holds_53
/-! ==== X0_movedBy: BlitBoard$Area.movedBy(JJ)LBlitBoard$Area; ==== -/
def fX0_movedBy (t : Nat) (a1 : Int64) (a2 : Int64) (h0 : hm_H) : Option (Option Nat × hm_H) :=
  hm_let (hm_n h0 (.inr (0, [.long 0, .long 0, .int 0, .int 0]))) fun h1 =>
  hm_b (hm_gl 0 0 h1 (some t)) fun v2 =>
  hm_b (hm_gl 0 1 h1 (some t)) fun v3 =>
  hm_b (hm_gi 0 2 h1 (some t)) fun v4 =>
  hm_b (hm_gi 0 3 h1 (some t)) fun v5 =>
  hm_b (fX0_init h0.2 (v2 + a1) (v3 + a2) v4 v5 h1) fun h6 =>
  some (some h0.2, h6)
set_option maxRecDepth 100000 in
set_option maxHeartbeats 8000000 in
theorem kX0_movedBy (l : Launch) (D : va_G) (kA : Nat → ClassId) (t : Nat) (a1 : Int64) (a2 : Int64) (h0 h' : hm_H) (r : Option Nat) (hf : fX0_movedBy t a1 a2 h0 = some (r, h')) : hm_C l yX0_movedBy wsX0_movedBy { frames := 2, cells := 1, slots := 4, locals := 46 } D vwCl kA (hm_ty kA) [.ref t, .long a1, .long a2] h0 (some (va_rf r)) h' 1 4 := by
  refine Met.ofW (cc := cX0_movedBy) (maxL := 5) (ret := (some (.object "BlitBoard$Area"))) (by decide) rfl ?_
  intro p e s m args below meth c s₁ B hml hv
  obtain ⟨hargs, hB⟩ := hv
  have hx := B.exec
  have hb := B.bytes
  have hr := B.returns
  have hts := atoms_spec (ws := wsX0_movedBy) B.pre
  have hown : s.vm.findClass RX0 = some m.cls := findClass_of_methodNamed B.named
  have hlocks := B.notSynchronized
  have hK := hB.2
  have hI := hm_start hB
  have w1 := hts (.classLink RX0 8 RX0) (by decide +kernel)
  have w2 := hts (.instantiable RX0 4) (by decide +kernel)
  have w3 := hts (.initialized RX0) (by decide +kernel)
  have w4 := hts (.fieldLink RX0 7 "BlitBoard$Area" "left" "J") (by decide +kernel)
  have w5 := hts (.fieldLink RX0 13 "BlitBoard$Area" "top" "J") (by decide +kernel)
  have w6 := hts (.fieldLink RX0 16 "BlitBoard$Area" "wide" "I") (by decide +kernel)
  have w7 := hts (.fieldLink RX0 20 "BlitBoard$Area" "high" "I") (by decide +kernel)
  have w8 := hts (.methodLink RX0 23 yX0_init) (by decide +kernel)
  have w9 := hts (.instanceMethod yX0_init) (by decide +kernel)
  have hiX0 : ∀ w ∈ wsX00, w ∈ wsX0_movedBy := by decide +kernel
  rw [show entryFrame m args 5 = entryFrame m ([.ref t, .long a1, .long a2] : List Value).toArray 5 from by rw [hargs]]
  have hl := lv_entry ([.ref t, .long a1, .long a2]) (n := 5) (Nat.le_of_ble_eq_true rfl)
  rw [lg_entry_eq]
  generalize (lg_sl ([.ref t, .long a1, .long a2]) ++ List.replicate (5 - (lg_sl ([.ref t, .long a1, .long a2])).length) Slot.unset).toArray = ls at hl ⊢
  have hl : lv_has ls 5 [(0, va_rf (some t)), (1, .long a1), (3, .long a2)] := hl
  unfold fX0_movedBy at hf
  obtain ⟨h1, eh1, hf⟩ := hm_let_s hf
  refine hm_new (ci := 0) (fs := [.long 0, .long 0, .int 0, .int 0]) (C := RX0) (T := TX0) (N := 4) hx hb hts hiX0 tyX0 tyX0_ok hown w1 w2 w3 hK hI rfl (fun j hj => by rcases (show j = 0 ∨ j = 1 ∨ j = 2 ∨ j = 3 by omega) with rfl | rfl | rfl | rfl <;> rfl) (Nat.le_of_ble_eq_true rfl) (Nat.le_of_ble_eq_true rfl) dX0_movedBy_0 (fun H hI => ?_)
  rw [← eh1] at hI
  refine W.cs (cells' := 1) (slots' := 4) rfl rfl ?_
  refine lv_dup hx hb dX0_movedBy_3 (hm_rf_cat _) ?_
  refine hm_aload_n hx hb dX0_movedBy_4 rfl (lv_at hl 0 rfl) ?_
  obtain ⟨v2, ev2, hf⟩ := hm_b_s hf
  refine hm_get (ci := 0) (k := 0) (C := RX0) (T := TX0) (N := 4) hx hb hts hiX0 hown hK hI rfl (by decide) w4 (hm_gl_s ev2) dX0_movedBy_5 ?_
  refine lv_lload_n hx hb dX0_movedBy_8 rfl (lv_at hl 1 rfl) ?_
  refine lv_ladd hx hb dX0_movedBy_9 ?_
  refine hm_aload_n hx hb dX0_movedBy_10 rfl (lv_at hl 0 rfl) ?_
  obtain ⟨v3, ev3, hf⟩ := hm_b_s hf
  refine hm_get (ci := 0) (k := 1) (C := RX0) (T := TX0) (N := 4) hx hb hts hiX0 hown hK hI rfl (by decide) w5 (hm_gl_s ev3) dX0_movedBy_11 ?_
  refine lv_lload_n hx hb dX0_movedBy_14 rfl (lv_at hl 2 rfl) ?_
  refine lv_ladd hx hb dX0_movedBy_15 ?_
  refine hm_aload_n hx hb dX0_movedBy_16 rfl (lv_at hl 0 rfl) ?_
  obtain ⟨v4, ev4, hf⟩ := hm_b_s hf
  refine hm_get (ci := 0) (k := 2) (C := RX0) (T := TX0) (N := 4) hx hb hts hiX0 hown hK hI rfl (by decide) w6 (hm_gi_s ev4) dX0_movedBy_17 ?_
  refine hm_aload_n hx hb dX0_movedBy_20 rfl (lv_at hl 0 rfl) ?_
  obtain ⟨v5, ev5, hf⟩ := hm_b_s hf
  refine hm_get (ci := 0) (k := 3) (C := RX0) (T := TX0) (N := 4) hx hb hts hiX0 hown hK hI rfl (by decide) w7 (hm_gi_s ev5) dX0_movedBy_21 ?_
  obtain ⟨h6, eh6, hf⟩ := hm_b_s hf
  refine hm_cI (As := [.long (v2 + a1), .long (v3 + a2), .int v4, .int v5]) (rest := [va_rf (some h0.2)]) ⟨hx, hb, hml, hown, hts⟩ hK hI (kX0_init l D kA h0.2 (v2 + a1) (v3 + a2) v4 v5 h1 h6 eh6) (cwI 4 hts gX0_movedBy_X0_init rfl rfl rfl w3 w8 w9 rfl (by decide +kernel) ⟨Nat.le_of_ble_eq_true rfl, Nat.le_of_ble_eq_true rfl⟩) rfl hl.1 rfl (by simp only [List.map, hm_rf_cat, Value.category, List.sum_cons, List.sum_nil]; decide) dX0_movedBy_24 ⟨Nat.le_of_ble_eq_true rfl, Nat.le_of_ble_eq_true rfl⟩ (fun H locs hI => ?_)
  refine W.eq (g2 := F0 m 27 ls [va_rf (some h0.2)]) rfl ?_
  exact hm_aret_e hf hx hb hr hlocks hK hI (Nat.le_of_ble_eq_true rfl) (Nat.le_of_ble_eq_true rfl) dX0_movedBy_27
/-! ==== X0_shared: BlitBoard$Area.shared(LBlitBoard$Area;)LBlitBoard$Area; ==== -/
def fX0_shared_94 (h : hm_H) : Option (Option Nat × hm_H) :=
  hm_let (hm_n h (.inr (0, [.long 0, .long 0, .int 0, .int 0]))) fun h19 =>
  hm_b (fX0_init h.2 (0 : Int64) (0 : Int64) (0 : Int32) (0 : Int32) h19) fun h20 =>
  some (some h.2, h20)
def fX0_shared (t : Nat) (a1 : Option Nat) (h0 : hm_H) : Option (Option Nat × hm_H) :=
  hm_b (hm_gl 0 0 h0 (some t)) fun v1 =>
  hm_b (hm_gl 0 0 h0 a1) fun v2 =>
  hm_let (if v2 < v1 then v1 else v2) fun v3 =>
  hm_b (hm_gl 0 1 h0 (some t)) fun v4 =>
  hm_b (hm_gl 0 1 h0 a1) fun v5 =>
  hm_let (if v5 < v4 then v4 else v5) fun v6 =>
  hm_b (hm_gl 0 0 h0 (some t)) fun v7 =>
  hm_b (hm_gi 0 2 h0 (some t)) fun v8 =>
  hm_b (hm_gl 0 0 h0 a1) fun v9 =>
  hm_b (hm_gi 0 2 h0 a1) fun v10 =>
  hm_let ((if (v9 + ((v10).toInt64)) < (v7 + ((v8).toInt64)) then (v9 + ((v10).toInt64)) else (v7 + ((v8).toInt64))) - v3) fun v11 =>
  hm_b (hm_gl 0 1 h0 (some t)) fun v12 =>
  hm_b (hm_gi 0 3 h0 (some t)) fun v13 =>
  hm_b (hm_gl 0 1 h0 a1) fun v14 =>
  hm_b (hm_gi 0 3 h0 a1) fun v15 =>
  hm_let ((if (v14 + ((v15).toInt64)) < (v12 + ((v13).toInt64)) then (v14 + ((v15).toInt64)) else (v12 + ((v13).toInt64))) - v6) fun v16 =>
  if (lg_cmp v11 (0 : Int64)) ≤ 0 then
    fX0_shared_94  h0
  else
    if 0 < (lg_cmp v16 (0 : Int64)) then
      hm_let (hm_n h0 (.inr (0, [.long 0, .long 0, .int 0, .int 0]))) fun h17 =>
      hm_b (fX0_init h0.2 v3 v6 ((v11).toInt32) ((v16).toInt32) h17) fun h18 =>
      some (some h0.2, h18)
    else
      fX0_shared_94  h0
set_option maxRecDepth 100000 in
set_option maxHeartbeats 8000000 in
theorem kX0_shared (l : Launch) (D : va_G) (kA : Nat → ClassId) (t : Nat) (a1 : Option Nat) (h0 h' : hm_H) (r : Option Nat) (hf : fX0_shared t a1 h0 = some (r, h')) : hm_C l yX0_shared wsX0_shared { frames := 2, cells := 1, slots := 4, locals := 46 } D vwCl kA (hm_ty kA) [.ref t, va_rf a1] h0 (some (va_rf r)) h' 1 4 := by
  refine Met.ofW (cc := cX0_shared) (maxL := 10) (ret := (some (.object "BlitBoard$Area"))) (by decide) rfl ?_
  intro p e s m args below meth c s₁ B hml hv
  obtain ⟨hargs, hB⟩ := hv
  have hx := B.exec
  have hb := B.bytes
  have hr := B.returns
  have hts := atoms_spec (ws := wsX0_shared) B.pre
  have hown : s.vm.findClass RX0 = some m.cls := findClass_of_methodNamed B.named
  have hlocks := B.notSynchronized
  have hK := hB.2
  have hI := hm_start hB
  have w1 := hts (.fieldLink RX0 7 "BlitBoard$Area" "left" "J") (by decide +kernel)
  have w2 := hts (.methodLink RX0 26 Lib.MathLoose.max_long.x) (by decide +kernel)
  have w3 := hts (.static Lib.MathLoose.max_long.x) (by decide +kernel)
  have w4 := hts (.initialized "java/lang/Math") (by decide +kernel)
  have w5 := hts (.code Lib.MathLoose.max_long.x Lib.MathLoose.max_long.code 4 (some .long)) (by decide +kernel)
  have w6 := hts (.fieldLink RX0 13 "BlitBoard$Area" "top" "J") (by decide +kernel)
  have w7 := hts (.fieldLink RX0 16 "BlitBoard$Area" "wide" "I") (by decide +kernel)
  have w8 := hts (.methodLink RX0 32 Lib.MathLoose.min_long.x) (by decide +kernel)
  have w9 := hts (.static Lib.MathLoose.min_long.x) (by decide +kernel)
  have w10 := hts (.code Lib.MathLoose.min_long.x Lib.MathLoose.min_long.code 4 (some .long)) (by decide +kernel)
  have w11 := hts (.fieldLink RX0 20 "BlitBoard$Area" "high" "I") (by decide +kernel)
  have w12 := hts (.classLink RX0 8 RX0) (by decide +kernel)
  have w13 := hts (.instantiable RX0 4) (by decide +kernel)
  have w14 := hts (.initialized RX0) (by decide +kernel)
  have w15 := hts (.methodLink RX0 23 yX0_init) (by decide +kernel)
  have w16 := hts (.instanceMethod yX0_init) (by decide +kernel)
  have hiX0 : ∀ w ∈ wsX00, w ∈ wsX0_shared := by decide +kernel
  have B94 : ∀ (h : hm_H), fX0_shared_94 h = some (r, h') → ∀ (H : Heap) (locs : List Loc) (ls : Array Slot), hm_I D vwCl kA (hm_A h0) s.heap h H locs → lv_has ls 10 [] → W p l e (headSpec wsX0_shared { frames := 2, cells := 1, slots := 4, locals := 46 }).room s m args below meth c H locs 0 0 (MQ below (hm_Q D vwCl kA (hm_ty kA) h0 (some (va_rf r)) h') args s 1 4 (hm_A h0)) (F0 m 94 ls []) := by
    intro h hf H locs ls hI hl
    unfold fX0_shared_94 at hf
    obtain ⟨h19, eh19, hf⟩ := hm_let_s hf
    refine hm_new (ci := 0) (fs := [.long 0, .long 0, .int 0, .int 0]) (C := RX0) (T := TX0) (N := 4) hx hb hts hiX0 tyX0 tyX0_ok hown w12 w13 w14 hK hI rfl (fun j hj => by rcases (show j = 0 ∨ j = 1 ∨ j = 2 ∨ j = 3 by omega) with rfl | rfl | rfl | rfl <;> rfl) (Nat.le_of_ble_eq_true rfl) (Nat.le_of_ble_eq_true rfl) dX0_shared_94 (fun H hI => ?_)
    rw [← eh19] at hI
    refine W.cs (cells' := 1) (slots' := 4) rfl rfl ?_
    refine lv_dup hx hb dX0_shared_97 (hm_rf_cat _) ?_
    refine lv_lconst (v := (0 : Int64)) hx hb dX0_shared_98 (by decide) ?_
    refine lv_lconst (v := (0 : Int64)) hx hb dX0_shared_99 (by decide) ?_
    refine lv_iconst (v := (0 : Int32)) hx hb dX0_shared_100 (by decide) ?_
    refine lv_iconst (v := (0 : Int32)) hx hb dX0_shared_101 (by decide) ?_
    obtain ⟨h20, eh20, hf⟩ := hm_b_s hf
    refine hm_cI (As := [.long (0 : Int64), .long (0 : Int64), .int (0 : Int32), .int (0 : Int32)]) (rest := [va_rf (some h.2)]) ⟨hx, hb, hml, hown, hts⟩ hK hI (kX0_init l D kA h.2 (0 : Int64) (0 : Int64) (0 : Int32) (0 : Int32) h19 h20 eh20) (cwI 4 hts gX0_shared_X0_init rfl rfl rfl w14 w15 w16 rfl (by decide +kernel) ⟨Nat.le_of_ble_eq_true rfl, Nat.le_of_ble_eq_true rfl⟩) rfl hl.1 rfl (by simp only [List.map, hm_rf_cat, Value.category, List.sum_cons, List.sum_nil]; decide) dX0_shared_102 ⟨Nat.le_of_ble_eq_true rfl, Nat.le_of_ble_eq_true rfl⟩ (fun H locs hI => ?_)
    refine W.eq (g2 := F0 m 105 ls [va_rf (some h.2)]) rfl ?_
    exact hm_aret_e hf hx hb hr hlocks hK hI (Nat.le_of_ble_eq_true rfl) (Nat.le_of_ble_eq_true rfl) dX0_shared_105
  rw [show entryFrame m args 10 = entryFrame m ([.ref t, va_rf a1] : List Value).toArray 10 from by rw [hargs]]
  have hl := lv_entry ([.ref t, va_rf a1]) (n := 10) (Nat.le_of_ble_eq_true rfl)
  rw [lg_entry_eq]
  generalize (lg_sl ([.ref t, va_rf a1]) ++ List.replicate (10 - (lg_sl ([.ref t, va_rf a1])).length) Slot.unset).toArray = ls at hl ⊢
  have hl : lv_has ls 10 [(0, va_rf (some t)), (1, va_rf a1)] := hl
  unfold fX0_shared at hf
  refine hm_aload_n hx hb dX0_shared_0 rfl (lv_at hl 0 rfl) ?_
  obtain ⟨v1, ev1, hf⟩ := hm_b_s hf
  refine hm_get (ci := 0) (k := 0) (C := RX0) (T := TX0) (N := 4) hx hb hts hiX0 hown hK hI rfl (by decide) w1 (hm_gl_s ev1) dX0_shared_1 ?_
  refine hm_aload_n hx hb dX0_shared_4 rfl (lv_at hl 1 rfl) ?_
  obtain ⟨v2, ev2, hf⟩ := hm_b_s hf
  refine hm_get (ci := 0) (k := 0) (C := RX0) (T := TX0) (N := 4) hx hb hts hiX0 hown hK hI rfl (by decide) w1 (hm_gl_s ev2) dX0_shared_5 ?_
  refine va_mmax_long hx hb (hml.trans hl.1.symm) hown w2 w3 w4 w5 (Nat.le_of_ble_eq_true rfl) (by simp only [List.map, hm_rf_cat, Value.category, List.sum_cons, List.sum_nil]; exact Nat.le_of_ble_eq_true rfl) (Nat.le_of_ble_eq_true rfl) (Nat.le_of_ble_eq_true rfl) dX0_shared_8 ?_
  obtain ⟨v3, ev3, hf⟩ := hm_let_s hf
  refine hm_tj ev3 ?_
  refine lv_lstore_n (lv' := [(2, .long v3), (0, va_rf (some t)), (1, va_rf a1)]) hx hb dX0_shared_11 rfl hl (by decide) rfl (fun ls hl => ?_)
  refine hm_aload_n hx hb dX0_shared_12 rfl (lv_at hl 1 rfl) ?_
  obtain ⟨v4, ev4, hf⟩ := hm_b_s hf
  refine hm_get (ci := 0) (k := 1) (C := RX0) (T := TX0) (N := 4) hx hb hts hiX0 hown hK hI rfl (by decide) w6 (hm_gl_s ev4) dX0_shared_13 ?_
  refine hm_aload_n hx hb dX0_shared_16 rfl (lv_at hl 2 rfl) ?_
  obtain ⟨v5, ev5, hf⟩ := hm_b_s hf
  refine hm_get (ci := 0) (k := 1) (C := RX0) (T := TX0) (N := 4) hx hb hts hiX0 hown hK hI rfl (by decide) w6 (hm_gl_s ev5) dX0_shared_17 ?_
  refine va_mmax_long hx hb (hml.trans hl.1.symm) hown w2 w3 w4 w5 (Nat.le_of_ble_eq_true rfl) (by simp only [List.map, hm_rf_cat, Value.category, List.sum_cons, List.sum_nil]; exact Nat.le_of_ble_eq_true rfl) (Nat.le_of_ble_eq_true rfl) (Nat.le_of_ble_eq_true rfl) dX0_shared_20 ?_
  obtain ⟨v6, ev6, hf⟩ := hm_let_s hf
  refine hm_tj ev6 ?_
  refine lv_lstore (lv' := [(4, .long v6), (2, .long v3), (0, va_rf (some t)), (1, va_rf a1)]) hx hb dX0_shared_23 hl (by decide) rfl (fun ls hl => ?_)
  refine hm_aload_n hx hb dX0_shared_25 rfl (lv_at hl 2 rfl) ?_
  obtain ⟨v7, ev7, hf⟩ := hm_b_s hf
  refine hm_get (ci := 0) (k := 0) (C := RX0) (T := TX0) (N := 4) hx hb hts hiX0 hown hK hI rfl (by decide) w1 (hm_gl_s ev7) dX0_shared_26 ?_
  refine hm_aload_n hx hb dX0_shared_29 rfl (lv_at hl 2 rfl) ?_
  obtain ⟨v8, ev8, hf⟩ := hm_b_s hf
  refine hm_get (ci := 0) (k := 2) (C := RX0) (T := TX0) (N := 4) hx hb hts hiX0 hown hK hI rfl (by decide) w7 (hm_gi_s ev8) dX0_shared_30 ?_
  refine lv_i2l (v := (v8).toInt64) hx hb dX0_shared_33 rfl ?_
  refine lv_ladd hx hb dX0_shared_34 ?_
  refine hm_aload_n hx hb dX0_shared_35 rfl (lv_at hl 3 rfl) ?_
  obtain ⟨v9, ev9, hf⟩ := hm_b_s hf
  refine hm_get (ci := 0) (k := 0) (C := RX0) (T := TX0) (N := 4) hx hb hts hiX0 hown hK hI rfl (by decide) w1 (hm_gl_s ev9) dX0_shared_36 ?_
  refine hm_aload_n hx hb dX0_shared_39 rfl (lv_at hl 3 rfl) ?_
  obtain ⟨v10, ev10, hf⟩ := hm_b_s hf
  refine hm_get (ci := 0) (k := 2) (C := RX0) (T := TX0) (N := 4) hx hb hts hiX0 hown hK hI rfl (by decide) w7 (hm_gi_s ev10) dX0_shared_40 ?_
  refine lv_i2l (v := (v10).toInt64) hx hb dX0_shared_43 rfl ?_
  refine lv_ladd hx hb dX0_shared_44 ?_
  refine va_mmin_long hx hb (hml.trans hl.1.symm) hown w8 w9 w4 w10 (Nat.le_of_ble_eq_true rfl) (by simp only [List.map, hm_rf_cat, Value.category, List.sum_cons, List.sum_nil]; exact Nat.le_of_ble_eq_true rfl) (Nat.le_of_ble_eq_true rfl) (Nat.le_of_ble_eq_true rfl) dX0_shared_45 ?_
  refine lv_lload_n hx hb dX0_shared_48 rfl (lv_at hl 1 rfl) ?_
  refine lv_lsub hx hb dX0_shared_49 ?_
  obtain ⟨v11, ev11, hf⟩ := hm_let_s hf
  refine hm_tj ev11 ?_
  refine lv_lstore (lv' := [(6, .long v11), (4, .long v6), (2, .long v3), (0, va_rf (some t)), (1, va_rf a1)]) hx hb dX0_shared_50 hl (by decide) rfl (fun ls hl => ?_)
  refine hm_aload_n hx hb dX0_shared_52 rfl (lv_at hl 3 rfl) ?_
  obtain ⟨v12, ev12, hf⟩ := hm_b_s hf
  refine hm_get (ci := 0) (k := 1) (C := RX0) (T := TX0) (N := 4) hx hb hts hiX0 hown hK hI rfl (by decide) w6 (hm_gl_s ev12) dX0_shared_53 ?_
  refine hm_aload_n hx hb dX0_shared_56 rfl (lv_at hl 3 rfl) ?_
  obtain ⟨v13, ev13, hf⟩ := hm_b_s hf
  refine hm_get (ci := 0) (k := 3) (C := RX0) (T := TX0) (N := 4) hx hb hts hiX0 hown hK hI rfl (by decide) w11 (hm_gi_s ev13) dX0_shared_57 ?_
  refine lv_i2l (v := (v13).toInt64) hx hb dX0_shared_60 rfl ?_
  refine lv_ladd hx hb dX0_shared_61 ?_
  refine hm_aload_n hx hb dX0_shared_62 rfl (lv_at hl 4 rfl) ?_
  obtain ⟨v14, ev14, hf⟩ := hm_b_s hf
  refine hm_get (ci := 0) (k := 1) (C := RX0) (T := TX0) (N := 4) hx hb hts hiX0 hown hK hI rfl (by decide) w6 (hm_gl_s ev14) dX0_shared_63 ?_
  refine hm_aload_n hx hb dX0_shared_66 rfl (lv_at hl 4 rfl) ?_
  obtain ⟨v15, ev15, hf⟩ := hm_b_s hf
  refine hm_get (ci := 0) (k := 3) (C := RX0) (T := TX0) (N := 4) hx hb hts hiX0 hown hK hI rfl (by decide) w11 (hm_gi_s ev15) dX0_shared_67 ?_
  refine lv_i2l (v := (v15).toInt64) hx hb dX0_shared_70 rfl ?_
  refine lv_ladd hx hb dX0_shared_71 ?_
  refine va_mmin_long hx hb (hml.trans hl.1.symm) hown w8 w9 w4 w10 (Nat.le_of_ble_eq_true rfl) (by simp only [List.map, hm_rf_cat, Value.category, List.sum_cons, List.sum_nil]; exact Nat.le_of_ble_eq_true rfl) (Nat.le_of_ble_eq_true rfl) (Nat.le_of_ble_eq_true rfl) dX0_shared_72 ?_
  refine lv_lload hx hb dX0_shared_75 (lv_at hl 1 rfl) ?_
  refine lv_lsub hx hb dX0_shared_77 ?_
  obtain ⟨v16, ev16, hf⟩ := hm_let_s hf
  refine hm_tj ev16 ?_
  refine lv_lstore (lv' := [(8, .long v16), (6, .long v11), (4, .long v6), (2, .long v3), (0, va_rf (some t)), (1, va_rf a1)]) hx hb dX0_shared_78 hl (by decide) rfl (fun ls hl => ?_)
  refine lv_lload hx hb dX0_shared_80 (lv_at hl 1 rfl) ?_
  refine lv_lconst (v := (0 : Int64)) hx hb dX0_shared_82 (by decide) ?_
  refine W.lcmp hx hb dX0_shared_83 ?_
  refine lv_if_le (tgt := 94) hx hb dX0_shared_84 (by decide) (fun c => ?_) (fun c => ?_)
  · rw [if_pos c] at hf
    exact B94  h0 hf _ _ _ hI (lv_sub hl [] rfl)
  · rw [if_neg c] at hf
    refine lv_lload hx hb dX0_shared_87 (lv_at hl 0 rfl) ?_
    refine lv_lconst (v := (0 : Int64)) hx hb dX0_shared_89 (by decide) ?_
    refine W.lcmp hx hb dX0_shared_90 ?_
    refine lv_if_gt (tgt := 106) hx hb dX0_shared_91 (by decide) (fun c => ?_) (fun c => ?_)
    · rw [if_pos c] at hf
      obtain ⟨h17, eh17, hf⟩ := hm_let_s hf
      refine hm_new (ci := 0) (fs := [.long 0, .long 0, .int 0, .int 0]) (C := RX0) (T := TX0) (N := 4) hx hb hts hiX0 tyX0 tyX0_ok hown w12 w13 w14 hK hI rfl (fun j hj => by rcases (show j = 0 ∨ j = 1 ∨ j = 2 ∨ j = 3 by omega) with rfl | rfl | rfl | rfl <;> rfl) (Nat.le_of_ble_eq_true rfl) (Nat.le_of_ble_eq_true rfl) dX0_shared_106 (fun H hI => ?_)
      rw [← eh17] at hI
      refine W.cs (cells' := 1) (slots' := 4) rfl rfl ?_
      refine lv_dup hx hb dX0_shared_109 (hm_rf_cat _) ?_
      refine lv_lload_n hx hb dX0_shared_110 rfl (lv_at hl 3 rfl) ?_
      refine lv_lload hx hb dX0_shared_111 (lv_at hl 2 rfl) ?_
      refine lv_lload hx hb dX0_shared_113 (lv_at hl 1 rfl) ?_
      refine lv_l2i (v := (v11).toInt32) hx hb dX0_shared_115 rfl ?_
      refine lv_lload hx hb dX0_shared_116 (lv_at hl 0 rfl) ?_
      refine lv_l2i (v := (v16).toInt32) hx hb dX0_shared_118 rfl ?_
      obtain ⟨h18, eh18, hf⟩ := hm_b_s hf
      refine hm_cI (As := [.long v3, .long v6, .int ((v11).toInt32), .int ((v16).toInt32)]) (rest := [va_rf (some h0.2)]) ⟨hx, hb, hml, hown, hts⟩ hK hI (kX0_init l D kA h0.2 v3 v6 ((v11).toInt32) ((v16).toInt32) h17 h18 eh18) (cwI 4 hts gX0_shared_X0_init rfl rfl rfl w14 w15 w16 rfl (by decide +kernel) ⟨Nat.le_of_ble_eq_true rfl, Nat.le_of_ble_eq_true rfl⟩) rfl hl.1 rfl (by simp only [List.map, hm_rf_cat, Value.category, List.sum_cons, List.sum_nil]; decide) dX0_shared_119 ⟨Nat.le_of_ble_eq_true rfl, Nat.le_of_ble_eq_true rfl⟩ (fun H locs hI => ?_)
      refine W.eq (g2 := F0 m 122 ls [va_rf (some h0.2)]) rfl ?_
      exact hm_aret_e hf hx hb hr hlocks hK hI (Nat.le_of_ble_eq_true rfl) (Nat.le_of_ble_eq_true rfl) dX0_shared_122
    · rw [if_neg c] at hf
      exact B94  h0 hf _ _ _ hI (lv_sub hl [] rfl)
/-! ==== X1_init: BlitBoard$Move.<init>(LBlitBoard$Surface;LBlitBoard$Area;LBlitBoard$Surface;II)V ==== -/
def fX1_init (t : Nat) (a1 : Option Nat) (a2 : Option Nat) (a3 : Option Nat) (a4 : Int32) (a5 : Int32) (h0 : hm_H) : Option hm_H :=
  hm_b (hm_gl 0 0 h0 a2) fun v1 =>
  hm_let (((a4).toInt64) - v1) fun v2 =>
  hm_b (hm_gl 0 1 h0 a2) fun v3 =>
  hm_let (((a5).toInt64) - v3) fun v4 =>
  hm_b (hm_p 1 0 (va_rf a1) h0 (some t)) fun h5 =>
  hm_b (hm_p 1 1 (va_rf a3) h5 (some t)) fun h6 =>
  hm_b (hm_gq 3 2 h6 a1) fun v7 =>
  hm_b (hm_rc 0 h6 v7) fun b9 =>
  hm_b2 (fX0_shared b9 a2 h6) fun v10 h8 =>
  hm_b (hm_rc 0 h8 v10) fun b12 =>
  hm_b2 (fX0_movedBy b12 v2 v4 h8) fun v13 h11 =>
  hm_b (hm_gq 3 4 h11 a3) fun v14 =>
  hm_b (hm_rc 0 h11 v13) fun b16 =>
  hm_b2 (fX0_shared b16 v14 h11) fun v17 h15 =>
  hm_b (hm_p 1 3 (va_rf v17) h15 (some t)) fun h18 =>
  hm_b (hm_gq 1 3 h18 (some t)) fun v19 =>
  hm_b (hm_rc 0 h18 v19) fun b21 =>
  hm_b2 (fX0_movedBy b21 (-v2) (-v4) h18) fun v22 h20 =>
  hm_b (hm_p 1 2 (va_rf v22) h20 (some t)) fun h23 =>
  some h23
set_option maxRecDepth 100000 in
set_option maxHeartbeats 8000000 in
theorem kX1_init (l : Launch) (D : va_G) (kA : Nat → ClassId) (t : Nat) (a1 : Option Nat) (a2 : Option Nat) (a3 : Option Nat) (a4 : Int32) (a5 : Int32) (h0 h' : hm_H) (hf : fX1_init t a1 a2 a3 a4 a5 h0 = some h') : hm_C l yX1_init wsX1_init { frames := 3, cells := 4, slots := 16, locals := 75 } D vwCl kA (hm_ty kA) [.ref t, va_rf a1, va_rf a2, va_rf a3, .int a4, .int a5] h0 none h' 4 16 := by
  refine Met.ofW (cc := cX1_init) (maxL := 10) (ret := none) (by decide) rfl ?_
  intro p e s m args below meth c s₁ B hml hv
  obtain ⟨hargs, hB⟩ := hv
  have hx := B.exec
  have hb := B.bytes
  have hr := B.returns
  have hts := atoms_spec (ws := wsX1_init) B.pre
  have hown : s.vm.findClass RX1 = some m.cls := findClass_of_methodNamed B.named
  have hlocks := B.notSynchronized
  have hin : meth.name = "<init>" := (name_of_methodNamed B.named B.method).1
  have hK := hB.2
  have hI := hm_start hB
  have w1 := hts (.methodLink RX1 1 objectInit) (by decide +kernel)
  have w2 := hts (.instanceMethod objectInit) (by decide +kernel)
  have w3 := hts (.code objectInit ⟨#[0xb1]⟩ 1 none) (by decide +kernel)
  have w4 := hts (.fieldLink RX1 7 "BlitBoard$Area" "left" "J") (by decide +kernel)
  have w5 := hts (.fieldLink RX1 13 "BlitBoard$Area" "top" "J") (by decide +kernel)
  have w6 := hts (.fieldLink RX1 16 "BlitBoard$Move" "from" "LBlitBoard$Surface;") (by decide +kernel)
  have w7 := hts (.fieldLink RX1 22 "BlitBoard$Move" "to" "LBlitBoard$Surface;") (by decide +kernel)
  have w8 := hts (.fieldLink RX1 25 "BlitBoard$Surface" "whole" "LBlitBoard$Area;") (by decide +kernel)
  have w9 := hts (.fieldLink RX1 39 "BlitBoard$Surface" "clip" "LBlitBoard$Area;") (by decide +kernel)
  have w10 := hts (.fieldLink RX1 42 "BlitBoard$Move" "target" "LBlitBoard$Area;") (by decide +kernel)
  have w11 := hts (.fieldLink RX1 45 "BlitBoard$Move" "source" "LBlitBoard$Area;") (by decide +kernel)
  have hiX0 : ∀ w ∈ wsX00, w ∈ wsX1_init := by decide +kernel
  have hiX1 : ∀ w ∈ wsX10, w ∈ wsX1_init := by decide +kernel
  have hiX3 : ∀ w ∈ wsX30, w ∈ wsX1_init := by decide +kernel
  rw [show entryFrame m args 10 = entryFrame m ([.ref t, va_rf a1, va_rf a2, va_rf a3, .int a4, .int a5] : List Value).toArray 10 from by rw [hargs]]
  have hl := lv_entry ([.ref t, va_rf a1, va_rf a2, va_rf a3, .int a4, .int a5]) (n := 10) (Nat.le_of_ble_eq_true rfl)
  rw [lg_entry_eq]
  generalize (lg_sl ([.ref t, va_rf a1, va_rf a2, va_rf a3, .int a4, .int a5]) ++ List.replicate (10 - (lg_sl ([.ref t, va_rf a1, va_rf a2, va_rf a3, .int a4, .int a5])).length) Slot.unset).toArray = ls at hl ⊢
  have hl : lv_has ls 10 [(0, va_rf (some t)), (1, va_rf a1), (2, va_rf a2), (3, va_rf a3), (4, .int a4), (5, .int a5)] := hl
  unfold fX1_init at hf
  refine hm_aload_n hx hb dX1_init_0 rfl (lv_at hl 0 rfl) ?_
  refine W.objInit hx hb hown w1 w2 w3 rfl (by rw [hml]; exact hl.1) rfl dX1_init_1 (Nat.le_of_ble_eq_true rfl) (Nat.le_of_ble_eq_true rfl) ?_
  refine W.eq (g2 := F0 m 4 ls []) rfl ?_
  refine lv_iload hx hb dX1_init_4 (lv_at hl 4 rfl) ?_
  refine lv_i2l (v := (a4).toInt64) hx hb dX1_init_6 rfl ?_
  refine hm_aload_n hx hb dX1_init_7 rfl (lv_at hl 2 rfl) ?_
  obtain ⟨v1, ev1, hf⟩ := hm_b_s hf
  refine hm_get (ci := 0) (k := 0) (C := RX0) (T := TX0) (N := 4) hx hb hts hiX0 hown hK hI rfl (by decide) w4 (hm_gl_s ev1) dX1_init_8 ?_
  refine lv_lsub hx hb dX1_init_11 ?_
  obtain ⟨v2, ev2, hf⟩ := hm_let_s hf
  refine hm_tj ev2 ?_
  refine lv_lstore (lv' := [(6, .long v2), (0, va_rf (some t)), (1, va_rf a1), (2, va_rf a2), (3, va_rf a3), (4, .int a4), (5, .int a5)]) hx hb dX1_init_12 hl (by decide) rfl (fun ls hl => ?_)
  refine lv_iload hx hb dX1_init_14 (lv_at hl 6 rfl) ?_
  refine lv_i2l (v := (a5).toInt64) hx hb dX1_init_16 rfl ?_
  refine hm_aload_n hx hb dX1_init_17 rfl (lv_at hl 3 rfl) ?_
  obtain ⟨v3, ev3, hf⟩ := hm_b_s hf
  refine hm_get (ci := 0) (k := 1) (C := RX0) (T := TX0) (N := 4) hx hb hts hiX0 hown hK hI rfl (by decide) w5 (hm_gl_s ev3) dX1_init_18 ?_
  refine lv_lsub hx hb dX1_init_21 ?_
  obtain ⟨v4, ev4, hf⟩ := hm_let_s hf
  refine hm_tj ev4 ?_
  refine lv_lstore (lv' := [(8, .long v4), (6, .long v2), (0, va_rf (some t)), (1, va_rf a1), (2, va_rf a2), (3, va_rf a3), (4, .int a4), (5, .int a5)]) hx hb dX1_init_22 hl (by decide) rfl (fun ls hl => ?_)
  refine hm_aload_n hx hb dX1_init_24 rfl (lv_at hl 2 rfl) ?_
  refine hm_aload_n hx hb dX1_init_25 rfl (lv_at hl 3 rfl) ?_
  obtain ⟨h5, eh5, hf⟩ := hm_b_s hf
  refine hm_putF (ci := 1) (k := 0) (C := RX1) (T := TX1) (N := 4) hx hb hts hiX1 tyX1 tyX1_ok nmX1 hown hK hI rfl (by decide) w6 rfl hin rfl eh5 hm_nqo hm_fqo dX1_init_26 (fun H locs hI => ?_)
  refine hm_aload_n hx hb dX1_init_29 rfl (lv_at hl 2 rfl) ?_
  refine hm_aload_n hx hb dX1_init_30 rfl (lv_at hl 5 rfl) ?_
  obtain ⟨h6, eh6, hf⟩ := hm_b_s hf
  refine hm_putF (ci := 1) (k := 1) (C := RX1) (T := TX1) (N := 4) hx hb hts hiX1 tyX1 tyX1_ok nmX1 hown hK hI rfl (by decide) w7 rfl hin rfl eh6 hm_nqo hm_fqo dX1_init_31 (fun H locs hI => ?_)
  refine hm_aload_n hx hb dX1_init_34 rfl (lv_at hl 2 rfl) ?_
  refine hm_aload_n hx hb dX1_init_35 rfl (lv_at hl 3 rfl) ?_
  obtain ⟨v7, ev7, hf⟩ := hm_b_s hf
  refine hm_get (ci := 3) (k := 2) (C := RX3) (T := TX3) (N := 5) hx hb hts hiX3 hown hK hI rfl (by decide) w8 (hm_gq_s ev7) dX1_init_36 ?_
  refine hm_aload_n hx hb dX1_init_39 rfl (lv_at hl 4 rfl) ?_
  obtain ⟨b9, eb9, hf⟩ := hm_b_s hf
  obtain ⟨v10, h8, eh8, hf⟩ := hm_b2_s hf
  refine hm_cV (As := [va_rf a2]) (rest := [va_rf (some t)]) ⟨hx, hb, hml, hown, hts⟩ hK hI eb9 rfl rfl (kX0_shared l D kA b9 a2 h6 h8 v10 eh8) (cwV 1 hts gX1_init_X0_shared rfl rfl rfl (by decide +kernel) ⟨Nat.le_of_ble_eq_true rfl, Nat.le_of_ble_eq_true rfl⟩) rfl hl.1 rfl (by simp only [List.map, hm_rf_cat, Value.category, List.sum_cons, List.sum_nil]; decide) dX1_init_40 ⟨Nat.le_of_ble_eq_true rfl, Nat.le_of_ble_eq_true rfl⟩ (fun H locs hI => ?_)
  refine W.cs (cells' := 1) (slots' := 4) rfl rfl ?_
  refine lv_lload hx hb dX1_init_43 (lv_at hl 1 rfl) ?_
  refine lv_lload hx hb dX1_init_45 (lv_at hl 0 rfl) ?_
  obtain ⟨b12, eb12, hf⟩ := hm_b_s hf
  obtain ⟨v13, h11, eh11, hf⟩ := hm_b2_s hf
  refine hm_cV (As := [.long v2, .long v4]) (rest := [va_rf (some t)]) ⟨hx, hb, hml, hown, hts⟩ hK hI eb12 rfl rfl (kX0_movedBy l D kA b12 v2 v4 h8 h11 v13 eh11) (cwV 2 hts gX1_init_X0_movedBy rfl rfl rfl (by decide +kernel) ⟨Nat.le_of_ble_eq_true rfl, Nat.le_of_ble_eq_true rfl⟩) rfl hl.1 rfl (by simp only [List.map, hm_rf_cat, Value.category, List.sum_cons, List.sum_nil]; decide) dX1_init_47 ⟨Nat.le_of_ble_eq_true rfl, Nat.le_of_ble_eq_true rfl⟩ (fun H locs hI => ?_)
  refine W.cs (cells' := 2) (slots' := 8) rfl rfl ?_
  refine hm_aload_n hx hb dX1_init_50 rfl (lv_at hl 5 rfl) ?_
  obtain ⟨v14, ev14, hf⟩ := hm_b_s hf
  refine hm_get (ci := 3) (k := 4) (C := RX3) (T := TX3) (N := 5) hx hb hts hiX3 hown hK hI rfl (by decide) w9 (hm_gq_s ev14) dX1_init_51 ?_
  obtain ⟨b16, eb16, hf⟩ := hm_b_s hf
  obtain ⟨v17, h15, eh15, hf⟩ := hm_b2_s hf
  refine hm_cV (As := [va_rf v14]) (rest := [va_rf (some t)]) ⟨hx, hb, hml, hown, hts⟩ hK hI eb16 rfl rfl (kX0_shared l D kA b16 v14 h11 h15 v17 eh15) (cwV 1 hts gX1_init_X0_shared rfl rfl rfl (by decide +kernel) ⟨Nat.le_of_ble_eq_true rfl, Nat.le_of_ble_eq_true rfl⟩) rfl hl.1 rfl (by simp only [List.map, hm_rf_cat, Value.category, List.sum_cons, List.sum_nil]; decide) dX1_init_54 ⟨Nat.le_of_ble_eq_true rfl, Nat.le_of_ble_eq_true rfl⟩ (fun H locs hI => ?_)
  refine W.cs (cells' := 3) (slots' := 12) rfl rfl ?_
  obtain ⟨h18, eh18, hf⟩ := hm_b_s hf
  refine hm_putF (ci := 1) (k := 3) (C := RX1) (T := TX1) (N := 4) hx hb hts hiX1 tyX1 tyX1_ok nmX1 hown hK hI rfl (by decide) w10 rfl hin rfl eh18 hm_nqo hm_fqo dX1_init_57 (fun H locs hI => ?_)
  refine hm_aload_n hx hb dX1_init_60 rfl (lv_at hl 2 rfl) ?_
  refine hm_aload_n hx hb dX1_init_61 rfl (lv_at hl 2 rfl) ?_
  obtain ⟨v19, ev19, hf⟩ := hm_b_s hf
  refine hm_get (ci := 1) (k := 3) (C := RX1) (T := TX1) (N := 4) hx hb hts hiX1 hown hK hI rfl (by decide) w10 (hm_gq_s ev19) dX1_init_62 ?_
  refine lv_lload hx hb dX1_init_65 (lv_at hl 1 rfl) ?_
  refine lv_lneg hx hb dX1_init_67 ?_
  refine lv_lload hx hb dX1_init_68 (lv_at hl 0 rfl) ?_
  refine lv_lneg hx hb dX1_init_70 ?_
  obtain ⟨b21, eb21, hf⟩ := hm_b_s hf
  obtain ⟨v22, h20, eh20, hf⟩ := hm_b2_s hf
  refine hm_cV (As := [.long (-v2), .long (-v4)]) (rest := [va_rf (some t)]) ⟨hx, hb, hml, hown, hts⟩ hK hI eb21 rfl rfl (kX0_movedBy l D kA b21 (-v2) (-v4) h18 h20 v22 eh20) (cwV 2 hts gX1_init_X0_movedBy rfl rfl rfl (by decide +kernel) ⟨Nat.le_of_ble_eq_true rfl, Nat.le_of_ble_eq_true rfl⟩) rfl hl.1 rfl (by simp only [List.map, hm_rf_cat, Value.category, List.sum_cons, List.sum_nil]; decide) dX1_init_71 ⟨Nat.le_of_ble_eq_true rfl, Nat.le_of_ble_eq_true rfl⟩ (fun H locs hI => ?_)
  refine W.cs (cells' := 4) (slots' := 16) rfl rfl ?_
  obtain ⟨h23, eh23, hf⟩ := hm_b_s hf
  refine hm_putF (ci := 1) (k := 2) (C := RX1) (T := TX1) (N := 4) hx hb hts hiX1 tyX1 tyX1_ok nmX1 hown hK hI rfl (by decide) w11 rfl hin rfl eh23 hm_nqo hm_fqo dX1_init_74 (fun H locs hI => ?_)
  exact hm_vret_e hf hx hb hr hlocks hK hI (Nat.le_of_ble_eq_true rfl) (Nat.le_of_ble_eq_true rfl) dX1_init_77
/-! ==== X1_keepsDepth: BlitBoard$Move.keepsDepth()Z ==== -/
def fX1_keepsDepth (t : Nat) (h0 : hm_H) : Option (Int32 × hm_H) :=
  hm_b (hm_gq 1 0 h0 (some t)) fun v1 =>
  hm_b (hm_gi 3 0 h0 v1) fun v2 =>
  hm_b (hm_gq 1 1 h0 (some t)) fun v3 =>
  hm_b (hm_gi 3 0 h0 v3) fun v4 =>
  if v2 = v4 then
    some ((1 : Int32), h0)
  else
    some ((0 : Int32), h0)
set_option maxRecDepth 100000 in
set_option maxHeartbeats 8000000 in
theorem kX1_keepsDepth (l : Launch) (D : va_G) (kA : Nat → ClassId) (t : Nat) (h0 h' : hm_H) (r : Int32) (hf : fX1_keepsDepth t h0 = some (r, h')) : hm_C l yX1_keepsDepth wsX1_keepsDepth { frames := 0, cells := 0, slots := 0, locals := 0 } D vwCl kA (hm_ty kA) [.ref t] h0 (some (.int r)) h' 0 0 := by
  refine Met.ofW (cc := cX1_keepsDepth) (maxL := 1) (ret := (some .boolean)) (by decide) rfl ?_
  intro p e s m args below meth c s₁ B hml hv
  obtain ⟨hargs, hB⟩ := hv
  have hx := B.exec
  have hb := B.bytes
  have hr := B.returns
  have hts := atoms_spec (ws := wsX1_keepsDepth) B.pre
  have hown : s.vm.findClass RX1 = some m.cls := findClass_of_methodNamed B.named
  have hlocks := B.notSynchronized
  have hK := hB.2
  have hI := hm_start hB
  have w1 := hts (.fieldLink RX1 16 "BlitBoard$Move" "from" "LBlitBoard$Surface;") (by decide +kernel)
  have w2 := hts (.fieldLink RX1 48 "BlitBoard$Surface" "depth" "I") (by decide +kernel)
  have w3 := hts (.fieldLink RX1 22 "BlitBoard$Move" "to" "LBlitBoard$Surface;") (by decide +kernel)
  have hiX1 : ∀ w ∈ wsX10, w ∈ wsX1_keepsDepth := by decide +kernel
  have hiX3 : ∀ w ∈ wsX30, w ∈ wsX1_keepsDepth := by decide +kernel
  rw [show entryFrame m args 1 = entryFrame m ([.ref t] : List Value).toArray 1 from by rw [hargs]]
  have hl := lv_entry ([.ref t]) (n := 1) (Nat.le_of_ble_eq_true rfl)
  rw [lg_entry_eq]
  generalize (lg_sl ([.ref t]) ++ List.replicate (1 - (lg_sl ([.ref t])).length) Slot.unset).toArray = ls at hl ⊢
  have hl : lv_has ls 1 [(0, va_rf (some t))] := hl
  unfold fX1_keepsDepth at hf
  refine hm_aload_n hx hb dX1_keepsDepth_0 rfl (lv_at hl 0 rfl) ?_
  obtain ⟨v1, ev1, hf⟩ := hm_b_s hf
  refine hm_get (ci := 1) (k := 0) (C := RX1) (T := TX1) (N := 4) hx hb hts hiX1 hown hK hI rfl (by decide) w1 (hm_gq_s ev1) dX1_keepsDepth_1 ?_
  obtain ⟨v2, ev2, hf⟩ := hm_b_s hf
  refine hm_get (ci := 3) (k := 0) (C := RX3) (T := TX3) (N := 5) hx hb hts hiX3 hown hK hI rfl (by decide) w2 (hm_gi_s ev2) dX1_keepsDepth_4 ?_
  refine hm_aload_n hx hb dX1_keepsDepth_7 rfl (lv_at hl 0 rfl) ?_
  obtain ⟨v3, ev3, hf⟩ := hm_b_s hf
  refine hm_get (ci := 1) (k := 1) (C := RX1) (T := TX1) (N := 4) hx hb hts hiX1 hown hK hI rfl (by decide) w3 (hm_gq_s ev3) dX1_keepsDepth_8 ?_
  obtain ⟨v4, ev4, hf⟩ := hm_b_s hf
  refine hm_get (ci := 3) (k := 0) (C := RX3) (T := TX3) (N := 5) hx hb hts hiX3 hown hK hI rfl (by decide) w2 (hm_gi_s ev4) dX1_keepsDepth_11 ?_
  refine lv_icmp_ne (tgt := 21) hx hb dX1_keepsDepth_14 (by decide) (fun c => ?_) (fun c => ?_)
  · rw [if_neg c] at hf
    refine lv_iconst (v := (0 : Int32)) hx hb dX1_keepsDepth_21 (by decide) ?_
    exact hm_zret_e hf hx hb hr hlocks hK hI (Nat.le_of_ble_eq_true rfl) (Nat.le_of_ble_eq_true rfl) rfl dX1_keepsDepth_22
  · rw [if_pos c] at hf
    refine lv_iconst (v := (1 : Int32)) hx hb dX1_keepsDepth_17 (by decide) ?_
    refine lv_goto (tgt := 22) hx hb dX1_keepsDepth_18 (by decide) ?_
    exact hm_zret_e hf hx hb hr hlocks hK hI (Nat.le_of_ble_eq_true rfl) (Nat.le_of_ble_eq_true rfl) rfl dX1_keepsDepth_22
/-! ==== X2_init: BlitBoard$Sprite.<init>()V ==== -/
def fX2_init (t : Nat) (h0 : hm_H) : Option hm_H :=
  hm_b (hm_ni 0 5000 (5000 : Int32) h0) fun h1 =>
  hm_b (hm_p 2 0 (va_rf (some h0.2)) h1 (some t)) fun h2 =>
  hm_b (hm_p 2 1 (.int (0 : Int32)) h2 (some t)) fun h3 =>
  hm_b (hm_p 2 2 (.int (0 : Int32)) h3 (some t)) fun h4 =>
  some h4
set_option maxRecDepth 100000 in
set_option maxHeartbeats 8000000 in
theorem kX2_init (l : Launch) (D : va_G) (kA : Nat → ClassId) (t : Nat) (h0 h' : hm_H) (hf : fX2_init t h0 = some h') : hm_C l yX2_init wsX2_init { frames := 1, cells := 1, slots := 5000, locals := 20 } D vwCl kA (hm_ty kA) [.ref t] h0 none h' 1 5000 := by
  refine Met.ofW (cc := cX2_init) (maxL := 1) (ret := none) (by decide) rfl ?_
  intro p e s m args below meth c s₁ B hml hv
  obtain ⟨hargs, hB⟩ := hv
  have hx := B.exec
  have hb := B.bytes
  have hr := B.returns
  have hts := atoms_spec (ws := wsX2_init) B.pre
  have hown : s.vm.findClass RX2 = some m.cls := findClass_of_methodNamed B.named
  have hlocks := B.notSynchronized
  have hin : meth.name = "<init>" := (name_of_methodNamed B.named B.method).1
  have hK := hB.2
  have hI := hm_start hB
  have w1 := hts (.methodLink RX2 3 objectInit) (by decide +kernel)
  have w2 := hts (.instanceMethod objectInit) (by decide +kernel)
  have w3 := hts (.code objectInit ⟨#[0xb1]⟩ 1 none) (by decide +kernel)
  have w4 := hts (.arrayClass .int) (by decide +kernel)
  have w5 := hts (.fieldLink RX2 9 "BlitBoard$Sprite" "bytes" "[I") (by decide +kernel)
  have w6 := hts (.fieldLink RX2 15 "BlitBoard$Sprite" "size" "I") (by decide +kernel)
  have w7 := hts (.fieldLink RX2 19 "BlitBoard$Sprite" "spilled" "Z") (by decide +kernel)
  have hiX2 : ∀ w ∈ wsX20, w ∈ wsX2_init := by decide +kernel
  rw [show entryFrame m args 1 = entryFrame m ([.ref t] : List Value).toArray 1 from by rw [hargs]]
  have hl := lv_entry ([.ref t]) (n := 1) (Nat.le_of_ble_eq_true rfl)
  rw [lg_entry_eq]
  generalize (lg_sl ([.ref t]) ++ List.replicate (1 - (lg_sl ([.ref t])).length) Slot.unset).toArray = ls at hl ⊢
  have hl : lv_has ls 1 [(0, va_rf (some t))] := hl
  unfold fX2_init at hf
  refine hm_aload_n hx hb dX2_init_0 rfl (lv_at hl 0 rfl) ?_
  refine W.objInit hx hb hown w1 w2 w3 rfl (by rw [hml]; exact hl.1) rfl dX2_init_1 (Nat.le_of_ble_eq_true rfl) (Nat.le_of_ble_eq_true rfl) ?_
  refine W.eq (g2 := F0 m 4 ls []) rfl ?_
  refine hm_aload_n hx hb dX2_init_4 rfl (lv_at hl 0 rfl) ?_
  refine lv_sipush (v := (5000 : Int32)) hx hb dX2_init_5 (by decide) ?_
  obtain ⟨h1, eh1, hf⟩ := hm_b_s hf
  refine hm_newi (kd := 0) (t0 := 0) (B := 5000) (ty := .int) hx hb w4 rfl rfl (by decide) hK hI rfl (fun z => z) eh1 (Nat.le_of_ble_eq_true rfl) (Nat.le_of_ble_eq_true rfl) dX2_init_8 (fun H hI => ?_)
  refine W.cs (cells' := 1) (slots' := 5000) rfl rfl ?_
  obtain ⟨h2, eh2, hf⟩ := hm_b_s hf
  refine hm_putF (ci := 2) (k := 0) (C := RX2) (T := TX2) (N := 3) hx hb hts hiX2 tyX2 tyX2_ok nmX2 hown hK hI rfl (by decide) w5 rfl hin rfl eh2 hm_nqa hm_fqa dX2_init_10 (fun H locs hI => ?_)
  refine hm_aload_n hx hb dX2_init_13 rfl (lv_at hl 0 rfl) ?_
  refine lv_iconst (v := (0 : Int32)) hx hb dX2_init_14 (by decide) ?_
  obtain ⟨h3, eh3, hf⟩ := hm_b_s hf
  refine hm_put (ci := 2) (k := 1) (C := RX2) (T := TX2) (N := 3) hx hb hts hiX2 tyX2 tyX2_ok nmX2 hown hK hI rfl (by decide) w6 rfl eh3 rfl rfl dX2_init_15 (fun H locs hI => ?_)
  refine hm_aload_n hx hb dX2_init_18 rfl (lv_at hl 0 rfl) ?_
  refine lv_iconst (v := (0 : Int32)) hx hb dX2_init_19 (by decide) ?_
  obtain ⟨h4, eh4, hf⟩ := hm_b_s hf
  refine hm_put (ci := 2) (k := 2) (C := RX2) (T := TX2) (N := 3) hx hb hts hiX2 tyX2 tyX2_ok nmX2 hown hK hI rfl (by decide) w7 rfl eh4 rfl rfl dX2_init_20 (fun H locs hI => ?_)
  exact hm_vret_e hf hx hb hr hlocks hK hI (Nat.le_of_ble_eq_true rfl) (Nat.le_of_ble_eq_true rfl) dX2_init_23
/-! ==== X2_empty: BlitBoard$Sprite.empty()V ==== -/
def fX2_empty (t : Nat) (h0 : hm_H) : Option hm_H :=
  hm_b (hm_p 2 1 (.int (0 : Int32)) h0 (some t)) fun h1 =>
  hm_b (hm_p 2 2 (.int (0 : Int32)) h1 (some t)) fun h2 =>
  some h2
set_option maxRecDepth 100000 in
set_option maxHeartbeats 8000000 in
theorem kX2_empty (l : Launch) (D : va_G) (kA : Nat → ClassId) (t : Nat) (h0 h' : hm_H) (hf : fX2_empty t h0 = some h') : hm_C l yX2_empty wsX2_empty { frames := 0, cells := 0, slots := 0, locals := 0 } D vwCl kA (hm_ty kA) [.ref t] h0 none h' 0 0 := by
  refine Met.ofW (cc := cX2_empty) (maxL := 1) (ret := none) (by decide) rfl ?_
  intro p e s m args below meth c s₁ B hml hv
  obtain ⟨hargs, hB⟩ := hv
  have hx := B.exec
  have hb := B.bytes
  have hr := B.returns
  have hts := atoms_spec (ws := wsX2_empty) B.pre
  have hown : s.vm.findClass RX2 = some m.cls := findClass_of_methodNamed B.named
  have hlocks := B.notSynchronized
  have hK := hB.2
  have hI := hm_start hB
  have w1 := hts (.fieldLink RX2 15 "BlitBoard$Sprite" "size" "I") (by decide +kernel)
  have w2 := hts (.fieldLink RX2 19 "BlitBoard$Sprite" "spilled" "Z") (by decide +kernel)
  have hiX2 : ∀ w ∈ wsX20, w ∈ wsX2_empty := by decide +kernel
  rw [show entryFrame m args 1 = entryFrame m ([.ref t] : List Value).toArray 1 from by rw [hargs]]
  have hl := lv_entry ([.ref t]) (n := 1) (Nat.le_of_ble_eq_true rfl)
  rw [lg_entry_eq]
  generalize (lg_sl ([.ref t]) ++ List.replicate (1 - (lg_sl ([.ref t])).length) Slot.unset).toArray = ls at hl ⊢
  have hl : lv_has ls 1 [(0, va_rf (some t))] := hl
  unfold fX2_empty at hf
  refine hm_aload_n hx hb dX2_empty_0 rfl (lv_at hl 0 rfl) ?_
  refine lv_iconst (v := (0 : Int32)) hx hb dX2_empty_1 (by decide) ?_
  obtain ⟨h1, eh1, hf⟩ := hm_b_s hf
  refine hm_put (ci := 2) (k := 1) (C := RX2) (T := TX2) (N := 3) hx hb hts hiX2 tyX2 tyX2_ok nmX2 hown hK hI rfl (by decide) w1 rfl eh1 rfl rfl dX2_empty_2 (fun H locs hI => ?_)
  refine hm_aload_n hx hb dX2_empty_5 rfl (lv_at hl 0 rfl) ?_
  refine lv_iconst (v := (0 : Int32)) hx hb dX2_empty_6 (by decide) ?_
  obtain ⟨h2, eh2, hf⟩ := hm_b_s hf
  refine hm_put (ci := 2) (k := 2) (C := RX2) (T := TX2) (N := 3) hx hb hts hiX2 tyX2 tyX2_ok nmX2 hown hK hI rfl (by decide) w2 rfl eh2 rfl rfl dX2_empty_7 (fun H locs hI => ?_)
  exact hm_vret_e hf hx hb hr hlocks hK hI (Nat.le_of_ble_eq_true rfl) (Nat.le_of_ble_eq_true rfl) dX2_empty_10
/-! ==== X2_append: BlitBoard$Sprite.append(I)V ==== -/
def fX2_append (t : Nat) (a1 : Int32) (h0 : hm_H) : Option hm_H :=
  hm_b (hm_gi 2 1 h0 (some t)) fun v1 =>
  if v1 < (5000 : Int32) then
    hm_b (hm_gq 2 0 h0 (some t)) fun v2 =>
    hm_b (hm_gi 2 1 h0 (some t)) fun v3 =>
    hm_b (hm_si 0 h0 v2 v3 a1) fun h4 =>
    hm_b (hm_gi 2 1 h4 (some t)) fun v5 =>
    hm_b (hm_p 2 1 (.int (v5 + (1 : Int32))) h4 (some t)) fun h6 =>
    some h6
  else
    hm_b (hm_p 2 2 (.int (1 : Int32)) h0 (some t)) fun h7 =>
    some h7
set_option maxRecDepth 100000 in
set_option maxHeartbeats 8000000 in
theorem kX2_append (l : Launch) (D : va_G) (kA : Nat → ClassId) (t : Nat) (a1 : Int32) (h0 h' : hm_H) (hf : fX2_append t a1 h0 = some h') : hm_C l yX2_append wsX2_append { frames := 0, cells := 0, slots := 0, locals := 0 } D vwCl kA (hm_ty kA) [.ref t, .int a1] h0 none h' 0 0 := by
  refine Met.ofW (cc := cX2_append) (maxL := 2) (ret := none) (by decide) rfl ?_
  intro p e s m args below meth c s₁ B hml hv
  obtain ⟨hargs, hB⟩ := hv
  have hx := B.exec
  have hb := B.bytes
  have hr := B.returns
  have hts := atoms_spec (ws := wsX2_append) B.pre
  have hown : s.vm.findClass RX2 = some m.cls := findClass_of_methodNamed B.named
  have hlocks := B.notSynchronized
  have hK := hB.2
  have hI := hm_start hB
  have w1 := hts (.fieldLink RX2 15 "BlitBoard$Sprite" "size" "I") (by decide +kernel)
  have w2 := hts (.fieldLink RX2 9 "BlitBoard$Sprite" "bytes" "[I") (by decide +kernel)
  have w3 := hts (.fieldLink RX2 19 "BlitBoard$Sprite" "spilled" "Z") (by decide +kernel)
  have hiX2 : ∀ w ∈ wsX20, w ∈ wsX2_append := by decide +kernel
  rw [show entryFrame m args 2 = entryFrame m ([.ref t, .int a1] : List Value).toArray 2 from by rw [hargs]]
  have hl := lv_entry ([.ref t, .int a1]) (n := 2) (Nat.le_of_ble_eq_true rfl)
  rw [lg_entry_eq]
  generalize (lg_sl ([.ref t, .int a1]) ++ List.replicate (2 - (lg_sl ([.ref t, .int a1])).length) Slot.unset).toArray = ls at hl ⊢
  have hl : lv_has ls 2 [(0, va_rf (some t)), (1, .int a1)] := hl
  unfold fX2_append at hf
  refine hm_aload_n hx hb dX2_append_0 rfl (lv_at hl 0 rfl) ?_
  obtain ⟨v1, ev1, hf⟩ := hm_b_s hf
  refine hm_get (ci := 2) (k := 1) (C := RX2) (T := TX2) (N := 3) hx hb hts hiX2 hown hK hI rfl (by decide) w1 (hm_gi_s ev1) dX2_append_1 ?_
  refine lv_sipush (v := (5000 : Int32)) hx hb dX2_append_4 (by decide) ?_
  refine lv_icmp_lt (tgt := 16) hx hb dX2_append_7 (by decide) (fun c => ?_) (fun c => ?_)
  · rw [if_pos c] at hf
    refine hm_aload_n hx hb dX2_append_16 rfl (lv_at hl 0 rfl) ?_
    obtain ⟨v2, ev2, hf⟩ := hm_b_s hf
    refine hm_get (ci := 2) (k := 0) (C := RX2) (T := TX2) (N := 3) hx hb hts hiX2 hown hK hI rfl (by decide) w2 (hm_gq_s ev2) dX2_append_17 ?_
    refine hm_aload_n hx hb dX2_append_20 rfl (lv_at hl 0 rfl) ?_
    obtain ⟨v3, ev3, hf⟩ := hm_b_s hf
    refine hm_get (ci := 2) (k := 1) (C := RX2) (T := TX2) (N := 3) hx hb hts hiX2 hown hK hI rfl (by decide) w1 (hm_gi_s ev3) dX2_append_21 ?_
    refine lv_iload_n hx hb dX2_append_24 rfl (lv_at hl 1 rfl) ?_
    obtain ⟨h4, eh4, hf⟩ := hm_b_s hf
    refine hm_iast (kd := 0) (t0 := 0) hx hb hK hI rfl eh4 dX2_append_25 (fun H locs hI => ?_)
    refine hm_aload_n hx hb dX2_append_26 rfl (lv_at hl 0 rfl) ?_
    refine lv_dup hx hb dX2_append_27 (hm_rf_cat _) ?_
    obtain ⟨v5, ev5, hf⟩ := hm_b_s hf
    refine hm_get (ci := 2) (k := 1) (C := RX2) (T := TX2) (N := 3) hx hb hts hiX2 hown hK hI rfl (by decide) w1 (hm_gi_s ev5) dX2_append_28 ?_
    refine lv_iconst (v := (1 : Int32)) hx hb dX2_append_31 (by decide) ?_
    refine lv_iadd hx hb dX2_append_32 ?_
    obtain ⟨h6, eh6, hf⟩ := hm_b_s hf
    refine hm_put (ci := 2) (k := 1) (C := RX2) (T := TX2) (N := 3) hx hb hts hiX2 tyX2 tyX2_ok nmX2 hown hK hI rfl (by decide) w1 rfl eh6 rfl rfl dX2_append_33 (fun H locs hI => ?_)
    exact hm_vret_e hf hx hb hr hlocks hK hI (Nat.le_of_ble_eq_true rfl) (Nat.le_of_ble_eq_true rfl) dX2_append_36
  · rw [if_neg c] at hf
    refine hm_aload_n hx hb dX2_append_10 rfl (lv_at hl 0 rfl) ?_
    refine lv_iconst (v := (1 : Int32)) hx hb dX2_append_11 (by decide) ?_
    obtain ⟨h7, eh7, hf⟩ := hm_b_s hf
    refine hm_put (ci := 2) (k := 2) (C := RX2) (T := TX2) (N := 3) hx hb hts hiX2 tyX2 tyX2_ok nmX2 hown hK hI rfl (by decide) w3 rfl eh7 rfl rfl dX2_append_12 (fun H locs hI => ?_)
    exact hm_vret_e hf hx hb hr hlocks hK hI (Nat.le_of_ble_eq_true rfl) (Nat.le_of_ble_eq_true rfl) dX2_append_15
/-! ==== X2_stretchLength: BlitBoard$Sprite.stretchLength(I)I ==== -/
def fX2_stretchLength (a1 : Int32) (h0 : hm_H) : Option (Int32 × hm_H) :=
  some (a1 &&& (63 : Int32), h0)
set_option maxRecDepth 100000 in
set_option maxHeartbeats 8000000 in
theorem kX2_stretchLength (l : Launch) (D : va_G) (kA : Nat → ClassId) (a1 : Int32) (h0 h' : hm_H) (r : Int32) (hf : fX2_stretchLength a1 h0 = some (r, h')) : hm_C l yX2_stretchLength wsX2_stretchLength { frames := 0, cells := 0, slots := 0, locals := 0 } D vwCl kA (hm_ty kA) [.int a1] h0 (some (.int r)) h' 0 0 := by
  refine Met.ofW (cc := cX2_stretchLength) (maxL := 1) (ret := (some .int)) (by decide) rfl ?_
  intro p e s m args below meth c s₁ B hml hv
  obtain ⟨hargs, hB⟩ := hv
  have hx := B.exec
  have hb := B.bytes
  have hr := B.returns
  have hts := atoms_spec (ws := wsX2_stretchLength) B.pre
  have hown : s.vm.findClass RX2 = some m.cls := findClass_of_methodNamed B.named
  have hlocks := B.notSynchronized
  have hK := hB.2
  have hI := hm_start hB
  rw [show entryFrame m args 1 = entryFrame m ([.int a1] : List Value).toArray 1 from by rw [hargs]]
  have hl := lv_entry ([.int a1]) (n := 1) (Nat.le_of_ble_eq_true rfl)
  rw [lg_entry_eq]
  generalize (lg_sl ([.int a1]) ++ List.replicate (1 - (lg_sl ([.int a1])).length) Slot.unset).toArray = ls at hl ⊢
  have hl : lv_has ls 1 [(0, .int a1)] := hl
  unfold fX2_stretchLength at hf
  refine lv_iload_n hx hb dX2_stretchLength_0 rfl (lv_at hl 0 rfl) ?_
  refine lv_bipush (v := (63 : Int32)) hx hb dX2_stretchLength_1 (by decide) ?_
  refine lv_iand hx hb dX2_stretchLength_3 ?_
  exact hm_iret_e hf hx hb hr hlocks hK hI (Nat.le_of_ble_eq_true rfl) (Nat.le_of_ble_eq_true rfl) dX2_stretchLength_4
/-! ==== X2_isStretch: BlitBoard$Sprite.isStretch(I)Z ==== -/
def fX2_isStretch (a1 : Int32) (h0 : hm_H) : Option (Int32 × hm_H) :=
  hm_b2 (fX2_stretchLength a1 h0) fun v2 h1 =>
  if v2 ≤ 0 then
    some ((0 : Int32), h1)
  else
    if (191 : Int32) < a1 then
      some ((0 : Int32), h1)
    else
      some ((1 : Int32), h1)
set_option maxRecDepth 100000 in
set_option maxHeartbeats 8000000 in
theorem kX2_isStretch (l : Launch) (D : va_G) (kA : Nat → ClassId) (a1 : Int32) (h0 h' : hm_H) (r : Int32) (hf : fX2_isStretch a1 h0 = some (r, h')) : hm_C l yX2_isStretch wsX2_isStretch { frames := 1, cells := 0, slots := 0, locals := 20 } D vwCl kA (hm_ty kA) [.int a1] h0 (some (.int r)) h' 0 0 := by
  refine Met.ofW (cc := cX2_isStretch) (maxL := 1) (ret := (some .boolean)) (by decide) rfl ?_
  intro p e s m args below meth c s₁ B hml hv
  obtain ⟨hargs, hB⟩ := hv
  have hx := B.exec
  have hb := B.bytes
  have hr := B.returns
  have hts := atoms_spec (ws := wsX2_isStretch) B.pre
  have hown : s.vm.findClass RX2 = some m.cls := findClass_of_methodNamed B.named
  have hlocks := B.notSynchronized
  have hK := hB.2
  have hI := hm_start hB
  rw [show entryFrame m args 1 = entryFrame m ([.int a1] : List Value).toArray 1 from by rw [hargs]]
  have hl := lv_entry ([.int a1]) (n := 1) (Nat.le_of_ble_eq_true rfl)
  rw [lg_entry_eq]
  generalize (lg_sl ([.int a1]) ++ List.replicate (1 - (lg_sl ([.int a1])).length) Slot.unset).toArray = ls at hl ⊢
  have hl : lv_has ls 1 [(0, .int a1)] := hl
  unfold fX2_isStretch at hf
  refine lv_iload_n hx hb dX2_isStretch_0 rfl (lv_at hl 0 rfl) ?_
  obtain ⟨v2, h1, eh1, hf⟩ := hm_b2_s hf
  refine hm_cS (As := [.int a1]) (rest := []) ⟨hx, hb, hml, hown, hts⟩ hK hI (kX2_stretchLength l D kA a1 h0 h1 v2 eh1) (va_cwS 1 hts gX2_isStretch_X2_stretchLength rfl rfl rfl (by decide +kernel) ⟨Nat.le_of_ble_eq_true rfl, Nat.le_of_ble_eq_true rfl⟩) rfl hl.1 rfl (by simp only [List.map, hm_rf_cat, Value.category, List.sum_cons, List.sum_nil]; decide) dX2_isStretch_1 ⟨Nat.le_of_ble_eq_true rfl, Nat.le_of_ble_eq_true rfl⟩ (fun H locs hI => ?_)
  refine lv_if_le (tgt := 18) hx hb dX2_isStretch_4 (by decide) (fun c => ?_) (fun c => ?_)
  · rw [if_pos c] at hf
    refine lv_iconst (v := (0 : Int32)) hx hb dX2_isStretch_18 (by decide) ?_
    exact hm_zret_e hf hx hb hr hlocks hK hI (Nat.le_of_ble_eq_true rfl) (Nat.le_of_ble_eq_true rfl) rfl dX2_isStretch_19
  · rw [if_neg c] at hf
    refine lv_iload_n hx hb dX2_isStretch_7 rfl (lv_at hl 0 rfl) ?_
    refine lv_sipush (v := (191 : Int32)) hx hb dX2_isStretch_8 (by decide) ?_
    refine lv_icmp_gt (tgt := 18) hx hb dX2_isStretch_11 (by decide) (fun c => ?_) (fun c => ?_)
    · rw [if_pos c] at hf
      refine lv_iconst (v := (0 : Int32)) hx hb dX2_isStretch_18 (by decide) ?_
      exact hm_zret_e hf hx hb hr hlocks hK hI (Nat.le_of_ble_eq_true rfl) (Nat.le_of_ble_eq_true rfl) rfl dX2_isStretch_19
    · rw [if_neg c] at hf
      refine lv_iconst (v := (1 : Int32)) hx hb dX2_isStretch_14 (by decide) ?_
      refine lv_goto (tgt := 19) hx hb dX2_isStretch_15 (by decide) ?_
      exact hm_zret_e hf hx hb hr hlocks hK hI (Nat.le_of_ble_eq_true rfl) (Nat.le_of_ble_eq_true rfl) rfl dX2_isStretch_19
/-! ==== X2_dotBytes: BlitBoard$Sprite.dotBytes(I)I ==== -/
def fX2_dotBytes (a1 : Int32) (h0 : hm_H) : Option (Int32 × hm_H) :=
  if (64 : Int32) ≤ a1 then
    if (128 : Int32) ≤ a1 then
      some ((1 : Int32), h0)
    else
      hm_b2 (fX2_stretchLength a1 h0) fun v2 h1 =>
      some (v2, h1)
  else
    some ((0 : Int32), h0)
set_option maxRecDepth 100000 in
set_option maxHeartbeats 8000000 in
theorem kX2_dotBytes (l : Launch) (D : va_G) (kA : Nat → ClassId) (a1 : Int32) (h0 h' : hm_H) (r : Int32) (hf : fX2_dotBytes a1 h0 = some (r, h')) : hm_C l yX2_dotBytes wsX2_dotBytes { frames := 1, cells := 0, slots := 0, locals := 20 } D vwCl kA (hm_ty kA) [.int a1] h0 (some (.int r)) h' 0 0 := by
  refine Met.ofW (cc := cX2_dotBytes) (maxL := 1) (ret := (some .int)) (by decide) rfl ?_
  intro p e s m args below meth c s₁ B hml hv
  obtain ⟨hargs, hB⟩ := hv
  have hx := B.exec
  have hb := B.bytes
  have hr := B.returns
  have hts := atoms_spec (ws := wsX2_dotBytes) B.pre
  have hown : s.vm.findClass RX2 = some m.cls := findClass_of_methodNamed B.named
  have hlocks := B.notSynchronized
  have hK := hB.2
  have hI := hm_start hB
  rw [show entryFrame m args 1 = entryFrame m ([.int a1] : List Value).toArray 1 from by rw [hargs]]
  have hl := lv_entry ([.int a1]) (n := 1) (Nat.le_of_ble_eq_true rfl)
  rw [lg_entry_eq]
  generalize (lg_sl ([.int a1]) ++ List.replicate (1 - (lg_sl ([.int a1])).length) Slot.unset).toArray = ls at hl ⊢
  have hl : lv_has ls 1 [(0, .int a1)] := hl
  unfold fX2_dotBytes at hf
  refine lv_iload_n hx hb dX2_dotBytes_0 rfl (lv_at hl 0 rfl) ?_
  refine lv_bipush (v := (64 : Int32)) hx hb dX2_dotBytes_1 (by decide) ?_
  refine lv_icmp_ge (tgt := 8) hx hb dX2_dotBytes_3 (by decide) (fun c => ?_) (fun c => ?_)
  · rw [if_pos c] at hf
    refine lv_iload_n hx hb dX2_dotBytes_8 rfl (lv_at hl 0 rfl) ?_
    refine lv_sipush (v := (128 : Int32)) hx hb dX2_dotBytes_9 (by decide) ?_
    refine lv_icmp_ge (tgt := 22) hx hb dX2_dotBytes_12 (by decide) (fun c => ?_) (fun c => ?_)
    · rw [if_pos c] at hf
      refine lv_iconst (v := (1 : Int32)) hx hb dX2_dotBytes_22 (by decide) ?_
      exact hm_iret_e hf hx hb hr hlocks hK hI (Nat.le_of_ble_eq_true rfl) (Nat.le_of_ble_eq_true rfl) dX2_dotBytes_23
    · rw [if_neg c] at hf
      refine lv_iload_n hx hb dX2_dotBytes_15 rfl (lv_at hl 0 rfl) ?_
      obtain ⟨v2, h1, eh1, hf⟩ := hm_b2_s hf
      refine hm_cS (As := [.int a1]) (rest := []) ⟨hx, hb, hml, hown, hts⟩ hK hI (kX2_stretchLength l D kA a1 h0 h1 v2 eh1) (va_cwS 1 hts gX2_dotBytes_X2_stretchLength rfl rfl rfl (by decide +kernel) ⟨Nat.le_of_ble_eq_true rfl, Nat.le_of_ble_eq_true rfl⟩) rfl hl.1 rfl (by simp only [List.map, hm_rf_cat, Value.category, List.sum_cons, List.sum_nil]; decide) dX2_dotBytes_16 ⟨Nat.le_of_ble_eq_true rfl, Nat.le_of_ble_eq_true rfl⟩ (fun H locs hI => ?_)
      refine lv_goto (tgt := 23) hx hb dX2_dotBytes_19 (by decide) ?_
      exact hm_iret_e hf hx hb hr hlocks hK hI (Nat.le_of_ble_eq_true rfl) (Nat.le_of_ble_eq_true rfl) dX2_dotBytes_23
  · rw [if_neg c] at hf
    refine lv_iconst (v := (0 : Int32)) hx hb dX2_dotBytes_6 (by decide) ?_
    exact hm_iret_e hf hx hb hr hlocks hK hI (Nat.le_of_ble_eq_true rfl) (Nat.le_of_ble_eq_true rfl) dX2_dotBytes_7
/-! ==== X2_firstWrong: BlitBoard$Sprite.firstWrong(I)I ==== -/
def fX2_firstWrong_117 (K13 : Option Nat → Int32 → Int32 → Int32 → Int32 → Int32 → Int32 → hm_H → Option (Int32 × hm_H)) (x0 : Option Nat) (x1 : Int32) (x2 : Int32) (x3 : Int32) (x4 : Int32) (x5 : Int32) (x6 : Int32) (h : hm_H) : Option (Int32 × hm_H) :=
  K13 x0 x1 x2 x3 x4 x5 (x6 + (1 : Int32)) h
def fX2_firstWrong_13 (K13 : Option Nat → Int32 → Int32 → Int32 → Int32 → Int32 → Int32 → hm_H → Option (Int32 × hm_H)) (x0 : Option Nat) (x1 : Int32) (x2 : Int32) (x3 : Int32) (x4 : Int32) (x5 : Int32) (x6 : Int32) (h : hm_H) : Option (Int32 × hm_H) :=
  hm_b (hm_gi 2 1 h x0) fun v1 =>
  if v1 ≤ x6 then
    if x5 = 0 then
      some ((0 : Int32), h)
    else
      hm_b (hm_gi 2 1 h x0) fun v2 =>
      some (v2 + (1 : Int32), h)
  else
    hm_b (hm_gq 2 0 h x0) fun v3 =>
    hm_b (hm_ai 0 h v3 x6) fun v4 =>
    if x4 ≤ 0 then
      if x2 = (64 : Int32) then
        some (x6 + (1 : Int32), h)
      else
        if v4 = 0 then
          fX2_firstWrong_117 K13 x0 x1 (x2 + (1 : Int32)) (0 : Int32) x4 (0 : Int32) x6 h
        else
          hm_b2 (fX2_stretchLength v4 h) fun v6 h5 =>
          hm_let (x3 + v6) fun v7 =>
          hm_b2 (fX2_isStretch v4 h5) fun v9 h8 =>
          if v9 = 0 then
            some (x6 + (1 : Int32), h8)
          else
            if v7 ≤ (64 : Int32) then
              hm_b2 (fX2_dotBytes v4 h8) fun v11 h10 =>
              fX2_firstWrong_117 K13 x0 x1 x2 v7 v11 (1 : Int32) x6 h10
            else
              some (x6 + (1 : Int32), h8)
    else
      if v4 ≤ x1 then
        fX2_firstWrong_117 K13 x0 x1 x2 x3 (x4 + (-1 : Int32)) x5 x6 h
      else
        some (x6 + (1 : Int32), h)
def fX2_firstWrong (t : Nat) (a1 : Int32) (h0 : hm_H) : Option (Int32 × hm_H) :=
  hm_loop (fun _ _ _ _ _ _ _ _ => none) (fX2_firstWrong_13) hm_fu (some t) a1 (0 : Int32) (0 : Int32) (0 : Int32) (0 : Int32) (0 : Int32) h0
set_option maxRecDepth 100000 in
set_option maxHeartbeats 8000000 in
theorem kX2_firstWrong (l : Launch) (D : va_G) (kA : Nat → ClassId) (t : Nat) (a1 : Int32) (h0 h' : hm_H) (r : Int32) (hf : fX2_firstWrong t a1 h0 = some (r, h')) : hm_C l yX2_firstWrong wsX2_firstWrong { frames := 2, cells := 0, slots := 0, locals := 40 } D vwCl kA (hm_ty kA) [.ref t, .int a1] h0 (some (.int r)) h' 0 0 := by
  refine Met.ofW (cc := cX2_firstWrong) (maxL := 8) (ret := (some .int)) (by decide) rfl ?_
  intro p e s m args below meth c s₁ B hml hv
  obtain ⟨hargs, hB⟩ := hv
  have hx := B.exec
  have hb := B.bytes
  have hr := B.returns
  have hts := atoms_spec (ws := wsX2_firstWrong) B.pre
  have hown : s.vm.findClass RX2 = some m.cls := findClass_of_methodNamed B.named
  have hlocks := B.notSynchronized
  have hK := hB.2
  have hI := hm_start hB
  have w1 := hts (.fieldLink RX2 15 "BlitBoard$Sprite" "size" "I") (by decide +kernel)
  have w2 := hts (.fieldLink RX2 9 "BlitBoard$Sprite" "bytes" "[I") (by decide +kernel)
  have hiX2 : ∀ w ∈ wsX20, w ∈ wsX2_firstWrong := by decide +kernel
  have B13 : ∀ (fu : Nat) (x0 : Option Nat) (x1 : Int32) (x2 : Int32) (x3 : Int32) (x4 : Int32) (x5 : Int32) (x6 : Int32) (h : hm_H), hm_loop (fun _ _ _ _ _ _ _ _ => none) (fX2_firstWrong_13) fu x0 x1 x2 x3 x4 x5 x6 h = some (r, h') → ∀ (H : Heap) (locs : List Loc) (ls : Array Slot), hm_I D vwCl kA (hm_A h0) s.heap h H locs → lv_has ls 8 [(0, va_rf x0), (1, .int x1), (2, .int x2), (3, .int x3), (4, .int x4), (5, .int x5), (6, .int x6)] → W p l e (headSpec wsX2_firstWrong { frames := 2, cells := 0, slots := 0, locals := 40 }).room s m args below meth c H locs 0 0 (MQ below (hm_Q D vwCl kA (hm_ty kA) h0 (some (.int r)) h') args s 0 0 (hm_A h0)) (F0 m 13 ls []) := by
    intro fu
    induction fu with
    | zero => intro x0 x1 x2 x3 x4 x5 x6 h hf; cases hf
    | succ fu ih13 =>
      rw [hm_loop_s]
      generalize hm_loop (fun _ _ _ _ _ _ _ _ => none) (fX2_firstWrong_13) fu = K13 at ih13 ⊢
      have B117 : ∀ (x0 : Option Nat) (x1 : Int32) (x2 : Int32) (x3 : Int32) (x4 : Int32) (x5 : Int32) (x6 : Int32) (h : hm_H), fX2_firstWrong_117 K13 x0 x1 x2 x3 x4 x5 x6 h = some (r, h') → ∀ (H : Heap) (locs : List Loc) (ls : Array Slot), hm_I D vwCl kA (hm_A h0) s.heap h H locs → lv_has ls 8 [(0, va_rf x0), (1, .int x1), (2, .int x2), (3, .int x3), (4, .int x4), (5, .int x5), (6, .int x6)] → W p l e (headSpec wsX2_firstWrong { frames := 2, cells := 0, slots := 0, locals := 40 }).room s m args below meth c H locs 0 0 (MQ below (hm_Q D vwCl kA (hm_ty kA) h0 (some (.int r)) h') args s 0 0 (hm_A h0)) (F0 m 117 ls []) := by
        intro x0 x1 x2 x3 x4 x5 x6 h hf H locs ls hI hl
        unfold fX2_firstWrong_117 at hf
        refine lv_iinc (v := x6 + (1 : Int32)) (lv' := [(6, .int (x6 + (1 : Int32))), (0, va_rf x0), (1, .int x1), (2, .int x2), (3, .int x3), (4, .int x4), (5, .int x5)]) hx hb dX2_firstWrong_117 hl (k := 6) rfl rfl (by decide) rfl (fun ls hl => ?_)
        refine lv_goto (tgt := 13) hx hb dX2_firstWrong_120 (by decide) ?_
        exact ih13 x0 x1 x2 x3 x4 x5 (x6 + (1 : Int32)) h hf _ _ _ hI (lv_sub hl [1, 2, 3, 4, 5, 6, 0] rfl)
      intro x0 x1 x2 x3 x4 x5 x6 h hf H locs ls hI hl
      unfold fX2_firstWrong_13 at hf
      refine lv_iload hx hb dX2_firstWrong_13 (lv_at hl 6 rfl) ?_
      refine hm_aload_n hx hb dX2_firstWrong_15 rfl (lv_at hl 0 rfl) ?_
      obtain ⟨v1, ev1, hf⟩ := hm_b_s hf
      refine hm_get (ci := 2) (k := 1) (C := RX2) (T := TX2) (N := 3) hx hb hts hiX2 hown hK hI rfl (by decide) w1 (hm_gi_s ev1) dX2_firstWrong_16 ?_
      refine lv_icmp_ge (tgt := 123) hx hb dX2_firstWrong_19 (by decide) (fun c => ?_) (fun c => ?_)
      · rw [if_pos c] at hf
        refine lv_iload hx hb dX2_firstWrong_123 (lv_at hl 5 rfl) ?_
        refine lv_if_eq (tgt := 137) hx hb dX2_firstWrong_125 (by decide) (fun c => ?_) (fun c => ?_)
        · rw [if_pos c] at hf
          refine lv_iconst (v := (0 : Int32)) hx hb dX2_firstWrong_137 (by decide) ?_
          exact hm_iret_e hf hx hb hr hlocks hK hI (Nat.le_of_ble_eq_true rfl) (Nat.le_of_ble_eq_true rfl) dX2_firstWrong_138
        · rw [if_neg c] at hf
          refine hm_aload_n hx hb dX2_firstWrong_128 rfl (lv_at hl 0 rfl) ?_
          obtain ⟨v2, ev2, hf⟩ := hm_b_s hf
          refine hm_get (ci := 2) (k := 1) (C := RX2) (T := TX2) (N := 3) hx hb hts hiX2 hown hK hI rfl (by decide) w1 (hm_gi_s ev2) dX2_firstWrong_129 ?_
          refine lv_iconst (v := (1 : Int32)) hx hb dX2_firstWrong_132 (by decide) ?_
          refine lv_iadd hx hb dX2_firstWrong_133 ?_
          refine lv_goto (tgt := 138) hx hb dX2_firstWrong_134 (by decide) ?_
          exact hm_iret_e hf hx hb hr hlocks hK hI (Nat.le_of_ble_eq_true rfl) (Nat.le_of_ble_eq_true rfl) dX2_firstWrong_138
      · rw [if_neg c] at hf
        refine hm_aload_n hx hb dX2_firstWrong_22 rfl (lv_at hl 0 rfl) ?_
        obtain ⟨v3, ev3, hf⟩ := hm_b_s hf
        refine hm_get (ci := 2) (k := 0) (C := RX2) (T := TX2) (N := 3) hx hb hts hiX2 hown hK hI rfl (by decide) w2 (hm_gq_s ev3) dX2_firstWrong_23 ?_
        refine lv_iload hx hb dX2_firstWrong_26 (lv_at hl 6 rfl) ?_
        obtain ⟨v4, ev4, hf⟩ := hm_b_s hf
        refine hm_iald (kd := 0) (t0 := 0) hx hb hK hI rfl ev4 dX2_firstWrong_28 ?_
        refine lv_istore (lv' := [(7, .int v4), (0, va_rf x0), (1, .int x1), (2, .int x2), (3, .int x3), (4, .int x4), (5, .int x5), (6, .int x6)]) hx hb dX2_firstWrong_29 hl (by decide) rfl (fun ls hl => ?_)
        refine lv_iload hx hb dX2_firstWrong_31 (lv_at hl 5 rfl) ?_
        refine lv_if_le (tgt := 53) hx hb dX2_firstWrong_33 (by decide) (fun c => ?_) (fun c => ?_)
        · rw [if_pos c] at hf
          refine lv_iload_n hx hb dX2_firstWrong_53 rfl (lv_at hl 3 rfl) ?_
          refine lv_bipush (v := (64 : Int32)) hx hb dX2_firstWrong_54 (by decide) ?_
          refine lv_icmp_ne (tgt := 64) hx hb dX2_firstWrong_56 (by decide) (fun c => ?_) (fun c => ?_)
          · rw [if_neg c] at hf
            refine lv_iload hx hb dX2_firstWrong_64 (lv_at hl 0 rfl) ?_
            refine lv_if_ne (tgt := 80) hx hb dX2_firstWrong_66 (by decide) (fun c => ?_) (fun c => ?_)
            · rw [if_neg c] at hf
              refine lv_iload_n hx hb dX2_firstWrong_80 rfl (lv_at hl 4 rfl) ?_
              refine lv_iload hx hb dX2_firstWrong_81 (lv_at hl 0 rfl) ?_
              obtain ⟨v6, h5, eh5, hf⟩ := hm_b2_s hf
              refine hm_cS (As := [.int v4]) (rest := [.int x3]) ⟨hx, hb, hml, hown, hts⟩ hK hI (kX2_stretchLength l D kA v4 h h5 v6 eh5) (va_cwS 1 hts gX2_firstWrong_X2_stretchLength rfl rfl rfl (by decide +kernel) ⟨Nat.le_of_ble_eq_true rfl, Nat.le_of_ble_eq_true rfl⟩) rfl hl.1 rfl (by simp only [List.map, hm_rf_cat, Value.category, List.sum_cons, List.sum_nil]; decide) dX2_firstWrong_83 ⟨Nat.le_of_ble_eq_true rfl, Nat.le_of_ble_eq_true rfl⟩ (fun H locs hI => ?_)
              refine lv_iadd hx hb dX2_firstWrong_86 ?_
              obtain ⟨v7, ev7, hf⟩ := hm_let_s hf
              refine hm_ti ev7 ?_
              refine lv_istore_n (lv' := [(3, .int v7), (7, .int v4), (0, va_rf x0), (1, .int x1), (2, .int x2), (4, .int x4), (5, .int x5), (6, .int x6)]) hx hb dX2_firstWrong_87 rfl hl (by decide) rfl (fun ls hl => ?_)
              refine lv_iload hx hb dX2_firstWrong_88 (lv_at hl 1 rfl) ?_
              obtain ⟨v9, h8, eh8, hf⟩ := hm_b2_s hf
              refine hm_cS (As := [.int v4]) (rest := []) ⟨hx, hb, hml, hown, hts⟩ hK hI (kX2_isStretch l D kA v4 h5 h8 v9 eh8) (va_cwS 1 hts gX2_firstWrong_X2_isStretch rfl rfl rfl (by decide +kernel) ⟨Nat.le_of_ble_eq_true rfl, Nat.le_of_ble_eq_true rfl⟩) rfl hl.1 rfl (by simp only [List.map, hm_rf_cat, Value.category, List.sum_cons, List.sum_nil]; decide) dX2_firstWrong_90 ⟨Nat.le_of_ble_eq_true rfl, Nat.le_of_ble_eq_true rfl⟩ (fun H locs hI => ?_)
              refine lv_if_eq (tgt := 102) hx hb dX2_firstWrong_93 (by decide) (fun c => ?_) (fun c => ?_)
              · rw [if_pos c] at hf
                refine lv_iload hx hb dX2_firstWrong_102 (lv_at hl 7 rfl) ?_
                refine lv_iconst (v := (1 : Int32)) hx hb dX2_firstWrong_104 (by decide) ?_
                refine lv_iadd hx hb dX2_firstWrong_105 ?_
                exact hm_iret_e hf hx hb hr hlocks hK hI (Nat.le_of_ble_eq_true rfl) (Nat.le_of_ble_eq_true rfl) dX2_firstWrong_106
              · rw [if_neg c] at hf
                refine lv_iload_n hx hb dX2_firstWrong_96 rfl (lv_at hl 0 rfl) ?_
                refine lv_bipush (v := (64 : Int32)) hx hb dX2_firstWrong_97 (by decide) ?_
                refine lv_icmp_le (tgt := 107) hx hb dX2_firstWrong_99 (by decide) (fun c => ?_) (fun c => ?_)
                · rw [if_pos c] at hf
                  refine lv_iload hx hb dX2_firstWrong_107 (lv_at hl 1 rfl) ?_
                  obtain ⟨v11, h10, eh10, hf⟩ := hm_b2_s hf
                  refine hm_cS (As := [.int v4]) (rest := []) ⟨hx, hb, hml, hown, hts⟩ hK hI (kX2_dotBytes l D kA v4 h8 h10 v11 eh10) (va_cwS 1 hts gX2_firstWrong_X2_dotBytes rfl rfl rfl (by decide +kernel) ⟨Nat.le_of_ble_eq_true rfl, Nat.le_of_ble_eq_true rfl⟩) rfl hl.1 rfl (by simp only [List.map, hm_rf_cat, Value.category, List.sum_cons, List.sum_nil]; decide) dX2_firstWrong_109 ⟨Nat.le_of_ble_eq_true rfl, Nat.le_of_ble_eq_true rfl⟩ (fun H locs hI => ?_)
                  refine lv_istore (lv' := [(4, .int v11), (3, .int v7), (7, .int v4), (0, va_rf x0), (1, .int x1), (2, .int x2), (5, .int x5), (6, .int x6)]) hx hb dX2_firstWrong_112 hl (by decide) rfl (fun ls hl => ?_)
                  refine lv_iconst (v := (1 : Int32)) hx hb dX2_firstWrong_114 (by decide) ?_
                  refine lv_istore (lv' := [(5, .int (1 : Int32)), (4, .int v11), (3, .int v7), (7, .int v4), (0, va_rf x0), (1, .int x1), (2, .int x2), (6, .int x6)]) hx hb dX2_firstWrong_115 hl (by decide) rfl (fun ls hl => ?_)
                  exact B117 x0 x1 x2 v7 v11 (1 : Int32) x6 h10 hf _ _ _ hI (lv_sub hl [4, 5, 6, 2, 1, 0, 7] rfl)
                · rw [if_neg c] at hf
                  refine lv_iload hx hb dX2_firstWrong_102 (lv_at hl 7 rfl) ?_
                  refine lv_iconst (v := (1 : Int32)) hx hb dX2_firstWrong_104 (by decide) ?_
                  refine lv_iadd hx hb dX2_firstWrong_105 ?_
                  exact hm_iret_e hf hx hb hr hlocks hK hI (Nat.le_of_ble_eq_true rfl) (Nat.le_of_ble_eq_true rfl) dX2_firstWrong_106
            · rw [if_pos c] at hf
              refine lv_iinc (v := x2 + (1 : Int32)) (lv' := [(2, .int (x2 + (1 : Int32))), (7, .int v4), (0, va_rf x0), (1, .int x1), (3, .int x3), (4, .int x4), (5, .int x5), (6, .int x6)]) hx hb dX2_firstWrong_69 hl (k := 3) rfl rfl (by decide) rfl (fun ls hl => ?_)
              refine lv_iconst (v := (0 : Int32)) hx hb dX2_firstWrong_72 (by decide) ?_
              refine lv_istore_n (lv' := [(3, .int (0 : Int32)), (2, .int (x2 + (1 : Int32))), (7, .int v4), (0, va_rf x0), (1, .int x1), (4, .int x4), (5, .int x5), (6, .int x6)]) hx hb dX2_firstWrong_73 rfl hl (by decide) rfl (fun ls hl => ?_)
              refine lv_iconst (v := (0 : Int32)) hx hb dX2_firstWrong_74 (by decide) ?_
              refine lv_istore (lv' := [(5, .int (0 : Int32)), (3, .int (0 : Int32)), (2, .int (x2 + (1 : Int32))), (7, .int v4), (0, va_rf x0), (1, .int x1), (4, .int x4), (6, .int x6)]) hx hb dX2_firstWrong_75 hl (by decide) rfl (fun ls hl => ?_)
              refine lv_goto (tgt := 117) hx hb dX2_firstWrong_77 (by decide) ?_
              exact B117 x0 x1 (x2 + (1 : Int32)) (0 : Int32) x4 (0 : Int32) x6 h hf _ _ _ hI (lv_sub hl [4, 5, 2, 1, 6, 0, 7] rfl)
          · rw [if_pos c] at hf
            refine lv_iload hx hb dX2_firstWrong_59 (lv_at hl 7 rfl) ?_
            refine lv_iconst (v := (1 : Int32)) hx hb dX2_firstWrong_61 (by decide) ?_
            refine lv_iadd hx hb dX2_firstWrong_62 ?_
            exact hm_iret_e hf hx hb hr hlocks hK hI (Nat.le_of_ble_eq_true rfl) (Nat.le_of_ble_eq_true rfl) dX2_firstWrong_63
        · rw [if_neg c] at hf
          refine lv_iload hx hb dX2_firstWrong_36 (lv_at hl 0 rfl) ?_
          refine lv_iload_n hx hb dX2_firstWrong_38 rfl (lv_at hl 2 rfl) ?_
          refine lv_icmp_le (tgt := 47) hx hb dX2_firstWrong_39 (by decide) (fun c => ?_) (fun c => ?_)
          · rw [if_pos c] at hf
            refine lv_iinc (v := x4 + (-1 : Int32)) (lv' := [(4, .int (x4 + (-1 : Int32))), (7, .int v4), (0, va_rf x0), (1, .int x1), (2, .int x2), (3, .int x3), (5, .int x5), (6, .int x6)]) hx hb dX2_firstWrong_47 hl (k := 5) rfl rfl (by decide) rfl (fun ls hl => ?_)
            refine lv_goto (tgt := 117) hx hb dX2_firstWrong_50 (by decide) ?_
            exact B117 x0 x1 x2 x3 (x4 + (-1 : Int32)) x5 x6 h hf _ _ _ hI (lv_sub hl [2, 3, 4, 5, 0, 6, 7] rfl)
          · rw [if_neg c] at hf
            refine lv_iload hx hb dX2_firstWrong_42 (lv_at hl 7 rfl) ?_
            refine lv_iconst (v := (1 : Int32)) hx hb dX2_firstWrong_44 (by decide) ?_
            refine lv_iadd hx hb dX2_firstWrong_45 ?_
            exact hm_iret_e hf hx hb hr hlocks hK hI (Nat.le_of_ble_eq_true rfl) (Nat.le_of_ble_eq_true rfl) dX2_firstWrong_46
  rw [show entryFrame m args 8 = entryFrame m ([.ref t, .int a1] : List Value).toArray 8 from by rw [hargs]]
  have hl := lv_entry ([.ref t, .int a1]) (n := 8) (Nat.le_of_ble_eq_true rfl)
  rw [lg_entry_eq]
  generalize (lg_sl ([.ref t, .int a1]) ++ List.replicate (8 - (lg_sl ([.ref t, .int a1])).length) Slot.unset).toArray = ls at hl ⊢
  have hl : lv_has ls 8 [(0, va_rf (some t)), (1, .int a1)] := hl
  unfold fX2_firstWrong at hf
  refine lv_iconst (v := (0 : Int32)) hx hb dX2_firstWrong_0 (by decide) ?_
  refine lv_istore_n (lv' := [(2, .int (0 : Int32)), (0, va_rf (some t)), (1, .int a1)]) hx hb dX2_firstWrong_1 rfl hl (by decide) rfl (fun ls hl => ?_)
  refine lv_iconst (v := (0 : Int32)) hx hb dX2_firstWrong_2 (by decide) ?_
  refine lv_istore_n (lv' := [(3, .int (0 : Int32)), (2, .int (0 : Int32)), (0, va_rf (some t)), (1, .int a1)]) hx hb dX2_firstWrong_3 rfl hl (by decide) rfl (fun ls hl => ?_)
  refine lv_iconst (v := (0 : Int32)) hx hb dX2_firstWrong_4 (by decide) ?_
  refine lv_istore (lv' := [(4, .int (0 : Int32)), (3, .int (0 : Int32)), (2, .int (0 : Int32)), (0, va_rf (some t)), (1, .int a1)]) hx hb dX2_firstWrong_5 hl (by decide) rfl (fun ls hl => ?_)
  refine lv_iconst (v := (0 : Int32)) hx hb dX2_firstWrong_7 (by decide) ?_
  refine lv_istore (lv' := [(5, .int (0 : Int32)), (4, .int (0 : Int32)), (3, .int (0 : Int32)), (2, .int (0 : Int32)), (0, va_rf (some t)), (1, .int a1)]) hx hb dX2_firstWrong_8 hl (by decide) rfl (fun ls hl => ?_)
  refine lv_iconst (v := (0 : Int32)) hx hb dX2_firstWrong_10 (by decide) ?_
  refine lv_istore (lv' := [(6, .int (0 : Int32)), (5, .int (0 : Int32)), (4, .int (0 : Int32)), (3, .int (0 : Int32)), (2, .int (0 : Int32)), (0, va_rf (some t)), (1, .int a1)]) hx hb dX2_firstWrong_11 hl (by decide) rfl (fun ls hl => ?_)
  exact B13 hm_fu (some t) a1 (0 : Int32) (0 : Int32) (0 : Int32) (0 : Int32) (0 : Int32) h0 hf _ _ _ hI (lv_sub hl [5, 6, 4, 3, 2, 1, 0] rfl)
/-! ==== X3_indexOf: BlitBoard$Surface.indexOf(JJ)I ==== -/
def fX3_indexOf (t : Nat) (a1 : Int64) (a2 : Int64) (h0 : hm_H) : Option (Int32 × hm_H) :=
  hm_b (hm_gq 3 2 h0 (some t)) fun v1 =>
  hm_b (hm_gi 0 2 h0 v1) fun v2 =>
  some (((a2 * ((v2).toInt64)) + a1).toInt32, h0)
set_option maxRecDepth 100000 in
set_option maxHeartbeats 8000000 in
theorem kX3_indexOf (l : Launch) (D : va_G) (kA : Nat → ClassId) (t : Nat) (a1 : Int64) (a2 : Int64) (h0 h' : hm_H) (r : Int32) (hf : fX3_indexOf t a1 a2 h0 = some (r, h')) : hm_C l yX3_indexOf wsX3_indexOf { frames := 0, cells := 0, slots := 0, locals := 0 } D vwCl kA (hm_ty kA) [.ref t, .long a1, .long a2] h0 (some (.int r)) h' 0 0 := by
  refine Met.ofW (cc := cX3_indexOf) (maxL := 5) (ret := (some .int)) (by decide) rfl ?_
  intro p e s m args below meth c s₁ B hml hv
  obtain ⟨hargs, hB⟩ := hv
  have hx := B.exec
  have hb := B.bytes
  have hr := B.returns
  have hts := atoms_spec (ws := wsX3_indexOf) B.pre
  have hown : s.vm.findClass RX3 = some m.cls := findClass_of_methodNamed B.named
  have hlocks := B.notSynchronized
  have hK := hB.2
  have hI := hm_start hB
  have w1 := hts (.fieldLink RX3 21 "BlitBoard$Surface" "whole" "LBlitBoard$Area;") (by decide +kernel)
  have w2 := hts (.fieldLink RX3 32 "BlitBoard$Area" "wide" "I") (by decide +kernel)
  have hiX3 : ∀ w ∈ wsX30, w ∈ wsX3_indexOf := by decide +kernel
  have hiX0 : ∀ w ∈ wsX00, w ∈ wsX3_indexOf := by decide +kernel
  rw [show entryFrame m args 5 = entryFrame m ([.ref t, .long a1, .long a2] : List Value).toArray 5 from by rw [hargs]]
  have hl := lv_entry ([.ref t, .long a1, .long a2]) (n := 5) (Nat.le_of_ble_eq_true rfl)
  rw [lg_entry_eq]
  generalize (lg_sl ([.ref t, .long a1, .long a2]) ++ List.replicate (5 - (lg_sl ([.ref t, .long a1, .long a2])).length) Slot.unset).toArray = ls at hl ⊢
  have hl : lv_has ls 5 [(0, va_rf (some t)), (1, .long a1), (3, .long a2)] := hl
  unfold fX3_indexOf at hf
  refine lv_lload_n hx hb dX3_indexOf_0 rfl (lv_at hl 2 rfl) ?_
  refine hm_aload_n hx hb dX3_indexOf_1 rfl (lv_at hl 0 rfl) ?_
  obtain ⟨v1, ev1, hf⟩ := hm_b_s hf
  refine hm_get (ci := 3) (k := 2) (C := RX3) (T := TX3) (N := 5) hx hb hts hiX3 hown hK hI rfl (by decide) w1 (hm_gq_s ev1) dX3_indexOf_2 ?_
  obtain ⟨v2, ev2, hf⟩ := hm_b_s hf
  refine hm_get (ci := 0) (k := 2) (C := RX0) (T := TX0) (N := 4) hx hb hts hiX0 hown hK hI rfl (by decide) w2 (hm_gi_s ev2) dX3_indexOf_5 ?_
  refine lv_i2l (v := (v2).toInt64) hx hb dX3_indexOf_8 rfl ?_
  refine lv_lmul hx hb dX3_indexOf_9 ?_
  refine lv_lload_n hx hb dX3_indexOf_10 rfl (lv_at hl 1 rfl) ?_
  refine lv_ladd hx hb dX3_indexOf_11 ?_
  refine lv_l2i (v := ((a2 * ((v2).toInt64)) + a1).toInt32) hx hb dX3_indexOf_12 rfl ?_
  exact hm_iret_e hf hx hb hr hlocks hK hI (Nat.le_of_ble_eq_true rfl) (Nat.le_of_ble_eq_true rfl) dX3_indexOf_13
/-! ==== X3_putClipped: BlitBoard$Surface.putClipped(JJI)V ==== -/
def fX3_putClipped (t : Nat) (a1 : Int64) (a2 : Int64) (a3 : Int32) (h0 : hm_H) : Option hm_H :=
  hm_b (hm_gq 3 4 h0 (some t)) fun v1 =>
  hm_b (hm_rc 0 h0 v1) fun b3 =>
  hm_b2 (fX0_holds b3 a1 a2 h0) fun v4 h2 =>
  if v4 = 0 then
    some h2
  else
    hm_b (hm_gq 3 3 h2 (some t)) fun v5 =>
    hm_b (hm_rc 3 h2 (some t)) fun b7 =>
    hm_b2 (fX3_indexOf b7 a1 a2 h2) fun v8 h6 =>
    hm_b (hm_si 0 h6 v5 v8 a3) fun h9 =>
    some h9
set_option maxRecDepth 100000 in
set_option maxHeartbeats 8000000 in
theorem kX3_putClipped (l : Launch) (D : va_G) (kA : Nat → ClassId) (t : Nat) (a1 : Int64) (a2 : Int64) (a3 : Int32) (h0 h' : hm_H) (hf : fX3_putClipped t a1 a2 a3 h0 = some h') : hm_C l yX3_putClipped wsX3_putClipped { frames := 1, cells := 0, slots := 0, locals := 24 } D vwCl kA (hm_ty kA) [.ref t, .long a1, .long a2, .int a3] h0 none h' 0 0 := by
  refine Met.ofW (cc := cX3_putClipped) (maxL := 6) (ret := none) (by decide) rfl ?_
  intro p e s m args below meth c s₁ B hml hv
  obtain ⟨hargs, hB⟩ := hv
  have hx := B.exec
  have hb := B.bytes
  have hr := B.returns
  have hts := atoms_spec (ws := wsX3_putClipped) B.pre
  have hown : s.vm.findClass RX3 = some m.cls := findClass_of_methodNamed B.named
  have hlocks := B.notSynchronized
  have hK := hB.2
  have hI := hm_start hB
  have w1 := hts (.fieldLink RX3 29 "BlitBoard$Surface" "clip" "LBlitBoard$Area;") (by decide +kernel)
  have w2 := hts (.fieldLink RX3 25 "BlitBoard$Surface" "dots" "[I") (by decide +kernel)
  have hiX3 : ∀ w ∈ wsX30, w ∈ wsX3_putClipped := by decide +kernel
  rw [show entryFrame m args 6 = entryFrame m ([.ref t, .long a1, .long a2, .int a3] : List Value).toArray 6 from by rw [hargs]]
  have hl := lv_entry ([.ref t, .long a1, .long a2, .int a3]) (n := 6) (Nat.le_of_ble_eq_true rfl)
  rw [lg_entry_eq]
  generalize (lg_sl ([.ref t, .long a1, .long a2, .int a3]) ++ List.replicate (6 - (lg_sl ([.ref t, .long a1, .long a2, .int a3])).length) Slot.unset).toArray = ls at hl ⊢
  have hl : lv_has ls 6 [(0, va_rf (some t)), (1, .long a1), (3, .long a2), (5, .int a3)] := hl
  unfold fX3_putClipped at hf
  refine hm_aload_n hx hb dX3_putClipped_0 rfl (lv_at hl 0 rfl) ?_
  obtain ⟨v1, ev1, hf⟩ := hm_b_s hf
  refine hm_get (ci := 3) (k := 4) (C := RX3) (T := TX3) (N := 5) hx hb hts hiX3 hown hK hI rfl (by decide) w1 (hm_gq_s ev1) dX3_putClipped_1 ?_
  refine lv_lload_n hx hb dX3_putClipped_4 rfl (lv_at hl 1 rfl) ?_
  refine lv_lload_n hx hb dX3_putClipped_5 rfl (lv_at hl 2 rfl) ?_
  obtain ⟨b3, eb3, hf⟩ := hm_b_s hf
  obtain ⟨v4, h2, eh2, hf⟩ := hm_b2_s hf
  refine hm_cV (As := [.long a1, .long a2]) (rest := []) ⟨hx, hb, hml, hown, hts⟩ hK hI eb3 rfl rfl (kX0_holds l D kA b3 a1 a2 h0 h2 v4 eh2) (cwV 2 hts gX3_putClipped_X0_holds rfl rfl rfl (by decide +kernel) ⟨Nat.le_of_ble_eq_true rfl, Nat.le_of_ble_eq_true rfl⟩) rfl hl.1 rfl (by simp only [List.map, hm_rf_cat, Value.category, List.sum_cons, List.sum_nil]; decide) dX3_putClipped_6 ⟨Nat.le_of_ble_eq_true rfl, Nat.le_of_ble_eq_true rfl⟩ (fun H locs hI => ?_)
  refine lv_if_eq (tgt := 25) hx hb dX3_putClipped_9 (by decide) (fun c => ?_) (fun c => ?_)
  · rw [if_pos c] at hf
    exact hm_vret_e hf hx hb hr hlocks hK hI (Nat.le_of_ble_eq_true rfl) (Nat.le_of_ble_eq_true rfl) dX3_putClipped_25
  · rw [if_neg c] at hf
    refine hm_aload_n hx hb dX3_putClipped_12 rfl (lv_at hl 0 rfl) ?_
    obtain ⟨v5, ev5, hf⟩ := hm_b_s hf
    refine hm_get (ci := 3) (k := 3) (C := RX3) (T := TX3) (N := 5) hx hb hts hiX3 hown hK hI rfl (by decide) w2 (hm_gq_s ev5) dX3_putClipped_13 ?_
    refine hm_aload_n hx hb dX3_putClipped_16 rfl (lv_at hl 0 rfl) ?_
    refine lv_lload_n hx hb dX3_putClipped_17 rfl (lv_at hl 1 rfl) ?_
    refine lv_lload_n hx hb dX3_putClipped_18 rfl (lv_at hl 2 rfl) ?_
    obtain ⟨b7, eb7, hf⟩ := hm_b_s hf
    obtain ⟨v8, h6, eh6, hf⟩ := hm_b2_s hf
    refine hm_cV (As := [.long a1, .long a2]) (rest := [va_rf v5]) ⟨hx, hb, hml, hown, hts⟩ hK hI eb7 rfl rfl (kX3_indexOf l D kA b7 a1 a2 h2 h6 v8 eh6) (cwV 2 hts gX3_putClipped_X3_indexOf rfl rfl rfl (by decide +kernel) ⟨Nat.le_of_ble_eq_true rfl, Nat.le_of_ble_eq_true rfl⟩) rfl hl.1 rfl (by simp only [List.map, hm_rf_cat, Value.category, List.sum_cons, List.sum_nil]; decide) dX3_putClipped_19 ⟨Nat.le_of_ble_eq_true rfl, Nat.le_of_ble_eq_true rfl⟩ (fun H locs hI => ?_)
    refine lv_iload hx hb dX3_putClipped_22 (lv_at hl 3 rfl) ?_
    obtain ⟨h9, eh9, hf⟩ := hm_b_s hf
    refine hm_iast (kd := 0) (t0 := 0) hx hb hK hI rfl eh9 dX3_putClipped_24 (fun H locs hI => ?_)
    exact hm_vret_e hf hx hb hr hlocks hK hI (Nat.le_of_ble_eq_true rfl) (Nat.le_of_ble_eq_true rfl) dX3_putClipped_25
/-! ==== X2_paintDots: BlitBoard$Sprite.paintDots(LBlitBoard$Surface;JJII)V ==== -/
def fX2_paintDots_3 (K3 : Option Nat → Int64 → Int64 → Int32 → Int32 → Int32 → hm_H → Option hm_H) (x0 : Option Nat) (x1 : Int64) (x3 : Int64) (x5 : Int32) (x6 : Int32) (x7 : Int32) (h : hm_H) : Option hm_H :=
  if x5 ≤ x7 then
    some h
  else
    hm_b (hm_rc 3 h x0) fun b2 =>
    hm_b (fX3_putClipped b2 (x1 + ((x7).toInt64)) x3 x6 h) fun h1 =>
    K3 x0 x1 x3 x5 x6 (x7 + (1 : Int32)) h1
def fX2_paintDots (a1 : Option Nat) (a2 : Int64) (a3 : Int64) (a4 : Int32) (a5 : Int32) (h0 : hm_H) : Option hm_H :=
  hm_loop (fun _ _ _ _ _ _ _ => none) (fX2_paintDots_3) hm_fu a1 a2 a3 a4 a5 (0 : Int32) h0
set_option maxRecDepth 100000 in
set_option maxHeartbeats 8000000 in
theorem kX2_paintDots (l : Launch) (D : va_G) (kA : Nat → ClassId) (a1 : Option Nat) (a2 : Int64) (a3 : Int64) (a4 : Int32) (a5 : Int32) (h0 h' : hm_H) (hf : fX2_paintDots a1 a2 a3 a4 a5 h0 = some h') : hm_C l yX2_paintDots wsX2_paintDots { frames := 2, cells := 0, slots := 0, locals := 49 } D vwCl kA (hm_ty kA) [va_rf a1, .long a2, .long a3, .int a4, .int a5] h0 none h' 0 0 := by
  refine Met.ofW (cc := cX2_paintDots) (maxL := 8) (ret := none) (by decide) rfl ?_
  intro p e s m args below meth c s₁ B hml hv
  obtain ⟨hargs, hB⟩ := hv
  have hx := B.exec
  have hb := B.bytes
  have hr := B.returns
  have hts := atoms_spec (ws := wsX2_paintDots) B.pre
  have hown : s.vm.findClass RX2 = some m.cls := findClass_of_methodNamed B.named
  have hlocks := B.notSynchronized
  have hK := hB.2
  have hI := hm_start hB
  have B3 : ∀ (fu : Nat) (x0 : Option Nat) (x1 : Int64) (x3 : Int64) (x5 : Int32) (x6 : Int32) (x7 : Int32) (h : hm_H), hm_loop (fun _ _ _ _ _ _ _ => none) (fX2_paintDots_3) fu x0 x1 x3 x5 x6 x7 h = some h' → ∀ (H : Heap) (locs : List Loc) (ls : Array Slot), hm_I D vwCl kA (hm_A h0) s.heap h H locs → lv_has ls 8 [(0, va_rf x0), (1, .long x1), (3, .long x3), (5, .int x5), (6, .int x6), (7, .int x7)] → W p l e (headSpec wsX2_paintDots { frames := 2, cells := 0, slots := 0, locals := 49 }).room s m args below meth c H locs 0 0 (MQ below (hm_Q D vwCl kA (hm_ty kA) h0 none h') args s 0 0 (hm_A h0)) (F0 m 3 ls []) := by
    intro fu
    induction fu with
    | zero => intro x0 x1 x3 x5 x6 x7 h hf; cases hf
    | succ fu ih3 =>
      rw [hm_loop_s]
      generalize hm_loop (fun _ _ _ _ _ _ _ => none) (fX2_paintDots_3) fu = K3 at ih3 ⊢
      intro x0 x1 x3 x5 x6 x7 h hf H locs ls hI hl
      unfold fX2_paintDots_3 at hf
      refine lv_iload hx hb dX2_paintDots_3 (lv_at hl 5 rfl) ?_
      refine lv_iload hx hb dX2_paintDots_5 (lv_at hl 3 rfl) ?_
      refine lv_icmp_ge (tgt := 28) hx hb dX2_paintDots_7 (by decide) (fun c => ?_) (fun c => ?_)
      · rw [if_pos c] at hf
        exact hm_vret_e hf hx hb hr hlocks hK hI (Nat.le_of_ble_eq_true rfl) (Nat.le_of_ble_eq_true rfl) dX2_paintDots_28
      · rw [if_neg c] at hf
        refine hm_aload_n hx hb dX2_paintDots_10 rfl (lv_at hl 0 rfl) ?_
        refine lv_lload_n hx hb dX2_paintDots_11 rfl (lv_at hl 1 rfl) ?_
        refine lv_iload hx hb dX2_paintDots_12 (lv_at hl 5 rfl) ?_
        refine lv_i2l (v := (x7).toInt64) hx hb dX2_paintDots_14 rfl ?_
        refine lv_ladd hx hb dX2_paintDots_15 ?_
        refine lv_lload_n hx hb dX2_paintDots_16 rfl (lv_at hl 2 rfl) ?_
        refine lv_iload hx hb dX2_paintDots_17 (lv_at hl 4 rfl) ?_
        obtain ⟨b2, eb2, hf⟩ := hm_b_s hf
        obtain ⟨h1, eh1, hf⟩ := hm_b_s hf
        refine hm_cV (As := [.long (x1 + ((x7).toInt64)), .long x3, .int x6]) (rest := []) ⟨hx, hb, hml, hown, hts⟩ hK hI eb2 rfl rfl (kX3_putClipped l D kA b2 (x1 + ((x7).toInt64)) x3 x6 h h1 eh1) (cwV 3 hts gX2_paintDots_X3_putClipped rfl rfl rfl (by decide +kernel) ⟨Nat.le_of_ble_eq_true rfl, Nat.le_of_ble_eq_true rfl⟩) rfl hl.1 rfl (by simp only [List.map, hm_rf_cat, Value.category, List.sum_cons, List.sum_nil]; decide) dX2_paintDots_19 ⟨Nat.le_of_ble_eq_true rfl, Nat.le_of_ble_eq_true rfl⟩ (fun H locs hI => ?_)
        refine W.eq (g2 := F0 m 22 ls []) rfl ?_
        refine lv_iinc (v := x7 + (1 : Int32)) (lv' := [(7, .int (x7 + (1 : Int32))), (0, va_rf x0), (1, .long x1), (3, .long x3), (5, .int x5), (6, .int x6)]) hx hb dX2_paintDots_22 hl (k := 5) rfl rfl (by decide) rfl (fun ls hl => ?_)
        refine lv_goto (tgt := 3) hx hb dX2_paintDots_25 (by decide) ?_
        exact ih3 x0 x1 x3 x5 x6 (x7 + (1 : Int32)) h1 hf _ _ _ hI (lv_sub hl [1, 2, 3, 4, 5, 0] rfl)
  rw [show entryFrame m args 8 = entryFrame m ([va_rf a1, .long a2, .long a3, .int a4, .int a5] : List Value).toArray 8 from by rw [hargs]]
  have hl := lv_entry ([va_rf a1, .long a2, .long a3, .int a4, .int a5]) (n := 8) (Nat.le_of_ble_eq_true rfl)
  rw [lg_entry_eq]
  generalize (lg_sl ([va_rf a1, .long a2, .long a3, .int a4, .int a5]) ++ List.replicate (8 - (lg_sl ([va_rf a1, .long a2, .long a3, .int a4, .int a5])).length) Slot.unset).toArray = ls at hl ⊢
  have hl : lv_has ls 8 [(0, va_rf a1), (1, .long a2), (3, .long a3), (5, .int a4), (6, .int a5)] := hl
  unfold fX2_paintDots at hf
  refine lv_iconst (v := (0 : Int32)) hx hb dX2_paintDots_0 (by decide) ?_
  refine lv_istore (lv' := [(7, .int (0 : Int32)), (0, va_rf a1), (1, .long a2), (3, .long a3), (5, .int a4), (6, .int a5)]) hx hb dX2_paintDots_1 hl (by decide) rfl (fun ls hl => ?_)
  exact B3 hm_fu a1 a2 a3 a4 a5 (0 : Int32) h0 hf _ _ _ hI (lv_sub hl [1, 2, 3, 4, 5, 0] rfl)
/-! ==== X2_paint: BlitBoard$Sprite.paint(LBlitBoard$Surface;II)V ==== -/
def fX2_paint_128 (K15 : Option Nat → Option Nat → Int32 → Int32 → Int32 → Int32 → Int32 → Int32 → Int32 → hm_H → Option hm_H) (x0 : Option Nat) (x1 : Option Nat) (x2 : Int32) (x3 : Int32) (x4 : Int32) (x5 : Int32) (x6 : Int32) (x7 : Int32) (x8 : Int32) (h : hm_H) : Option hm_H :=
  K15 x0 x1 x2 x3 x4 x5 x6 x7 (x8 + (1 : Int32)) h
def fX2_paint_126 (K15 : Option Nat → Option Nat → Int32 → Int32 → Int32 → Int32 → Int32 → Int32 → Int32 → hm_H → Option hm_H) (x0 : Option Nat) (x1 : Option Nat) (x2 : Int32) (x3 : Int32) (x4 : Int32) (x5 : Int32) (x6 : Int32) (x8 : Int32) (s0 : Int32) (h : hm_H) : Option hm_H :=
  fX2_paint_128 K15 x0 x1 x2 x3 x4 x5 x6 s0 x8 h
def fX2_paint_15 (K15 : Option Nat → Option Nat → Int32 → Int32 → Int32 → Int32 → Int32 → Int32 → Int32 → hm_H → Option hm_H) (x0 : Option Nat) (x1 : Option Nat) (x2 : Int32) (x3 : Int32) (x4 : Int32) (x5 : Int32) (x6 : Int32) (x7 : Int32) (x8 : Int32) (h : hm_H) : Option hm_H :=
  hm_b (hm_gi 2 1 h x0) fun v1 =>
  if v1 ≤ x8 then
    some h
  else
    hm_b (hm_gq 2 0 h x0) fun v2 =>
    hm_b (hm_ai 0 h v2 x8) fun v3 =>
    if x6 ≤ 0 then
      if v3 = 0 then
        fX2_paint_128 K15 x0 x1 x2 x3 (x4 + (1 : Int32)) (0 : Int32) x6 x7 x8 h
      else
        if (64 : Int32) ≤ v3 then
          hm_b2 (fX2_dotBytes v3 h) fun v5 h4 =>
          if (128 : Int32) ≤ v3 then
            hm_b2 (fX2_stretchLength v3 h4) fun v7 h6 =>
            fX2_paint_126 K15 x0 x1 x2 x3 x4 x5 v5 x8 v7 h6
          else
            fX2_paint_126 K15 x0 x1 x2 x3 x4 x5 v5 x8 (1 : Int32) h4
        else
          hm_let (x5 + v3) fun v8 =>
          fX2_paint_128 K15 x0 x1 x2 x3 x4 v8 x6 x7 x8 h
    else
      hm_b (fX2_paintDots x1 (((x2).toInt64) + ((x5).toInt64)) (((x3).toInt64) + ((x4).toInt64)) x7 v3 h) fun h9 =>
      hm_let (x5 + x7) fun v10 =>
      fX2_paint_128 K15 x0 x1 x2 x3 x4 v10 (x6 + (-1 : Int32)) x7 x8 h9
def fX2_paint (t : Nat) (a1 : Option Nat) (a2 : Int32) (a3 : Int32) (h0 : hm_H) : Option hm_H :=
  hm_loop (fun _ _ _ _ _ _ _ _ _ _ => none) (fX2_paint_15) hm_fu (some t) a1 a2 a3 (0 : Int32) (0 : Int32) (0 : Int32) (0 : Int32) (0 : Int32) h0
set_option maxRecDepth 100000 in
set_option maxHeartbeats 8000000 in
theorem kX2_paint (l : Launch) (D : va_G) (kA : Nat → ClassId) (t : Nat) (a1 : Option Nat) (a2 : Int32) (a3 : Int32) (h0 h' : hm_H) (hf : fX2_paint t a1 a2 a3 h0 = some h') : hm_C l yX2_paint wsX2_paint { frames := 3, cells := 0, slots := 0, locals := 76 } D vwCl kA (hm_ty kA) [.ref t, va_rf a1, .int a2, .int a3] h0 none h' 0 0 := by
  refine Met.ofW (cc := cX2_paint) (maxL := 10) (ret := none) (by decide) rfl ?_
  intro p e s m args below meth c s₁ B hml hv
  obtain ⟨hargs, hB⟩ := hv
  have hx := B.exec
  have hb := B.bytes
  have hr := B.returns
  have hts := atoms_spec (ws := wsX2_paint) B.pre
  have hown : s.vm.findClass RX2 = some m.cls := findClass_of_methodNamed B.named
  have hlocks := B.notSynchronized
  have hK := hB.2
  have hI := hm_start hB
  have w1 := hts (.fieldLink RX2 15 "BlitBoard$Sprite" "size" "I") (by decide +kernel)
  have w2 := hts (.fieldLink RX2 9 "BlitBoard$Sprite" "bytes" "[I") (by decide +kernel)
  have hiX2 : ∀ w ∈ wsX20, w ∈ wsX2_paint := by decide +kernel
  have B15 : ∀ (fu : Nat) (x0 : Option Nat) (x1 : Option Nat) (x2 : Int32) (x3 : Int32) (x4 : Int32) (x5 : Int32) (x6 : Int32) (x7 : Int32) (x8 : Int32) (h : hm_H), hm_loop (fun _ _ _ _ _ _ _ _ _ _ => none) (fX2_paint_15) fu x0 x1 x2 x3 x4 x5 x6 x7 x8 h = some h' → ∀ (H : Heap) (locs : List Loc) (ls : Array Slot), hm_I D vwCl kA (hm_A h0) s.heap h H locs → lv_has ls 10 [(0, va_rf x0), (1, va_rf x1), (2, .int x2), (3, .int x3), (4, .int x4), (5, .int x5), (6, .int x6), (7, .int x7), (8, .int x8)] → W p l e (headSpec wsX2_paint { frames := 3, cells := 0, slots := 0, locals := 76 }).room s m args below meth c H locs 0 0 (MQ below (hm_Q D vwCl kA (hm_ty kA) h0 none h') args s 0 0 (hm_A h0)) (F0 m 15 ls []) := by
    intro fu
    induction fu with
    | zero => intro x0 x1 x2 x3 x4 x5 x6 x7 x8 h hf; cases hf
    | succ fu ih15 =>
      rw [hm_loop_s]
      generalize hm_loop (fun _ _ _ _ _ _ _ _ _ _ => none) (fX2_paint_15) fu = K15 at ih15 ⊢
      have B128 : ∀ (x0 : Option Nat) (x1 : Option Nat) (x2 : Int32) (x3 : Int32) (x4 : Int32) (x5 : Int32) (x6 : Int32) (x7 : Int32) (x8 : Int32) (h : hm_H), fX2_paint_128 K15 x0 x1 x2 x3 x4 x5 x6 x7 x8 h = some h' → ∀ (H : Heap) (locs : List Loc) (ls : Array Slot), hm_I D vwCl kA (hm_A h0) s.heap h H locs → lv_has ls 10 [(0, va_rf x0), (1, va_rf x1), (2, .int x2), (3, .int x3), (4, .int x4), (5, .int x5), (6, .int x6), (7, .int x7), (8, .int x8)] → W p l e (headSpec wsX2_paint { frames := 3, cells := 0, slots := 0, locals := 76 }).room s m args below meth c H locs 0 0 (MQ below (hm_Q D vwCl kA (hm_ty kA) h0 none h') args s 0 0 (hm_A h0)) (F0 m 128 ls []) := by
        intro x0 x1 x2 x3 x4 x5 x6 x7 x8 h hf H locs ls hI hl
        unfold fX2_paint_128 at hf
        refine lv_iinc (v := x8 + (1 : Int32)) (lv' := [(8, .int (x8 + (1 : Int32))), (0, va_rf x0), (1, va_rf x1), (2, .int x2), (3, .int x3), (4, .int x4), (5, .int x5), (6, .int x6), (7, .int x7)]) hx hb dX2_paint_128 hl (k := 8) rfl rfl (by decide) rfl (fun ls hl => ?_)
        refine lv_goto (tgt := 15) hx hb dX2_paint_131 (by decide) ?_
        exact ih15 x0 x1 x2 x3 x4 x5 x6 x7 (x8 + (1 : Int32)) h hf _ _ _ hI (lv_sub hl [1, 2, 3, 4, 5, 6, 7, 8, 0] rfl)
      have B126 : ∀ (x0 : Option Nat) (x1 : Option Nat) (x2 : Int32) (x3 : Int32) (x4 : Int32) (x5 : Int32) (x6 : Int32) (x8 : Int32) (s0 : Int32) (h : hm_H), fX2_paint_126 K15 x0 x1 x2 x3 x4 x5 x6 x8 s0 h = some h' → ∀ (H : Heap) (locs : List Loc) (ls : Array Slot), hm_I D vwCl kA (hm_A h0) s.heap h H locs → lv_has ls 10 [(0, va_rf x0), (1, va_rf x1), (2, .int x2), (3, .int x3), (4, .int x4), (5, .int x5), (6, .int x6), (8, .int x8)] → W p l e (headSpec wsX2_paint { frames := 3, cells := 0, slots := 0, locals := 76 }).room s m args below meth c H locs 0 0 (MQ below (hm_Q D vwCl kA (hm_ty kA) h0 none h') args s 0 0 (hm_A h0)) (F0 m 126 ls [.int s0]) := by
        intro x0 x1 x2 x3 x4 x5 x6 x8 s0 h hf H locs ls hI hl
        unfold fX2_paint_126 at hf
        refine lv_istore (lv' := [(7, .int s0), (0, va_rf x0), (1, va_rf x1), (2, .int x2), (3, .int x3), (4, .int x4), (5, .int x5), (6, .int x6), (8, .int x8)]) hx hb dX2_paint_126 hl (by decide) rfl (fun ls hl => ?_)
        exact B128 x0 x1 x2 x3 x4 x5 x6 s0 x8 h hf _ _ _ hI (lv_sub hl [1, 2, 3, 4, 5, 6, 7, 0, 8] rfl)
      intro x0 x1 x2 x3 x4 x5 x6 x7 x8 h hf H locs ls hI hl
      unfold fX2_paint_15 at hf
      refine lv_iload hx hb dX2_paint_15 (lv_at hl 8 rfl) ?_
      refine hm_aload_n hx hb dX2_paint_17 rfl (lv_at hl 0 rfl) ?_
      obtain ⟨v1, ev1, hf⟩ := hm_b_s hf
      refine hm_get (ci := 2) (k := 1) (C := RX2) (T := TX2) (N := 3) hx hb hts hiX2 hown hK hI rfl (by decide) w1 (hm_gi_s ev1) dX2_paint_18 ?_
      refine lv_icmp_ge (tgt := 134) hx hb dX2_paint_21 (by decide) (fun c => ?_) (fun c => ?_)
      · rw [if_pos c] at hf
        exact hm_vret_e hf hx hb hr hlocks hK hI (Nat.le_of_ble_eq_true rfl) (Nat.le_of_ble_eq_true rfl) dX2_paint_134
      · rw [if_neg c] at hf
        refine hm_aload_n hx hb dX2_paint_24 rfl (lv_at hl 0 rfl) ?_
        obtain ⟨v2, ev2, hf⟩ := hm_b_s hf
        refine hm_get (ci := 2) (k := 0) (C := RX2) (T := TX2) (N := 3) hx hb hts hiX2 hown hK hI rfl (by decide) w2 (hm_gq_s ev2) dX2_paint_25 ?_
        refine lv_iload hx hb dX2_paint_28 (lv_at hl 8 rfl) ?_
        obtain ⟨v3, ev3, hf⟩ := hm_b_s hf
        refine hm_iald (kd := 0) (t0 := 0) hx hb hK hI rfl ev3 dX2_paint_30 ?_
        refine lv_istore (lv' := [(9, .int v3), (0, va_rf x0), (1, va_rf x1), (2, .int x2), (3, .int x3), (4, .int x4), (5, .int x5), (6, .int x6), (7, .int x7), (8, .int x8)]) hx hb dX2_paint_31 hl (by decide) rfl (fun ls hl => ?_)
        refine lv_iload hx hb dX2_paint_33 (lv_at hl 7 rfl) ?_
        refine lv_if_le (tgt := 71) hx hb dX2_paint_35 (by decide) (fun c => ?_) (fun c => ?_)
        · rw [if_pos c] at hf
          refine lv_iload hx hb dX2_paint_71 (lv_at hl 0 rfl) ?_
          refine lv_if_ne (tgt := 85) hx hb dX2_paint_73 (by decide) (fun c => ?_) (fun c => ?_)
          · rw [if_neg c] at hf
            refine lv_iload hx hb dX2_paint_85 (lv_at hl 0 rfl) ?_
            refine lv_bipush (v := (64 : Int32)) hx hb dX2_paint_87 (by decide) ?_
            refine lv_icmp_ge (tgt := 102) hx hb dX2_paint_89 (by decide) (fun c => ?_) (fun c => ?_)
            · rw [if_pos c] at hf
              refine lv_iload hx hb dX2_paint_102 (lv_at hl 0 rfl) ?_
              obtain ⟨v5, h4, eh4, hf⟩ := hm_b2_s hf
              refine hm_cS (As := [.int v3]) (rest := []) ⟨hx, hb, hml, hown, hts⟩ hK hI (kX2_dotBytes l D kA v3 h h4 v5 eh4) (va_cwS 1 hts gX2_paint_X2_dotBytes rfl rfl rfl (by decide +kernel) ⟨Nat.le_of_ble_eq_true rfl, Nat.le_of_ble_eq_true rfl⟩) rfl hl.1 rfl (by simp only [List.map, hm_rf_cat, Value.category, List.sum_cons, List.sum_nil]; decide) dX2_paint_104 ⟨Nat.le_of_ble_eq_true rfl, Nat.le_of_ble_eq_true rfl⟩ (fun H locs hI => ?_)
              refine lv_istore (lv' := [(6, .int v5), (9, .int v3), (0, va_rf x0), (1, va_rf x1), (2, .int x2), (3, .int x3), (4, .int x4), (5, .int x5), (7, .int x7), (8, .int x8)]) hx hb dX2_paint_107 hl (by decide) rfl (fun ls hl => ?_)
              refine lv_iload hx hb dX2_paint_109 (lv_at hl 1 rfl) ?_
              refine lv_sipush (v := (128 : Int32)) hx hb dX2_paint_111 (by decide) ?_
              refine lv_icmp_ge (tgt := 121) hx hb dX2_paint_114 (by decide) (fun c => ?_) (fun c => ?_)
              · rw [if_pos c] at hf
                refine lv_iload hx hb dX2_paint_121 (lv_at hl 1 rfl) ?_
                obtain ⟨v7, h6, eh6, hf⟩ := hm_b2_s hf
                refine hm_cS (As := [.int v3]) (rest := []) ⟨hx, hb, hml, hown, hts⟩ hK hI (kX2_stretchLength l D kA v3 h4 h6 v7 eh6) (va_cwS 1 hts gX2_paint_X2_stretchLength rfl rfl rfl (by decide +kernel) ⟨Nat.le_of_ble_eq_true rfl, Nat.le_of_ble_eq_true rfl⟩) rfl hl.1 rfl (by simp only [List.map, hm_rf_cat, Value.category, List.sum_cons, List.sum_nil]; decide) dX2_paint_123 ⟨Nat.le_of_ble_eq_true rfl, Nat.le_of_ble_eq_true rfl⟩ (fun H locs hI => ?_)
                exact B126 x0 x1 x2 x3 x4 x5 v5 x8 v7 h6 hf _ _ _ hI (lv_sub hl [2, 3, 4, 5, 6, 7, 0, 9] rfl)
              · rw [if_neg c] at hf
                refine lv_iconst (v := (1 : Int32)) hx hb dX2_paint_117 (by decide) ?_
                refine lv_goto (tgt := 126) hx hb dX2_paint_118 (by decide) ?_
                exact B126 x0 x1 x2 x3 x4 x5 v5 x8 (1 : Int32) h4 hf _ _ _ hI (lv_sub hl [2, 3, 4, 5, 6, 7, 0, 9] rfl)
            · rw [if_neg c] at hf
              refine lv_iload hx hb dX2_paint_92 (lv_at hl 6 rfl) ?_
              refine lv_iload hx hb dX2_paint_94 (lv_at hl 0 rfl) ?_
              refine lv_iadd hx hb dX2_paint_96 ?_
              obtain ⟨v8, ev8, hf⟩ := hm_let_s hf
              refine hm_ti ev8 ?_
              refine lv_istore (lv' := [(5, .int v8), (9, .int v3), (0, va_rf x0), (1, va_rf x1), (2, .int x2), (3, .int x3), (4, .int x4), (6, .int x6), (7, .int x7), (8, .int x8)]) hx hb dX2_paint_97 hl (by decide) rfl (fun ls hl => ?_)
              refine lv_goto (tgt := 128) hx hb dX2_paint_99 (by decide) ?_
              exact B128 x0 x1 x2 x3 x4 v8 x6 x7 x8 h hf _ _ _ hI (lv_sub hl [2, 3, 4, 5, 6, 0, 7, 8, 9] rfl)
          · rw [if_pos c] at hf
            refine lv_iinc (v := x4 + (1 : Int32)) (lv' := [(4, .int (x4 + (1 : Int32))), (9, .int v3), (0, va_rf x0), (1, va_rf x1), (2, .int x2), (3, .int x3), (5, .int x5), (6, .int x6), (7, .int x7), (8, .int x8)]) hx hb dX2_paint_76 hl (k := 5) rfl rfl (by decide) rfl (fun ls hl => ?_)
            refine lv_iconst (v := (0 : Int32)) hx hb dX2_paint_79 (by decide) ?_
            refine lv_istore (lv' := [(5, .int (0 : Int32)), (4, .int (x4 + (1 : Int32))), (9, .int v3), (0, va_rf x0), (1, va_rf x1), (2, .int x2), (3, .int x3), (6, .int x6), (7, .int x7), (8, .int x8)]) hx hb dX2_paint_80 hl (by decide) rfl (fun ls hl => ?_)
            refine lv_goto (tgt := 128) hx hb dX2_paint_82 (by decide) ?_
            exact B128 x0 x1 x2 x3 (x4 + (1 : Int32)) (0 : Int32) x6 x7 x8 h hf _ _ _ hI (lv_sub hl [3, 4, 5, 6, 1, 0, 7, 8, 9] rfl)
        · rw [if_neg c] at hf
          refine hm_aload_n hx hb dX2_paint_38 rfl (lv_at hl 2 rfl) ?_
          refine lv_iload_n hx hb dX2_paint_39 rfl (lv_at hl 3 rfl) ?_
          refine lv_i2l (v := (x2).toInt64) hx hb dX2_paint_40 rfl ?_
          refine lv_iload hx hb dX2_paint_41 (lv_at hl 6 rfl) ?_
          refine lv_i2l (v := (x5).toInt64) hx hb dX2_paint_43 rfl ?_
          refine lv_ladd hx hb dX2_paint_44 ?_
          refine lv_iload_n hx hb dX2_paint_45 rfl (lv_at hl 4 rfl) ?_
          refine lv_i2l (v := (x3).toInt64) hx hb dX2_paint_46 rfl ?_
          refine lv_iload hx hb dX2_paint_47 (lv_at hl 5 rfl) ?_
          refine lv_i2l (v := (x4).toInt64) hx hb dX2_paint_49 rfl ?_
          refine lv_ladd hx hb dX2_paint_50 ?_
          refine lv_iload hx hb dX2_paint_51 (lv_at hl 8 rfl) ?_
          refine lv_iload hx hb dX2_paint_53 (lv_at hl 0 rfl) ?_
          obtain ⟨h9, eh9, hf⟩ := hm_b_s hf
          refine hm_cS (As := [va_rf x1, .long (((x2).toInt64) + ((x5).toInt64)), .long (((x3).toInt64) + ((x4).toInt64)), .int x7, .int v3]) (rest := []) ⟨hx, hb, hml, hown, hts⟩ hK hI (kX2_paintDots l D kA x1 (((x2).toInt64) + ((x5).toInt64)) (((x3).toInt64) + ((x4).toInt64)) x7 v3 h h9 eh9) (va_cwS 5 hts gX2_paint_X2_paintDots rfl rfl rfl (by decide +kernel) ⟨Nat.le_of_ble_eq_true rfl, Nat.le_of_ble_eq_true rfl⟩) rfl hl.1 rfl (by simp only [List.map, hm_rf_cat, Value.category, List.sum_cons, List.sum_nil]; decide) dX2_paint_55 ⟨Nat.le_of_ble_eq_true rfl, Nat.le_of_ble_eq_true rfl⟩ (fun H locs hI => ?_)
          refine W.eq (g2 := F0 m 58 ls []) rfl ?_
          refine lv_iload hx hb dX2_paint_58 (lv_at hl 6 rfl) ?_
          refine lv_iload hx hb dX2_paint_60 (lv_at hl 8 rfl) ?_
          refine lv_iadd hx hb dX2_paint_62 ?_
          obtain ⟨v10, ev10, hf⟩ := hm_let_s hf
          refine hm_ti ev10 ?_
          refine lv_istore (lv' := [(5, .int v10), (9, .int v3), (0, va_rf x0), (1, va_rf x1), (2, .int x2), (3, .int x3), (4, .int x4), (6, .int x6), (7, .int x7), (8, .int x8)]) hx hb dX2_paint_63 hl (by decide) rfl (fun ls hl => ?_)
          refine lv_iinc (v := x6 + (-1 : Int32)) (lv' := [(6, .int (x6 + (-1 : Int32))), (5, .int v10), (9, .int v3), (0, va_rf x0), (1, va_rf x1), (2, .int x2), (3, .int x3), (4, .int x4), (7, .int x7), (8, .int x8)]) hx hb dX2_paint_65 hl (k := 7) rfl rfl (by decide) rfl (fun ls hl => ?_)
          refine lv_goto (tgt := 128) hx hb dX2_paint_68 (by decide) ?_
          exact B128 x0 x1 x2 x3 x4 v10 (x6 + (-1 : Int32)) x7 x8 h9 hf _ _ _ hI (lv_sub hl [3, 4, 5, 6, 7, 1, 0, 8, 9] rfl)
  rw [show entryFrame m args 10 = entryFrame m ([.ref t, va_rf a1, .int a2, .int a3] : List Value).toArray 10 from by rw [hargs]]
  have hl := lv_entry ([.ref t, va_rf a1, .int a2, .int a3]) (n := 10) (Nat.le_of_ble_eq_true rfl)
  rw [lg_entry_eq]
  generalize (lg_sl ([.ref t, va_rf a1, .int a2, .int a3]) ++ List.replicate (10 - (lg_sl ([.ref t, va_rf a1, .int a2, .int a3])).length) Slot.unset).toArray = ls at hl ⊢
  have hl : lv_has ls 10 [(0, va_rf (some t)), (1, va_rf a1), (2, .int a2), (3, .int a3)] := hl
  unfold fX2_paint at hf
  refine lv_iconst (v := (0 : Int32)) hx hb dX2_paint_0 (by decide) ?_
  refine lv_istore (lv' := [(4, .int (0 : Int32)), (0, va_rf (some t)), (1, va_rf a1), (2, .int a2), (3, .int a3)]) hx hb dX2_paint_1 hl (by decide) rfl (fun ls hl => ?_)
  refine lv_iconst (v := (0 : Int32)) hx hb dX2_paint_3 (by decide) ?_
  refine lv_istore (lv' := [(5, .int (0 : Int32)), (4, .int (0 : Int32)), (0, va_rf (some t)), (1, va_rf a1), (2, .int a2), (3, .int a3)]) hx hb dX2_paint_4 hl (by decide) rfl (fun ls hl => ?_)
  refine lv_iconst (v := (0 : Int32)) hx hb dX2_paint_6 (by decide) ?_
  refine lv_istore (lv' := [(6, .int (0 : Int32)), (5, .int (0 : Int32)), (4, .int (0 : Int32)), (0, va_rf (some t)), (1, va_rf a1), (2, .int a2), (3, .int a3)]) hx hb dX2_paint_7 hl (by decide) rfl (fun ls hl => ?_)
  refine lv_iconst (v := (0 : Int32)) hx hb dX2_paint_9 (by decide) ?_
  refine lv_istore (lv' := [(7, .int (0 : Int32)), (6, .int (0 : Int32)), (5, .int (0 : Int32)), (4, .int (0 : Int32)), (0, va_rf (some t)), (1, va_rf a1), (2, .int a2), (3, .int a3)]) hx hb dX2_paint_10 hl (by decide) rfl (fun ls hl => ?_)
  refine lv_iconst (v := (0 : Int32)) hx hb dX2_paint_12 (by decide) ?_
  refine lv_istore (lv' := [(8, .int (0 : Int32)), (7, .int (0 : Int32)), (6, .int (0 : Int32)), (5, .int (0 : Int32)), (4, .int (0 : Int32)), (0, va_rf (some t)), (1, va_rf a1), (2, .int a2), (3, .int a3)]) hx hb dX2_paint_13 hl (by decide) rfl (fun ls hl => ?_)
  exact B15 hm_fu (some t) a1 a2 a3 (0 : Int32) (0 : Int32) (0 : Int32) (0 : Int32) (0 : Int32) h0 hf _ _ _ hI (lv_sub hl [5, 6, 7, 8, 4, 3, 2, 1, 0] rfl)
/-! ==== X3_init: BlitBoard$Surface.<init>(III)V ==== -/
def fX3_init (t : Nat) (a1 : Int32) (a2 : Int32) (a3 : Int32) (h0 : hm_H) : Option hm_H :=
  hm_b (hm_p 3 0 (.int a1) h0 (some t)) fun h1 =>
  hm_b (hm_p 3 1 (.int (((1 : Int32) <<< (a1 &&& 31)) - (1 : Int32))) h1 (some t)) fun h2 =>
  hm_let (hm_n h2 (.inr (0, [.long 0, .long 0, .int 0, .int 0]))) fun h3 =>
  hm_b (fX0_init h2.2 (0 : Int64) (0 : Int64) a2 a3 h3) fun h4 =>
  hm_b (hm_p 3 2 (va_rf (some h2.2)) h4 (some t)) fun h5 =>
  hm_b (hm_ni 0 4096 (a2 * a3) h5) fun h6 =>
  hm_b (hm_p 3 3 (va_rf (some h5.2)) h6 (some t)) fun h7 =>
  hm_b (hm_gq 3 2 h7 (some t)) fun v8 =>
  hm_b (hm_p 3 4 (va_rf v8) h7 (some t)) fun h9 =>
  some h9
set_option maxRecDepth 100000 in
set_option maxHeartbeats 8000000 in
theorem kX3_init (l : Launch) (D : va_G) (kA : Nat → ClassId) (t : Nat) (a1 : Int32) (a2 : Int32) (a3 : Int32) (h0 h' : hm_H) (hf : fX3_init t a1 a2 a3 h0 = some h') : hm_C l yX3_init wsX3_init { frames := 2, cells := 2, slots := 4100, locals := 46 } D vwCl kA (hm_ty kA) [.ref t, .int a1, .int a2, .int a3] h0 none h' 2 4100 := by
  refine Met.ofW (cc := cX3_init) (maxL := 4) (ret := none) (by decide) rfl ?_
  intro p e s m args below meth c s₁ B hml hv
  obtain ⟨hargs, hB⟩ := hv
  have hx := B.exec
  have hb := B.bytes
  have hr := B.returns
  have hts := atoms_spec (ws := wsX3_init) B.pre
  have hown : s.vm.findClass RX3 = some m.cls := findClass_of_methodNamed B.named
  have hlocks := B.notSynchronized
  have hin : meth.name = "<init>" := (name_of_methodNamed B.named B.method).1
  have hK := hB.2
  have hI := hm_start hB
  have w1 := hts (.methodLink RX3 1 objectInit) (by decide +kernel)
  have w2 := hts (.instanceMethod objectInit) (by decide +kernel)
  have w3 := hts (.code objectInit ⟨#[0xb1]⟩ 1 none) (by decide +kernel)
  have w4 := hts (.fieldLink RX3 7 "BlitBoard$Surface" "depth" "I") (by decide +kernel)
  have w5 := hts (.fieldLink RX3 13 "BlitBoard$Surface" "largest" "I") (by decide +kernel)
  have w6 := hts (.classLink RX3 16 RX0) (by decide +kernel)
  have w7 := hts (.instantiable RX0 4) (by decide +kernel)
  have w8 := hts (.initialized RX0) (by decide +kernel)
  have w9 := hts (.methodLink RX3 18 yX0_init) (by decide +kernel)
  have w10 := hts (.instanceMethod yX0_init) (by decide +kernel)
  have w11 := hts (.fieldLink RX3 21 "BlitBoard$Surface" "whole" "LBlitBoard$Area;") (by decide +kernel)
  have w12 := hts (.arrayClass .int) (by decide +kernel)
  have w13 := hts (.fieldLink RX3 25 "BlitBoard$Surface" "dots" "[I") (by decide +kernel)
  have w14 := hts (.fieldLink RX3 29 "BlitBoard$Surface" "clip" "LBlitBoard$Area;") (by decide +kernel)
  have hiX3 : ∀ w ∈ wsX30, w ∈ wsX3_init := by decide +kernel
  have hiX0 : ∀ w ∈ wsX00, w ∈ wsX3_init := by decide +kernel
  rw [show entryFrame m args 4 = entryFrame m ([.ref t, .int a1, .int a2, .int a3] : List Value).toArray 4 from by rw [hargs]]
  have hl := lv_entry ([.ref t, .int a1, .int a2, .int a3]) (n := 4) (Nat.le_of_ble_eq_true rfl)
  rw [lg_entry_eq]
  generalize (lg_sl ([.ref t, .int a1, .int a2, .int a3]) ++ List.replicate (4 - (lg_sl ([.ref t, .int a1, .int a2, .int a3])).length) Slot.unset).toArray = ls at hl ⊢
  have hl : lv_has ls 4 [(0, va_rf (some t)), (1, .int a1), (2, .int a2), (3, .int a3)] := hl
  unfold fX3_init at hf
  refine hm_aload_n hx hb dX3_init_0 rfl (lv_at hl 0 rfl) ?_
  refine W.objInit hx hb hown w1 w2 w3 rfl (by rw [hml]; exact hl.1) rfl dX3_init_1 (Nat.le_of_ble_eq_true rfl) (Nat.le_of_ble_eq_true rfl) ?_
  refine W.eq (g2 := F0 m 4 ls []) rfl ?_
  refine hm_aload_n hx hb dX3_init_4 rfl (lv_at hl 0 rfl) ?_
  refine lv_iload_n hx hb dX3_init_5 rfl (lv_at hl 1 rfl) ?_
  obtain ⟨h1, eh1, hf⟩ := hm_b_s hf
  refine hm_putF (ci := 3) (k := 0) (C := RX3) (T := TX3) (N := 5) hx hb hts hiX3 tyX3 tyX3_ok nmX3 hown hK hI rfl (by decide) w4 rfl hin rfl eh1 rfl rfl dX3_init_6 (fun H locs hI => ?_)
  refine hm_aload_n hx hb dX3_init_9 rfl (lv_at hl 0 rfl) ?_
  refine lv_iconst (v := (1 : Int32)) hx hb dX3_init_10 (by decide) ?_
  refine lv_iload_n hx hb dX3_init_11 rfl (lv_at hl 1 rfl) ?_
  refine lv_ishl hx hb dX3_init_12 ?_
  refine lv_iconst (v := (1 : Int32)) hx hb dX3_init_13 (by decide) ?_
  refine lv_isub hx hb dX3_init_14 ?_
  obtain ⟨h2, eh2, hf⟩ := hm_b_s hf
  refine hm_putF (ci := 3) (k := 1) (C := RX3) (T := TX3) (N := 5) hx hb hts hiX3 tyX3 tyX3_ok nmX3 hown hK hI rfl (by decide) w5 rfl hin rfl eh2 rfl rfl dX3_init_15 (fun H locs hI => ?_)
  refine hm_aload_n hx hb dX3_init_18 rfl (lv_at hl 0 rfl) ?_
  obtain ⟨h3, eh3, hf⟩ := hm_let_s hf
  refine hm_new (ci := 0) (fs := [.long 0, .long 0, .int 0, .int 0]) (C := RX0) (T := TX0) (N := 4) hx hb hts hiX0 tyX0 tyX0_ok hown w6 w7 w8 hK hI rfl (fun j hj => by rcases (show j = 0 ∨ j = 1 ∨ j = 2 ∨ j = 3 by omega) with rfl | rfl | rfl | rfl <;> rfl) (Nat.le_of_ble_eq_true rfl) (Nat.le_of_ble_eq_true rfl) dX3_init_19 (fun H hI => ?_)
  rw [← eh3] at hI
  refine W.cs (cells' := 1) (slots' := 4) rfl rfl ?_
  refine lv_dup hx hb dX3_init_22 (hm_rf_cat _) ?_
  refine lv_lconst (v := (0 : Int64)) hx hb dX3_init_23 (by decide) ?_
  refine lv_lconst (v := (0 : Int64)) hx hb dX3_init_24 (by decide) ?_
  refine lv_iload_n hx hb dX3_init_25 rfl (lv_at hl 2 rfl) ?_
  refine lv_iload_n hx hb dX3_init_26 rfl (lv_at hl 3 rfl) ?_
  obtain ⟨h4, eh4, hf⟩ := hm_b_s hf
  refine hm_cI (As := [.long (0 : Int64), .long (0 : Int64), .int a2, .int a3]) (rest := [va_rf (some h2.2), va_rf (some t)]) ⟨hx, hb, hml, hown, hts⟩ hK hI (kX0_init l D kA h2.2 (0 : Int64) (0 : Int64) a2 a3 h3 h4 eh4) (cwI 4 hts gX3_init_X0_init rfl rfl rfl w8 w9 w10 rfl (by decide +kernel) ⟨Nat.le_of_ble_eq_true rfl, Nat.le_of_ble_eq_true rfl⟩) rfl hl.1 rfl (by simp only [List.map, hm_rf_cat, Value.category, List.sum_cons, List.sum_nil]; decide) dX3_init_27 ⟨Nat.le_of_ble_eq_true rfl, Nat.le_of_ble_eq_true rfl⟩ (fun H locs hI => ?_)
  refine W.eq (g2 := F0 m 30 ls [va_rf (some h2.2), va_rf (some t)]) rfl ?_
  obtain ⟨h5, eh5, hf⟩ := hm_b_s hf
  refine hm_putF (ci := 3) (k := 2) (C := RX3) (T := TX3) (N := 5) hx hb hts hiX3 tyX3 tyX3_ok nmX3 hown hK hI rfl (by decide) w11 rfl hin rfl eh5 hm_nqo hm_fqo dX3_init_30 (fun H locs hI => ?_)
  refine hm_aload_n hx hb dX3_init_33 rfl (lv_at hl 0 rfl) ?_
  refine lv_iload_n hx hb dX3_init_34 rfl (lv_at hl 2 rfl) ?_
  refine lv_iload_n hx hb dX3_init_35 rfl (lv_at hl 3 rfl) ?_
  refine lv_imul hx hb dX3_init_36 ?_
  obtain ⟨h6, eh6, hf⟩ := hm_b_s hf
  refine hm_newi (kd := 0) (t0 := 0) (B := 4096) (ty := .int) hx hb w12 rfl rfl (by decide) hK hI rfl (fun z => z) eh6 (Nat.le_of_ble_eq_true rfl) (Nat.le_of_ble_eq_true rfl) dX3_init_37 (fun H hI => ?_)
  refine W.cs (cells' := 2) (slots' := 4100) rfl rfl ?_
  obtain ⟨h7, eh7, hf⟩ := hm_b_s hf
  refine hm_putF (ci := 3) (k := 3) (C := RX3) (T := TX3) (N := 5) hx hb hts hiX3 tyX3 tyX3_ok nmX3 hown hK hI rfl (by decide) w13 rfl hin rfl eh7 hm_nqa hm_fqa dX3_init_39 (fun H locs hI => ?_)
  refine hm_aload_n hx hb dX3_init_42 rfl (lv_at hl 0 rfl) ?_
  refine hm_aload_n hx hb dX3_init_43 rfl (lv_at hl 0 rfl) ?_
  obtain ⟨v8, ev8, hf⟩ := hm_b_s hf
  refine hm_get (ci := 3) (k := 2) (C := RX3) (T := TX3) (N := 5) hx hb hts hiX3 hown hK hI rfl (by decide) w11 (hm_gq_s ev8) dX3_init_44 ?_
  obtain ⟨h9, eh9, hf⟩ := hm_b_s hf
  refine hm_put (ci := 3) (k := 4) (C := RX3) (T := TX3) (N := 5) hx hb hts hiX3 tyX3 tyX3_ok nmX3 hown hK hI rfl (by decide) w14 rfl eh9 hm_nqo hm_fqo dX3_init_47 (fun H locs hI => ?_)
  exact hm_vret_e hf hx hb hr hlocks hK hI (Nat.le_of_ble_eq_true rfl) (Nat.le_of_ble_eq_true rfl) dX3_init_50
end
