/-! THE HEAP AS A MAP: a cell's contents by its address, and the next address. An array has the number of its kind (0: int, 1: boolean, from 2 on: of references), an object the number of its class in 'classes'. -/
abbrev hm_E : Type := (Nat × vp_A) ⊕ (Nat × List Value)
abbrev hm_H : Type := (Nat → Option hm_E) × Nat
def hm_tr (kA : Nat → ClassId) (e : hm_E) : va_E := match e with
  | .inl x => .inl (kA x.1, x.2)
  | .inr o => .inr o
/-- the machine's heap holds the map -/
def hm_P (D : va_G) (cl : List vw_C) (kA : Nat → ClassId) (A : Nat → Prop) (h : hm_H) (H : Heap) : Prop := (∀ (a : Nat) (x : hm_E), h.1 a = some x → va_at D cl (a, hm_tr kA x) H ∧ A a) ∧ H.size = h.2
def hm_I (D : va_G) (cl : List vw_C) (kA : Nat → ClassId) (A : Nat → Prop) (H0 : Heap) (h : hm_H) (H : Heap) (locs : List Loc) : Prop :=
  hm_P D cl kA A h H ∧ va_S A H0 H locs ∧ ∀ q : Nat, H0.size ≤ q → A q
/-- a method's own part: the cells of its map, and those that come -/
def hm_A (h : hm_H) : Nat → Prop := fun q => (∃ x, h.1 q = some x) ∨ h.2 ≤ q
def hm_B (D : va_G) (cl : List vw_C) (kA : Nat → ClassId) (A : Nat → Prop) (tys : List (ClassId × FieldType)) (h : hm_H) (U : State) : Prop :=
  hm_P D cl kA A h U.heap ∧ va_K D cl tys U
def hm_Q (D : va_G) (cl : List vw_C) (kA : Nat → ClassId) (tys : List (ClassId × FieldType)) (h : hm_H) (rv : Option Value) (h' : hm_H) : Array Value → State → Outcome → State → Prop := fun _ st oc t =>
  oc = .returned rv ∧ hm_B D cl kA (hm_A h) tys h' t ∧ va_F (hm_A h) st t
/-- a method's contract over maps -/
def hm_C (l : Launch) (y : MethodName) (ws : List Cond) (rm : Room) (D : va_G) (cl : List vw_C) (kA : Nat → ClassId) (tys : List (ClassId × FieldType)) (as : List Value) (h : hm_H) (rv : Option Value) (h' : hm_H) (mc ms : Nat) : Prop :=
  Met l y ws rm (va_Pc as (hm_B D cl kA (hm_A h) tys h)) (hm_Q D cl kA tys h rv h') mc ms (hm_A h)
theorem hm_start {D : va_G} {cl : List vw_C} {kA : Nat → ClassId} {tys : List (ClassId × FieldType)} {h : hm_H} {U : State} (hB : hm_B D cl kA (hm_A h) tys h U) : hm_I D cl kA (hm_A h) U.heap h U.heap [] :=
  ⟨hB.1, va_S.rf, fun q hq => Or.inr (by rw [← hB.1.2]; exact hq)⟩
theorem hm_end {D : va_G} {cl : List vw_C} {kA : Nat → ClassId} {tys : List (ClassId × FieldType)} {h h' : hm_H} {s t : State} {H : Heap} {locs : List Loc} (hK : va_K D cl tys s) (hI : hm_I D cl kA (hm_A h) s.heap h' H locs) (ht : t.heap = H) (hW : s.WarmedH t.vm) : hm_B D cl kA (hm_A h) tys h' t ∧ va_F (hm_A h) s t :=
  ⟨⟨by rw [ht]; exact hI.1, va_K.moved hW.alike hK⟩, hI.2.1.F ht⟩
theorem hm_I.up {D : va_G} {cl : List vw_C} {kA : Nat → ClassId} {A : Nat → Prop} {H0 H H1 : Heap} {h : hm_H} {locs : List Loc} {a k : Nat} {x0 x : hm_E} (hI : hm_I D cl kA A H0 h H locs) (ha : h.1 a = some x0) (hx : va_at D cl (a, hm_tr kA x) H1) (hz : H1.size = H.size) (oq : ∀ q : Nat, q ≠ a → H1[q]? = H[q]?) : hm_I D cl kA A H0 (va_up h.1 a (some x), h.2) H1 (locs ++ [⟨a, k⟩]) := by
  obtain ⟨⟨hP, hs⟩, hS, hA⟩ := hI
  refine ⟨⟨fun b y hb => ?_, hz.trans hs⟩, hS.put hz oq (hP a x0 ha).2, hA⟩
  by_cases hab : b = a
  · subst hab
    have hb : va_up h.1 b (some x) b = some y := hb
    rw [va_up_self] at hb
    cases hb
    exact ⟨hx, (hP b x0 ha).2⟩
  · have hb : va_up h.1 a (some x) b = some y := hb
    rw [va_up_ne _ _ hab] at hb
    exact ⟨(hP b y hb).1.kept (oq b hab), (hP b y hb).2⟩
theorem hm_I.new {D : va_G} {cl : List vw_C} {kA : Nat → ClassId} {A : Nat → Prop} {H0 H H1 : Heap} {h : hm_H} {locs : List Loc} {x : hm_E} (hI : hm_I D cl kA A H0 h H locs) (hx : va_at D cl (H.size, hm_tr kA x) H1) (hz : H1.size = H.size + 1) (oq : ∀ q : Nat, q < H.size → H1[q]? = H[q]?) : hm_I D cl kA A H0 (va_up h.1 h.2 (some x), h.2 + 1) H1 locs := by
  obtain ⟨⟨hP, hs⟩, hS, hA⟩ := hI
  refine ⟨⟨fun b y hb => ?_, by rw [hz, hs]⟩, ⟨Nat.le_trans hS.1 (by omega), fun q h1 h2 => (oq q (Nat.lt_of_lt_of_le h1 hS.1)).trans (hS.2.1 q h1 h2), hS.2.2⟩, hA⟩
  have hb : va_up h.1 h.2 (some x) b = some y := hb
  by_cases hab : b = h.2
  · subst hab
    rw [va_up_self] at hb
    cases hb
    rw [← hs]
    exact ⟨hx, hA _ hS.1⟩
  · rw [va_up_ne _ _ hab] at hb
    have h9 := hP b y hb
    exact ⟨h9.1.kept (oq b h9.1.lt), h9.2⟩
/-! reads and writes of the map -/
def hm_g (ci k : Nat) (h : hm_H) (r : Option Nat) : Option Value := match r with
  | none => none
  | some a => match h.1 a with
    | some (.inr o) => if o.1 = ci then o.2[k]? else none
    | _ => none
def hm_gi (ci k : Nat) (h : hm_H) (r : Option Nat) : Option Int32 := match hm_g ci k h r with
  | some (.int x) => some x
  | _ => none
def hm_gl (ci k : Nat) (h : hm_H) (r : Option Nat) : Option Int64 := match hm_g ci k h r with
  | some (.long x) => some x
  | _ => none
def hm_gq (ci k : Nat) (h : hm_H) (r : Option Nat) : Option (Option Nat) := match hm_g ci k h r with
  | some (.ref x) => some (some x)
  | some .null => some none
  | _ => none
def hm_p (ci k : Nat) (v : Value) (h : hm_H) (r : Option Nat) : Option hm_H := match r with
  | none => none
  | some a => match h.1 a with
    | some (.inr o) => if o.1 = ci ∧ k < o.2.length then some (va_up h.1 a (some (.inr (ci, o.2.set k v))), h.2) else none
    | _ => none
/-- the receiver is there, of its class -/
def hm_rc (ci : Nat) (h : hm_H) (r : Option Nat) : Option Nat := match r with
  | none => none
  | some a => match h.1 a with
    | some (.inr o) => if o.1 = ci then some a else none
    | _ => none
def hm_ai (kd : Nat) (h : hm_H) (r : Option Nat) (i : Int32) : Option Int32 := match r with
  | none => none
  | some a => match h.1 a with
    | some (.inl (kd', n, .inl f)) => if kd' = kd ∧ ¬ (i < 0 ∨ n ≤ i.toNatClampNeg) then some (f i.toNatClampNeg) else none
    | _ => none
def hm_si (kd : Nat) (h : hm_H) (r : Option Nat) (i x : Int32) : Option hm_H := match r with
  | none => none
  | some a => match h.1 a with
    | some (.inl (kd', n, .inl f)) => if kd' = kd ∧ ¬ (i < 0 ∨ n ≤ i.toNatClampNeg) then some (va_up h.1 a (some (.inl (kd, n, .inl (upd f i.toNatClampNeg x)))), h.2) else none
    | _ => none
def hm_aq (kd : Nat) (h : hm_H) (r : Option Nat) (i : Int32) : Option (Option Nat) := match r with
  | none => none
  | some a => match h.1 a with
    | some (.inl (kd', n, .inr (.inr (.inr (.inr f))))) => if kd' = kd ∧ ¬ (i < 0 ∨ n ≤ i.toNatClampNeg) then some (f i.toNatClampNeg) else none
    | _ => none
def hm_sq (kd ci : Nat) (h : hm_H) (r : Option Nat) (i : Int32) (x : Option Nat) : Option hm_H := match r with
  | none => none
  | some a => match hm_rc ci h x with
    | none => none
    | some v => match h.1 a with
      | some (.inl (kd', n, .inr (.inr (.inr (.inr f))))) => if kd' = kd ∧ ¬ (i < 0 ∨ n ≤ i.toNatClampNeg) then some (va_up h.1 a (some (.inl (kd, n, .inr (.inr (.inr (.inr (va_up f i.toNatClampNeg (some v)))))))), h.2) else none
      | _ => none
def hm_al (kd : Nat) (h : hm_H) (r : Option Nat) : Option Int32 := match r with
  | none => none
  | some a => match h.1 a with
    | some (.inl (kd', x)) => if kd' = kd then some (Int32.ofNat x.1) else none
    | _ => none
def hm_n (h : hm_H) (e : hm_E) : hm_H := (va_up h.1 h.2 (some e), h.2 + 1)
/-- a new array of numbers, of at most B places -/
def hm_ni (kd B : Nat) (n : Int32) (h : hm_H) : Option hm_H := if ¬ n < 0 ∧ n.toNatClampNeg ≤ B then some (hm_n h (.inl (kd, n.toNatClampNeg, .inl (fun _ => 0)))) else none
def hm_nq (kd B : Nat) (n : Int32) (h : hm_H) : Option hm_H := if ¬ n < 0 ∧ n.toNatClampNeg ≤ B then some (hm_n h (.inl (kd, n.toNatClampNeg, .inr (.inr (.inr (.inr (fun _ => none))))))) else none
/-- System.arraycopy of ints -/
def hm_cp (h : hm_H) (r : Option Nat) (sp : Int32) (r2 : Option Nat) (dp n : Int32) : Option hm_H := match r, r2 with
  | some a, some b => match h.1 a, h.1 b with
    | some (.inl (kd, n0, .inl f)), some (.inl (kd', n1, .inl g)) => if (kd = 0 ∧ kd' = 0) ∧ (¬ sp < 0 ∧ ¬ dp < 0 ∧ ¬ n < 0) ∧ sp.toNatClampNeg + n.toNatClampNeg ≤ n0 ∧ dp.toNatClampNeg + n.toNatClampNeg ≤ n1 then some (va_up h.1 b (some (.inl (0, n1, .inl (va_cpy f g sp.toNatClampNeg dp.toNatClampNeg n.toNatClampNeg)))), h.2) else none
    | _, _ => none
  | _, _ => none
/-! binds that a walk can open -/
def hm_b {α γ : Type} (x : Option α) (k : α → Option γ) : Option γ := match x with
  | none => none
  | some a => k a
def hm_b2 {α β γ : Type} (x : Option (α × β)) (k : α → β → Option γ) : Option γ := match x with
  | none => none
  | some p => k p.1 p.2
def hm_let {α γ : Type} (x : α) (k : α → γ) : γ := k x
theorem hm_b_s {α γ : Type} {x : Option α} {k : α → Option γ} {z : γ} (h : hm_b x k = some z) : ∃ a, x = some a ∧ k a = some z := by
  cases x with
  | none => cases h
  | some a => exact ⟨a, rfl, h⟩
theorem hm_b2_s {α β γ : Type} {x : Option (α × β)} {k : α → β → Option γ} {z : γ} (h : hm_b2 x k = some z) : ∃ a b, x = some (a, b) ∧ k a b = some z := by
  cases x with
  | none => cases h
  | some p => exact ⟨p.1, p.2, rfl, h⟩
theorem hm_let_s {α γ : Type} {x : α} {k : α → Option γ} {z : γ} (h : hm_let x k = some z) : ∃ a, a = x ∧ k a = some z := ⟨x, rfl, h⟩
