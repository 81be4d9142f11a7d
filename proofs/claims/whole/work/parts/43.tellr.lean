/-! a row's bytes: how they begin, how many they are -/
section CRW
variable {dt : Nat → Int32} {W : Nat} {key : Int32}
theorem cr_s (r s c : Nat) : cr dt W key (r + 1) s c = if bkt dt W key s c = true then str dt (kdf dt W key s) c 2 s ++ cr dt W key r c (c + 1) else cr dt W key r s (c + 1) := rfl
theorem cr_skip {e s : Nat} : ∀ r c q, c + r = q → q ≤ e → (∀ j, c ≤ j → j < q → ¬ bkt dt W key s j = true) → cr dt W key (e - c) s c = cr dt W key (e - q) s q := by
  intro r
  induction r with
  | zero =>
    intro c q hc _ _
    rw [show c = q by omega]
  | succ r ih =>
    intro c q hc hq hb
    rw [show e - c = (e - (c + 1)) + 1 by omega, cr_s, if_neg (hb c (by omega) (by omega))]
    exact ih (c + 1) q (by omega) hq (fun j h1 h2 => hb j (by omega) h2)
/-- one stretch of a row -/
theorem crow_seg {e s q : Nat} (h1 : s < q) (h2 : q ≤ e) (hb : ∀ j, s < j → j < q → ¬ bkt dt W key s j = true) (hq : q = e ∨ bkt dt W key s q = true) : crow dt W key e s = str dt (kdf dt W key s) q 2 s ++ crow dt W key e q := by
  unfold crow
  rw [if_pos (by omega), cr_skip (q - (s + 1)) (s + 1) q (by omega) h2 (fun j p1 p2 => hb j (by omega) p2)]
  by_cases z : q < e
  · rw [if_pos z, show e - q = (e - (q + 1)) + 1 by omega, cr_s]
    rcases hq with hq | hq
    · omega
    · rw [if_pos hq]
  · have : q = e := by omega
    subst this
    rw [if_neg z, List.append_nil, Nat.sub_self]
    rfl
/-- the next break -/
theorem nx_bk {e s : Nat} (h : s < e) : ∃ q, s < q ∧ q ≤ e ∧ (∀ j, s < j → j < q → ¬ bkt dt W key s j = true) ∧ (q = e ∨ bkt dt W key s q = true) := by
  have : ∀ r c, c + r = e → s < c → (∀ j, s < j → j < c → ¬ bkt dt W key s j = true) → ∃ q, s < q ∧ q ≤ e ∧ (∀ j, s < j → j < q → ¬ bkt dt W key s j = true) ∧ (q = e ∨ bkt dt W key s q = true) := by
    intro r
    induction r with
    | zero =>
      intro c hc hs hb
      exact ⟨c, hs, by omega, hb, Or.inl (by omega)⟩
    | succ r ih =>
      intro c hc hs hb
      by_cases z : bkt dt W key s c = true
      · exact ⟨c, hs, by omega, hb, Or.inr z⟩
      · refine ih (c + 1) (by omega) (by omega) (fun j p1 p2 => ?_)
        by_cases zz : j = c
        · subst zz; exact z
        · exact hb j p1 (by omega)
  exact this (e - (s + 1)) (s + 1) (by omega) (by omega) (fun j p1 p2 => by omega)
theorem bkt_t {s c : Nat} : bkt dt W key s c = true ↔ (kdf dt W key c ≠ kdf dt W key s ∨ (kdf dt W key c = 128 ∧ dt c ≠ dt (c - 1))) := by unfold bkt; simp
theorem thr_t {z : Int} : thr dt W z = true ↔ (0 ≤ z ∧ z + 2 < W ∧ dt z.toNat = dt (z.toNat + 1) ∧ dt z.toNat = dt (z.toNat + 2)) := by unfold thr; simp
theorem thr_n {c : Nat} : thr dt W (c : Int) = true ↔ (c + 2 < W ∧ dt c = dt (c + 1) ∧ dt c = dt (c + 2)) := by
  rw [thr_t]
  simp only [Int.toNat_natCast]
  constructor
  · rintro ⟨-, h1, h2, h3⟩
    exact ⟨by omega, h2, h3⟩
  · rintro ⟨h1, h2, h3⟩
    exact ⟨by omega, by omega, h2, h3⟩
/-- a dot in a row of three -/
def th3 (dt : Nat → Int32) (W c : Nat) : Prop := ∃ a, a ≤ c ∧ c ≤ a + 2 ∧ a + 2 < W ∧ dt a = dt (a + 1) ∧ dt a = dt (a + 2)
theorem kdf_3 {c : Nat} (hk : dt c ≠ key) : (th3 dt W c → kdf dt W key c = 128) ∧ (¬ th3 dt W c → kdf dt W key c = 64) := by
  have e : (thr dt W ((c : Int) - 2) = true ∨ thr dt W ((c : Int) - 1) = true ∨ thr dt W c = true) ↔ th3 dt W c := by
    constructor
    · rintro (z | z | z)
      · have z0 := thr_t.mp z
        obtain ⟨a, ha⟩ := Int.eq_ofNat_of_zero_le z0.1
        rw [ha] at z
        have z1 := thr_n.mp z
        exact ⟨a, by omega, by omega, z1⟩
      · have z0 := thr_t.mp z
        obtain ⟨a, ha⟩ := Int.eq_ofNat_of_zero_le z0.1
        rw [ha] at z
        have z1 := thr_n.mp z
        exact ⟨a, by omega, by omega, z1⟩
      · exact ⟨c, by omega, by omega, thr_n.mp z⟩
    · rintro ⟨a, h1, h2, h3⟩
      have z := thr_n.mpr h3
      have : c = a + 2 ∨ c = a + 1 ∨ c = a := by omega
      rcases this with rfl | rfl | rfl
      · left
        rw [show (((a + 2 : Nat) : Int) - 2) = (a : Int) by omega]
        exact z
      · right; left
        rw [show (((a + 1 : Nat) : Int) - 1) = (a : Int) by omega]
        exact z
      · right; right
        exact z
  unfold kdf
  rw [if_neg hk]
  constructor
  · intro h
    rw [if_pos (e.mpr h)]
  · intro h
    rw [if_neg (fun z => h (e.mp z))]
theorem kdf_0 {c : Nat} (hk : dt c = key) : kdf dt W key c = 0 := by unfold kdf; rw [if_pos hk]
theorem kdf_128 {c : Nat} (h : kdf dt W key c = 128) : dt c ≠ key ∧ th3 dt W c := by
  by_cases q : dt c = key
  · rw [kdf_0 q] at h; omega
  · refine ⟨q, ?_⟩
    by_cases z : th3 dt W c
    · exact z
    · rw [(kdf_3 q).2 z] at h; omega
theorem dl_len (r s : Nat) : (dl dt r s).length = r := by
  induction r generalizing s with
  | zero => rfl
  | succ r ih =>
    show (dt s :: dl dt r (s + 1)).length = _
    rw [List.length_cons, ih]
theorem str_s (kd e f a : Nat) : str dt kd e (f + 1) a = if e ≤ a then [] else nI (kd + min 63 (e - a)) :: (dl dt (nd kd (min 63 (e - a))) a ++ str dt kd e f (a + 63)) := rfl
theorem str_0 {kd a f : Nat} : str dt kd a f a = [] := by
  cases f with
  | zero => rfl
  | succ f => rw [str_s, if_pos (Nat.le_refl a)]
theorem str_len {kd e a : Nat} (ha : a < e) (he : e - a ≤ 64) : (str dt kd e 2 a).length = if e - a = 64 then 2 + nd kd 63 + nd kd 1 else 1 + nd kd (e - a) := by
  rw [str_s, if_neg (by omega), List.length_cons, List.length_append, dl_len, str_s]
  by_cases q : e - a = 64
  · rw [if_pos q, if_neg (by omega), List.length_cons, List.length_append, dl_len, show min 63 (e - a) = 63 by omega, show min 63 (e - (a + 63)) = 1 by omega]
    show _ + (_ + 0 + 1) + 1 = _
    omega
  · rw [if_neg q, if_pos (by omega), show min 63 (e - a) = e - a by omega]
    show _ + 0 + 1 = _
    omega
/-- a row is never told in too many bytes -/
theorem crow_len {e : Nat} (he : e ≤ 64) (hE : ∀ j, e ≤ j → j < W → dt j = key) : ∀ r s, s + r = e → (s = 0 ∨ s = e ∨ ∃ s', s' < s ∧ kdf dt W key (s - 1) = kdf dt W key s' ∧ bkt dt W key s' s = true) → 2 * (crow dt W key e s).length ≤ 3 * (e - s) + (if s < e ∧ kdf dt W key s = 64 then 1 else 0) := by
  intro r
  induction r using Nat.strongRecOn with
  | _ r ih =>
    intro s hs hst
    by_cases z : s < e
    · obtain ⟨q, q1, q2, q3, q4⟩ := nx_bk (dt := dt) (W := W) (key := key) z
      have kq : kdf dt W key (q - 1) = kdf dt W key s := by
        by_cases zz : q - 1 = s
        · rw [zz]
        · have := q3 (q - 1) (by omega) (by omega)
          rw [bkt_t] at this
          by_cases w : kdf dt W key (q - 1) = kdf dt W key s
          · exact w
          · exact absurd (Or.inl w) this
      have I := ih (e - q) (by omega) q (by omega) (by
        rcases q4 with q4 | q4
        · exact Or.inr (Or.inl q4)
        · exact Or.inr (Or.inr ⟨s, q1, kq, q4⟩))
      rw [crow_seg q1 q2 q3 q4, List.length_append, str_len q1 (by omega)]
      generalize (crow dt W key e q).length = N at I ⊢
      have n64 : kdf dt W key s = 64 → ¬ (q < e ∧ kdf dt W key q = 64) := fun k1 k2 => by
        rcases q4 with q4 | q4
        · omega
        · rw [bkt_t] at q4
          omega
      have n128 : kdf dt W key s = 128 → s + 2 ≤ q := fun k1 => by
        obtain ⟨hk, a, a1, a2, a3, a4, a5⟩ := kdf_128 k1
        by_cases w : s + 2 ≤ q
        · exact w
        · exfalso
          have : q = s + 1 := by omega
          subst this
          -- the dot is the last of its three
          by_cases w2 : s = a + 2
          · rcases hst with h0 | h0 | ⟨s', h0, h1, h2⟩
            · omega
            · omega
            · have e1 : dt s = dt (s - 1) := by rw [w2, show a + 2 - 1 = a + 1 by omega, ← a5, a4]
              have kk : kdf dt W key (s - 1) = 128 := (kdf_3 (by rw [← e1]; exact hk)).1 ⟨a, by omega, by omega, a3, a4, a5⟩
              rw [bkt_t] at h2
              rcases h2 with h2 | h2
              · rw [k1, ← h1, kk] at h2
                exact h2 rfl
              · exact h2.2 e1
          · have e1 : dt (s + 1) = dt s := by
              have : s = a ∨ s = a + 1 := by omega
              rcases this with rfl | rfl
              · exact a4.symm
              · rw [← a4]; exact a5.symm
            have kk : kdf dt W key (s + 1) = 128 := (kdf_3 (by rw [e1]; exact hk)).1 ⟨a, by omega, by omega, a3, a4, a5⟩
            have ke : s + 1 < e ∨ s + 1 = e := by omega
            rcases q4 with q4 | q4
            · exact hk (by rw [← e1]; exact hE (s + 1) (by omega) (by omega))
            · rw [bkt_t] at q4
              rcases q4 with q4 | q4
              · rw [k1, kk] at q4
                exact q4 rfl
              · exact q4.2 (by rw [show s + 1 - 1 = s by omega]; exact e1)
      have nd0 : ∀ x, nd 0 x = 0 := fun _ => rfl
      have nd6 : ∀ x, nd 64 x = x := fun _ => rfl
      have nd8 : ∀ x, nd 128 x = 1 := fun _ => rfl
      rcases kdf_v dt W key s with kv | kv | kv
      · rw [kv, nd0, nd0, nd0]
        split at I <;> split <;> split <;> omega
      · have := n64 kv
        rw [if_neg this] at I
        rw [kv, nd6, nd6, nd6, if_pos (show s < e ∧ 64 = 64 from ⟨z, rfl⟩)]
        split <;> omega
      · have := n128 kv
        rw [kv, nd8, nd8, nd8]
        split at I <;> split <;> split <;> omega
    · rw [show s = e by omega]
      unfold crow
      rw [if_neg (by omega)]
      simp
/-- bytes -/
def byt (v : Int32) : Prop := ∃ c, c < 256 ∧ v = nI c
theorem dl_byt {r s : Nat} (h : ∀ j, j < r → byt (dt (s + j))) : ∀ v ∈ dl dt r s, byt v := by
  induction r generalizing s with
  | zero => intro v hv; cases hv
  | succ r ih =>
    intro v hv
    rcases List.mem_cons.mp hv with rfl | hv
    · exact h 0 (by omega)
    · exact ih (fun j hj => by have := h (j + 1) (by omega); rw [show s + (j + 1) = s + 1 + j by omega] at this; exact this) v hv
theorem str_byt {kd e : Nat} (hk : kd ≤ 128) (h : ∀ c, c < e → byt (dt c)) : ∀ f a, ∀ v ∈ str dt kd e f a, byt v := by
  intro f
  induction f with
  | zero => intro a v hv; cases hv
  | succ f ih =>
    intro a v hv
    rw [str_s] at hv
    by_cases q : e ≤ a
    · rw [if_pos q] at hv; cases hv
    · rw [if_neg q] at hv
      rcases List.mem_cons.mp hv with rfl | hv
      · exact ⟨_, by omega, rfl⟩
      · rcases List.mem_append.mp hv with hv | hv
        · refine dl_byt (fun j hj => h _ ?_) v hv
          have : nd kd (min 63 (e - a)) ≤ e - a := by unfold nd; split; omega; split <;> omega
          omega
        · exact ih (a + 63) v hv
theorem te_hi (j : Nat) : ∀ c, te dt key j ≤ c → c < j → dt c = key := by
  induction j with
  | zero => intro c _ h; omega
  | succ j ih =>
    intro c h1 h2
    rw [te_s] at h1
    by_cases q : dt j = key
    · rw [if_pos q] at h1
      by_cases z : c = j
      · subst z; exact q
      · exact ih c h1 (by omega)
    · rw [if_neg q] at h1
      omega
theorem te_lo {j c : Nat} (h : c < j) (hk : dt c ≠ key) : c < te dt key j := by
  by_cases q : te dt key j ≤ c
  · exact absurd (te_hi j c q h) hk
  · omega
end CRW
