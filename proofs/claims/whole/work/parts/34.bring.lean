/-! what the reference brings -/
def cq (p : Nat → Bool) : Nat → Nat
  | 0 => 0
  | j + 1 => cq p j + (p j).toNat
theorem cq_s (p : Nat → Bool) (j : Nat) : cq p (j + 1) = cq p j + (p j).toNat := rfl
theorem cq_le (p : Nat → Bool) (j : Nat) : cq p j ≤ j := by
  induction j with
  | zero => exact Nat.le_refl _
  | succ j ih => rw [cq_s]; cases p j <;> simp <;> omega
/-- a column's (or a row's) offset is good: its source lies in the first surface, its place in the clip -/
def inb (x u : Int) (W c cw : Nat) (a : Nat) : Bool := decide (0 ≤ x + a ∧ x + a < W ∧ (c : Int) ≤ u + a ∧ u + a < (c : Int) + cw)
theorem inb_t {x u : Int} {W c cw a : Nat} : inb x u W c cw a = true ↔ (0 ≤ x + a ∧ x + a < W ∧ (c : Int) ≤ u + a ∧ u + a < (c : Int) + cw) := by unfold inb; simp
def bsv (F : Nat → Nat → Int32) (kf : Nat) (x y : Int) (a b : Nat) : Int32 := F 5 (4096 * kf + 64 * (y + b).toNat + (x + a).toNat)
def bmk (F : Nat → Nat → Int32) (D : Nat → Nat × Nat × Nat) (km : Nat) (x y : Int) (a b : Nat) : Int32 := if 0 ≤ x + a ∧ x + a < (D km).2.1 ∧ 0 ≤ y + b ∧ y + b < (D km).2.2 then F 5 (4096 * km + 64 * (y + b).toNat + (x + a).toNat) else 0
def bat (u v : Int) (a b : Nat) : Nat := 64 * (v + b).toNat + (u + a).toNat
def bcm (F : Nat → Nat → Int32) (D : Nat → Nat × Nat × Nat) (kf way km : Nat) (one : Int32) (x y : Int) (a b : Nat) : Int32 := if way = 1 then (if bsv F kf x y a b = one then 0 else 1) else if way = 2 then (if bmk F D km x y a b = 1 then 1 else 0) else 1
def bfr (F : Nat → Nat → Int32) (D : Nat → Nat × Nat × Nat) (kf kt way : Nat) (one two : Int32) (x y u v : Int) (a b : Nat) : Int32 := if way = 0 then opD (D kt).1 one (bsv F kf x y a b) (F 5 (4096 * kt + bat u v a b)) else if way = 3 then (if bsv F kf x y a b = 0 then one else two) else bsv F kf x y a b
theorem bcm_01 (F : Nat → Nat → Int32) (D : Nat → Nat × Nat × Nat) (kf way km : Nat) (one : Int32) (x y : Int) (a b : Nat) : vp_nar .boolean (bcm F D kf way km one x y a b) = bcm F D kf way km one x y a b := by
  have z0 : vp_nar .boolean 0 = 0 := rfl
  have z1 : vp_nar .boolean 1 = 1 := rfl
  unfold bcm
  split
  · split <;> assumption
  · split
    · split <;> assumption
    · assumption
section BRG
variable {m n : Nat} {ms dr : Int32} {F : Nat → Nat → Int32} {D : Nat → Nat × Nat × Nat} {K : Nat → Nat × Nat × Nat × Nat}
/-- the heart: one dot -/
theorem m_bring1 (R : MR n D K F) (hD : DK n D K) {kf kt way km w g : Nat} (hf : kf < n) (ht : kt < n) (hway : way ≤ 3) {one : Int32} (two : Int32) (hkm : way = 2 → km < n ∧ one = nI km) (x y u v : Int32) {F1 : Nat → Nat → Int32} {h : hm_H} (M : MH m n ms dr F1 h) (hj : ∀ j, j ≠ 6 → j ≠ 7 → F1 j = F j) {a b : Nat} (ha : a < w) (hb : b < g) (hw : w ≤ 64) (hg : g ≤ 64) (c : Int32) (K31 : Option Nat → Int32 → Int32 → Int32 → Int32 → Int32 → Int32 → Int32 → Int32 → Int32 → Int32 → Int32 → Int32 → Int32 → hm_H → Option (Int32 × hm_H)) (K41 : Option Nat → Int32 → Int32 → Int32 → Int32 → Int32 → Int32 → Int32 → Int32 → Int32 → Int32 → Int32 → Int32 → Int32 → Int32 → hm_H → Option (Int32 × hm_H)) :
    ((inb x.toInt u.toInt (D kf).2.1 (K kt).1 (K kt).2.2.1 a && inb y.toInt v.toInt (D kf).2.2 (K kt).2.1 (K kt).2.2.2 b) = true → ∃ h', fX6_bring_41 K31 K41 (some m) (nI kf) x y (nI w) (nI g) (nI kt) u v (nI way) one two c (nI b) (nI a) h = K41 (some m) (nI kf) x y (nI w) (nI g) (nI kt) u v (nI way) one two (c + 1) (nI b) (nI (a + 1)) h' ∧ bat u.toInt v.toInt a b < 4096 ∧ MH m n ms dr (va_up (va_up F1 7 (upd (F1 7) (bat u.toInt v.toInt a b) (bcm F D kf way km one x.toInt y.toInt a b))) 6 (upd (F1 6) (bat u.toInt v.toInt a b) (bfr F D kf kt way one two x.toInt y.toInt u.toInt v.toInt a b))) h') ∧
    ((inb x.toInt u.toInt (D kf).2.1 (K kt).1 (K kt).2.2.1 a && inb y.toInt v.toInt (D kf).2.2 (K kt).2.1 (K kt).2.2.2 b) = false → fX6_bring_41 K31 K41 (some m) (nI kf) x y (nI w) (nI g) (nI kt) u v (nI way) one two c (nI b) (nI a) h = K41 (some m) (nI kf) x y (nI w) (nI g) (nI kt) u v (nI way) one two c (nI b) (nI (a + 1)) h) := by
  have R1 : MR n D K F1 := R.keep (hj 1 (by decide) (by decide)) (hj 2 (by decide) (by decide)) (hj 3 (by decide) (by decide)) (hj 4 (by decide) (by decide)) (fun i j _ _ _ => by rw [hj 5 (by decide) (by decide)])
  have F5 : F1 5 = F 5 := hj 5 (by decide) (by decide)
  have hdf := hD.2 kf hf
  have hdt := hD.2 kt ht
  have hn := hD.1
  have rx := i_rng x
  have ry := i_rng y
  have ru := i_rng u
  have rv := i_rng v
  have sA : sm (x.toInt + a) := by unfold sm; omega
  have sB : sm (y.toInt + b) := by unfold sm; omega
  have sU : sm (u.toInt + a) := by unfold sm; omega
  have sV : sm (v.toInt + b) := by unfold sm; omega
  have L1 : u.toInt64 + (nI a).toInt64 = iL (u.toInt + a) := by rw [i2L, nI_L (show a < 2 ^ 31 by omega), iL_add]
  have L2 : v.toInt64 + (nI b).toInt64 = iL (v.toInt + b) := by rw [i2L, nI_L (show b < 2 ^ 31 by omega), iL_add]
  have L3 : x.toInt64 + (nI a).toInt64 = iL (x.toInt + a) := by rw [i2L, nI_L (show a < 2 ^ 31 by omega), iL_add]
  have L4 : y.toInt64 + (nI b).toInt64 = iL (y.toInt + b) := by rw [i2L, nI_L (show b < 2 ^ 31 by omega), iL_add]
  have head : fX6_bring_41 K31 K41 (some m) (nI kf) x y (nI w) (nI g) (nI kt) u v (nI way) one two c (nI b) (nI a) h = (hm_b2 (fX6_isPlace m (nI kf) (iL (x.toInt + a)) (iL (y.toInt + b)) h) fun v16 h14 => if v16 = 0 then fX6_bring_255 K41 (some m) (nI kf) x y (nI w) (nI g) (nI kt) u v (nI way) one two c (nI b) (nI a) h14 else
      hm_b (hm_rc 6 h14 (some m)) fun b18 =>
      hm_b2 (fX6_isInClip b18 (nI kt) (iL (u.toInt + a)) (iL (v.toInt + b)) h14) fun v19 h17 =>
      if v19 = 0 then
        fX6_bring_255 K41 (some m) (nI kf) x y (nI w) (nI g) (nI kt) u v (nI way) one two c (nI b) (nI a) h17
      else
        hm_let (((64 : Int32) * ((iL (v.toInt + b)).toInt32)) + ((iL (u.toInt + a)).toInt32)) fun v20 =>
        hm_b (hm_rc 6 h17 (some m)) fun b22 =>
        hm_b2 (fX6_dot b22 (nI kf) (iL (x.toInt + a)) (iL (y.toInt + b)) h17) fun v23 h21 =>
        hm_b (hm_gq 6 5 h21 (some m)) fun v24 =>
        hm_b (hm_ai 0 h21 v24 (((4096 : Int32) * (nI kt)) + v20)) fun v25 =>
        hm_b (hm_gq 6 7 h21 (some m)) fun v26 =>
        if nI way = (1 : Int32) then
          if v23 = one then
            fX6_bring_201 K41 (some m) (nI kf) x y (nI w) (nI g) (nI kt) u v (nI way) one two (c + (1 : Int32)) (nI b) (nI a) v20 v23 v25 (0 : Int32) v20 v26 h21
          else
            fX6_bring_201 K41 (some m) (nI kf) x y (nI w) (nI g) (nI kt) u v (nI way) one two (c + (1 : Int32)) (nI b) (nI a) v20 v23 v25 (1 : Int32) v20 v26 h21
        else
          if nI way = (2 : Int32) then
            hm_b (hm_rc 6 h21 (some m)) fun b28 =>
            hm_b2 (fX6_dot b28 one (iL (x.toInt + a)) (iL (y.toInt + b)) h21) fun v29 h27 =>
            if v29 = (1 : Int32) then
              fX6_bring_196 K41 (some m) (nI kf) x y (nI w) (nI g) (nI kt) u v (nI way) one two (c + (1 : Int32)) (nI b) (nI a) v20 v23 v25 v20 v26 h27
            else
              fX6_bring_201 K41 (some m) (nI kf) x y (nI w) (nI g) (nI kt) u v (nI way) one two (c + (1 : Int32)) (nI b) (nI a) v20 v23 v25 (0 : Int32) v20 v26 h27
          else
            fX6_bring_196 K41 (some m) (nI kf) x y (nI w) (nI g) (nI kt) u v (nI way) one two (c + (1 : Int32)) (nI b) (nI a) v20 v23 v25 v20 v26 h21) := by
    rw [fX6_bring_41, if_neg (nI_ge ha (by omega)), hlet_s, hlet_s, hlet_s, hlet_s, L1, L2, L3, L4, M.rc, hb_s]
  rw [head]
  constructor
  · intro hin
    rw [Bool.and_eq_true, inb_t, inb_t] at hin
    obtain ⟨⟨a1, a2, a3, a4⟩, b1, b2, b3, b4⟩ := hin
    have hb4 : bat u.toInt v.toInt a b < 4096 := by unfold bat; omega
    have ix : (64 : Int32) * (iL (v.toInt + b)).toInt32 + (iL (u.toInt + a)).toInt32 = nI (bat u.toInt v.toInt a b) := by
      rw [iL_I, iL_I, show v.toInt + b = (((v.toInt + b).toNat : Nat) : Int) by omega, show u.toInt + a = (((u.toInt + a).toNat : Nat) : Int) by omega, iI_nat, iI_nat, show (64 : Int32) = nI 64 from rfl, pk_mul, nI_add]
      rfl
    have ix2 : (4096 : Int32) * nI kt + nI (bat u.toInt v.toInt a b) = nI (4096 * kt + bat u.toInt v.toInt a b) := by rw [show (4096 : Int32) = nI 4096 from rfl, pk_mul, nI_add]
    have dS : fX6_dot m (nI kf) (iL (x.toInt + a)) (iL (y.toInt + b)) h = some (bsv F kf x.toInt y.toInt a b, h) := by
      rw [m_dot M R1 hD hf sA sB, if_pos ⟨a1, a2, b1, b2⟩, F5]
      rfl
    have dD : hm_ai 0 h (some (m + 5)) (nI (4096 * kt + bat u.toInt v.toInt a b)) = some (F 5 (4096 * kt + bat u.toInt v.toInt a b)) := by
      rw [M.ai 5 (by decide) (by show _ < 32768; omega), F5]
    obtain ⟨h1, e1, M1, -⟩ := M.zs (j := bat u.toInt v.toInt a b) (bcm F D kf way km one x.toInt y.toInt a b) hb4
    obtain ⟨h2, e2, M2, -⟩ := M1.si 6 (j := bat u.toInt v.toInt a b) (bfr F D kf kt way one two x.toInt y.toInt u.toInt v.toInt a b) (by decide) hb4
    rw [va_up_ne F1 _ (show (6 : Nat) ≠ 7 by decide)] at M2
    refine ⟨h2, ?_, hb4, M2⟩
    have R1' : MR n D K (va_up F1 7 (upd (F1 7) (bat u.toInt v.toInt a b) (bcm F D kf way km one x.toInt y.toInt a b))) := R1.keep rfl rfl rfl rfl (fun _ _ _ _ _ => rfl)
    have tail : ∀ s0, s0 = bcm F D kf way km one x.toInt y.toInt a b → fX6_bring_201 K41 (some m) (nI kf) x y (nI w) (nI g) (nI kt) u v (nI way) one two (c + (1 : Int32)) (nI b) (nI a) (nI (bat u.toInt v.toInt a b)) (bsv F kf x.toInt y.toInt a b) (F 5 (4096 * kt + bat u.toInt v.toInt a b)) s0 (nI (bat u.toInt v.toInt a b)) (some (m + 7)) h = K41 (some m) (nI kf) x y (nI w) (nI g) (nI kt) u v (nI way) one two (c + 1) (nI b) (nI (a + 1)) h2 := by
      rintro s0 rfl
      rw [fX6_bring_201, bcm_01, e1, hb_s, M1.q6, hb_s]
      have fin : ∀ z, z = bfr F D kf kt way one two x.toInt y.toInt u.toInt v.toInt a b → fX6_bring_254 K41 (some m) (nI kf) x y (nI w) (nI g) (nI kt) u v (nI way) one two (c + (1 : Int32)) (nI b) (nI a) z (nI (bat u.toInt v.toInt a b)) (some (m + 6)) h1 = K41 (some m) (nI kf) x y (nI w) (nI g) (nI kt) u v (nI way) one two (c + 1) (nI b) (nI (a + 1)) h2 := by
        rintro z rfl
        rw [fX6_bring_254, e2, hb_s, fX6_bring_255, nI_1]
      by_cases q0 : way = 0
      · subst q0
        rw [if_pos (show nI 0 = 0 from rfl), m_combined, hb2_s, M1.rc, hb_s, m_fitted M1 R1' hD ht, hb2_s]
        apply fin
        rw [opD_m hdt.1]
        unfold bfr
        rw [if_pos rfl]
      · rw [if_neg (nI_ne0 (by omega) (by omega))]
        by_cases q3 : way = 3
        · subst q3
          rw [if_pos (show nI 3 = 3 from rfl)]
          by_cases qs : bsv F kf x.toInt y.toInt a b = 0
          · rw [if_pos qs]
            apply fin
            unfold bfr
            rw [if_neg (by decide), if_pos rfl, if_pos qs]
          · rw [if_neg qs]
            apply fin
            unfold bfr
            rw [if_neg (by decide), if_pos rfl, if_neg qs]
        · rw [if_neg (by rw [show (3 : Int32) = nI 3 from rfl, nI_eq (by omega) (by omega)]; exact q3)]
          apply fin
          unfold bfr
          rw [if_neg q0, if_neg q3]
    rw [bif_t (m_isPlace M R1 hD hf sA sB) ⟨a1, a2, b1, b2⟩, hb2_s, if_neg (by decide), M.rc, hb_s, bif_t (m_isInClip M R1 hD ht sU sV) ⟨a3, a4, b3, b4⟩, hb2_s, if_neg (by decide), hlet_s, ix, M.rc, hb_s, dS, hb2_s, M.q5, hb_s, ix2, dD, hb_s, M.q7, hb_s]
    by_cases q1 : way = 1
    · subst q1
      rw [if_pos (show nI 1 = 1 from rfl)]
      by_cases qs : bsv F kf x.toInt y.toInt a b = one
      · rw [if_pos qs]
        exact tail _ (by unfold bcm; rw [if_pos rfl, if_pos qs])
      · rw [if_neg qs]
        exact tail _ (by unfold bcm; rw [if_pos rfl, if_neg qs])
    · rw [if_neg (by rw [show (1 : Int32) = nI 1 from rfl, nI_eq (by omega) (by omega)]; exact q1)]
      by_cases q2 : way = 2
      · obtain ⟨hkm1, rfl⟩ := hkm q2
        subst q2
        have dM : fX6_dot m (nI km) (iL (x.toInt + a)) (iL (y.toInt + b)) h = some (bmk F D km x.toInt y.toInt a b, h) := by
          rw [m_dot M R1 hD hkm1 sA sB, F5]
          rfl
        rw [if_pos (show nI 2 = 2 from rfl), M.rc, hb_s, dM, hb2_s]
        by_cases qs : bmk F D km x.toInt y.toInt a b = 1
        · rw [if_pos qs, fX6_bring_196]
          exact tail _ (by unfold bcm; rw [if_neg (by decide), if_pos rfl, if_pos qs])
        · rw [if_neg qs]
          exact tail _ (by unfold bcm; rw [if_neg (by decide), if_pos rfl, if_neg qs])
      · rw [if_neg (by rw [show (2 : Int32) = nI 2 from rfl, nI_eq (by omega) (by omega)]; exact q2), fX6_bring_196]
        exact tail _ (by unfold bcm; rw [if_neg q1, if_neg q2])
  · intro hin
    by_cases p1 : 0 ≤ x.toInt + a ∧ x.toInt + a < (D kf).2.1 ∧ 0 ≤ y.toInt + b ∧ y.toInt + b < (D kf).2.2
    · rw [bif_t (m_isPlace M R1 hD hf sA sB) p1, hb2_s, if_neg (by decide), M.rc, hb_s, bif_f (m_isInClip M R1 hD ht sU sV) (fun z => by
        have : (inb x.toInt u.toInt (D kf).2.1 (K kt).1 (K kt).2.2.1 a && inb y.toInt v.toInt (D kf).2.2 (K kt).2.1 (K kt).2.2.2 b) = true := by
          rw [Bool.and_eq_true, inb_t, inb_t]
          omega
        rw [hin] at this
        cases this), hb2_s, if_pos rfl, fX6_bring_255, nI_1]
    · rw [bif_f (m_isPlace M R1 hD hf sA sB) p1, hb2_s, if_pos rfl, fX6_bring_255, nI_1]
/-- how far the bringing is -/
def brI (F F1 : Nat → Nat → Int32) (D : Nat → Nat × Nat × Nat) (K : Nat → Nat × Nat × Nat × Nat) (kf kt way km w g : Nat) (one two : Int32) (x y u v : Int) (bb aa : Nat) : Prop :=
  (∀ a b, a < w → b < g → inb x u (D kf).2.1 (K kt).1 (K kt).2.2.1 a = true → inb y v (D kf).2.2 (K kt).2.1 (K kt).2.2.2 b = true → (b < bb ∨ b = bb ∧ a < aa) → F1 7 (bat u v a b) = bcm F D kf way km one x y a b ∧ F1 6 (bat u v a b) = bfr F D kf kt way one two x y u v a b) ∧
  ∀ j, j < 4096 → (∀ a b, a < w → b < g → inb x u (D kf).2.1 (K kt).1 (K kt).2.2.1 a = true → inb y v (D kf).2.2 (K kt).2.1 (K kt).2.2.2 b = true → (b < bb ∨ b = bb ∧ a < aa) → j ≠ bat u v a b) → F1 7 j = 0
theorem bat_inj {u v : Int} {a a' b b' : Nat} (h1 : 0 ≤ u + a ∧ u + a < 64) (h2 : 0 ≤ u + a' ∧ u + a' < 64) (h3 : 0 ≤ v + b) (h4 : 0 ≤ v + b') (h : bat u v a b = bat u v a' b') : a = a' ∧ b = b' := by
  unfold bat at h
  omega
theorem m_bring2 (R : MR n D K F) (hD : DK n D K) {kf kt way km w g : Nat} (hf : kf < n) (ht : kt < n) (hway : way ≤ 3) {one : Int32} (two : Int32) (hkm : way = 2 → km < n ∧ one = nI km) (x y u v : Int32) (hw : w ≤ 64) (hg : g ≤ 64) (K31 : Option Nat → Int32 → Int32 → Int32 → Int32 → Int32 → Int32 → Int32 → Int32 → Int32 → Int32 → Int32 → Int32 → Int32 → hm_H → Option (Int32 × hm_H)) {b : Nat} (hb : b < g) (N0 : Nat) :
    ∀ r a fu (F1 : Nat → Nat → Int32) h, a + r = w → r < fu → MH m n ms dr F1 h → (∀ j, j ≠ 6 → j ≠ 7 → F1 j = F j) → brI F F1 D K kf kt way km w g one two x.toInt y.toInt u.toInt v.toInt b a →
    ∃ (F2 : Nat → Nat → Int32) (h' : hm_H), hm_loop (fun _ _ _ _ _ _ _ _ _ _ _ _ _ _ _ _ => none) (fX6_bring_41 K31) fu (some m) (nI kf) x y (nI w) (nI g) (nI kt) u v (nI way) one two (nI (N0 + (inb y.toInt v.toInt (D kf).2.2 (K kt).2.1 (K kt).2.2.2 b).toNat * cq (inb x.toInt u.toInt (D kf).2.1 (K kt).1 (K kt).2.2.1) a)) (nI b) (nI a) h = K31 (some m) (nI kf) x y (nI w) (nI g) (nI kt) u v (nI way) one two (nI (N0 + (inb y.toInt v.toInt (D kf).2.2 (K kt).2.1 (K kt).2.2.2 b).toNat * cq (inb x.toInt u.toInt (D kf).2.1 (K kt).1 (K kt).2.2.1) w)) (nI (b + 1)) h' ∧ MH m n ms dr F2 h' ∧ (∀ j, j ≠ 6 → j ≠ 7 → F2 j = F j) ∧ brI F F2 D K kf kt way km w g one two x.toInt y.toInt u.toInt v.toInt (b + 1) 0 := by
  have hdt := hD.2 kt ht
  intro r
  induction r with
  | zero =>
    intro a fu F1 h ha hfu M hj I
    obtain ⟨fu, rfl⟩ : ∃ q, fu = q + 1 := ⟨fu - 1, by omega⟩
    have : a = w := by omega
    subst this
    refine ⟨F1, h, ?_, M, hj, fun a' b' p1 p2 p3 p4 p5 => I.1 a' b' p1 p2 p3 p4 (by omega), fun j q1 q2 => I.2 j q1 (fun a' b' p1 p2 p3 p4 p5 => q2 a' b' p1 p2 p3 p4 (by omega))⟩
    rw [hm_loop_s, fX6_bring_41, if_pos (nI_le (Nat.le_refl _) (by omega)), nI_1]
  | succ r ih =>
    intro a fu F1 h ha hfu M hj I
    obtain ⟨fu, rfl⟩ : ∃ q, fu = q + 1 := ⟨fu - 1, by omega⟩
    obtain ⟨Y, N⟩ := m_bring1 R hD (kf := kf) (kt := kt) (way := way) (km := km) (w := w) (g := g) hf ht hway two hkm x y u v M hj (a := a) (b := b) (by omega) hb hw hg (nI (N0 + (inb y.toInt v.toInt (D kf).2.2 (K kt).2.1 (K kt).2.2.2 b).toNat * cq (inb x.toInt u.toInt (D kf).2.1 (K kt).1 (K kt).2.2.1) a)) K31 (hm_loop (fun _ _ _ _ _ _ _ _ _ _ _ _ _ _ _ _ => none) (fX6_bring_41 K31) fu)
    by_cases q : (inb x.toInt u.toInt (D kf).2.1 (K kt).1 (K kt).2.2.1 a && inb y.toInt v.toInt (D kf).2.2 (K kt).2.1 (K kt).2.2.2 b) = true
    · obtain ⟨h1, e1, hb4, M1⟩ := Y q
      rw [Bool.and_eq_true] at q
      obtain ⟨qa, qb⟩ := q
      have qa' := inb_t.mp qa
      have qb' := inb_t.mp qb
      have I1 : brI F (va_up (va_up F1 7 (upd (F1 7) (bat u.toInt v.toInt a b) (bcm F D kf way km one x.toInt y.toInt a b))) 6 (upd (F1 6) (bat u.toInt v.toInt a b) (bfr F D kf kt way one two x.toInt y.toInt u.toInt v.toInt a b))) D K kf kt way km w g one two x.toInt y.toInt u.toInt v.toInt b (a + 1) := by
        constructor
        · intro a' b' p1 p2 p3 p4 p5
          have p3' := inb_t.mp p3
          have p4' := inb_t.mp p4
          rw [va_up_self, va_up_ne _ _ (show (7 : Nat) ≠ 6 by decide), va_up_self]
          by_cases qe : a' = a ∧ b' = b
          · obtain ⟨rfl, rfl⟩ := qe
            exact ⟨upd_s, upd_s⟩
          · have ne : bat u.toInt v.toInt a' b' ≠ bat u.toInt v.toInt a b := fun z => qe (bat_inj (by omega) (by omega) (by omega) (by omega) z)
            rw [upd_n ne, upd_n ne]
            exact I.1 a' b' p1 p2 p3 p4 (by omega)
        · intro j q1 q2
          rw [va_up_ne _ _ (show (7 : Nat) ≠ 6 by decide), va_up_self, upd_n (q2 a b (by omega) hb qa qb (by omega))]
          exact I.2 j q1 (fun a' b' p1 p2 p3 p4 p5 => q2 a' b' p1 p2 p3 p4 (by omega))
      obtain ⟨F2, h', e', M', j', I'⟩ := ih (a + 1) fu _ h1 (by omega) (by omega) M1 (fun j p1 p2 => by rw [va_up_ne _ _ p1, va_up_ne _ _ p2]; exact hj j p1 p2) I1
      refine ⟨F2, h', ?_, M', j', I'⟩
      rw [hm_loop_s, e1]
      rw [cq_s, qa, qb] at e'
      rw [qb, nI_1]
      rw [← e']
      congr 2
    · have q' : (inb x.toInt u.toInt (D kf).2.1 (K kt).1 (K kt).2.2.1 a && inb y.toInt v.toInt (D kf).2.2 (K kt).2.1 (K kt).2.2.2 b) = false := by
        cases z : (inb x.toInt u.toInt (D kf).2.1 (K kt).1 (K kt).2.2.1 a && inb y.toInt v.toInt (D kf).2.2 (K kt).2.1 (K kt).2.2.2 b) with
        | true => exact absurd z q
        | false => rfl
      have I1 : brI F F1 D K kf kt way km w g one two x.toInt y.toInt u.toInt v.toInt b (a + 1) := by
        constructor
        · intro a' b' p1 p2 p3 p4 p5
          by_cases qe : a' = a ∧ b' = b
          · obtain ⟨rfl, rfl⟩ := qe
            rw [p3, p4] at q'
            cases q'
          · exact I.1 a' b' p1 p2 p3 p4 (by omega)
        · intro j q1 q2
          exact I.2 j q1 (fun a' b' p1 p2 p3 p4 p5 => q2 a' b' p1 p2 p3 p4 (by omega))
      obtain ⟨F2, h', e', M', j', I'⟩ := ih (a + 1) fu F1 h (by omega) (by omega) M hj I1
      refine ⟨F2, h', ?_, M', j', I'⟩
      rw [hm_loop_s, N q', ← e', cq_s]
      congr 2
      cases za : inb x.toInt u.toInt (D kf).2.1 (K kt).1 (K kt).2.2.1 a with
      | false => simp
      | true =>
        rw [za] at q'
        cases zb : inb y.toInt v.toInt (D kf).2.2 (K kt).2.1 (K kt).2.2.2 b with
        | false => simp
        | true => rw [zb] at q'; cases q'
end BRG
