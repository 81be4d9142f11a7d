/-! ===== Int32 by its bits: bt x i ===== -/
def bt (x : Int32) (i : Nat) : Bool := x.toBitVec.getLsbD i
theorem b_ext {x y : Int32} (h : ∀ i, i < 32 → bt x i = bt y i) : x = y := Int32.toBitVec_inj.mp (BitVec.eq_of_getLsbD_eq (fun i hi => h i hi))
theorem b_or (x y : Int32) (i : Nat) : bt (x ||| y) i = (bt x i || bt y i) := by unfold bt; rw [Int32.toBitVec_or, BitVec.getLsbD_or]
theorem b_and (x y : Int32) (i : Nat) : bt (x &&& y) i = (bt x i && bt y i) := by unfold bt; rw [Int32.toBitVec_and, BitVec.getLsbD_and]
theorem b_xor (x y : Int32) (i : Nat) : bt (x ^^^ y) i = (bt x i ^^ bt y i) := by unfold bt; rw [Int32.toBitVec_xor, BitVec.getLsbD_xor]
theorem b_big {x : Int32} {i : Nat} (h : 32 ≤ i) : bt x i = false := BitVec.getLsbD_of_ge _ _ h
theorem b_255 (i : Nat) : bt 255 i = decide (i < 8) := by
  rcases Nat.lt_or_ge i 32 with h | h
  · exact (by decide +kernel : ∀ i, i < 32 → bt 255 i = decide (i < 8)) i h
  · rw [b_big h, decide_eq_false (by omega)]
theorem b_65535 (i : Nat) : bt 65535 i = decide (i < 16) := by
  rcases Nat.lt_or_ge i 32 with h | h
  · exact (by decide +kernel : ∀ i, i < 32 → bt 65535 i = decide (i < 16)) i h
  · rw [b_big h, decide_eq_false (by omega)]
theorem b_m1 : ∀ i, i < 32 → bt (-1) i = true := by decide +kernel
theorem b_0 (i : Nat) : bt 0 i = false := BitVec.getLsbD_zero
theorem s_l : ∀ n, n < 32 → ((nI n &&& 31).toBitVec.smod 32).toNat = n := by decide +kernel
theorem s_u : ∀ n, n < 32 → (((nI n).toUInt32 &&& Int32.toUInt32 31).toBitVec % 32).toNat = n := by decide +kernel
theorem b_shl (n : Nat) (hn : n < 32) (x : Int32) {i : Nat} (hi : i < 32) : bt (x <<< (nI n &&& 31)) i = (decide (n ≤ i) && bt x (i - n)) := by
  unfold bt
  rw [Int32.toBitVec_shiftLeft]
  show (x.toBitVec <<< ((nI n &&& 31).toBitVec.smod 32).toNat).getLsbD i = _
  rw [s_l n hn, BitVec.getLsbD_shiftLeft]
  rcases Nat.lt_or_ge i n with h | h
  · simp [h, Nat.not_le.mpr h]
  · simp [hi, h, Nat.not_lt.mpr h]
theorem b_ushr (n : Nat) (hn : n < 32) (x : Int32) (i : Nat) : bt ((x.toUInt32 >>> ((nI n).toUInt32 &&& Int32.toUInt32 31)).toInt32) i = bt x (n + i) := by
  show (x.toUInt32 >>> ((nI n).toUInt32 &&& Int32.toUInt32 31)).toBitVec.getLsbD i = x.toUInt32.toBitVec.getLsbD (n + i)
  rw [UInt32.toBitVec_shiftRight]
  show (x.toUInt32.toBitVec >>> (((nI n).toUInt32 &&& Int32.toUInt32 31).toBitVec % 32).toNat).getLsbD i = _
  rw [s_u n hn, BitVec.getLsbD_ushiftRight]
theorem b_sshr (n : Nat) (hn : n < 32) (x : Int32) {i : Nat} (hi : i < 32) : bt (x >>> (nI n &&& 31)) i = if n + i < 32 then bt x (n + i) else bt x 31 := by
  unfold bt
  rw [Int32.toBitVec_shiftRight]
  show (x.toBitVec.sshiftRight ((nI n &&& 31).toBitVec.smod 32).toNat).getLsbD i = _
  rw [s_l n hn, BitVec.getLsbD_sshiftRight, BitVec.msb_eq_getLsbD_last]
  simp [hi]
theorem b_shl8 (x : Int32) {i : Nat} (hi : i < 32) : bt (x <<< ((8 : Int32) &&& 31)) i = (decide (8 ≤ i) && bt x (i - 8)) := b_shl 8 (by omega) x hi
theorem b_shl16 (x : Int32) {i : Nat} (hi : i < 32) : bt (x <<< ((16 : Int32) &&& 31)) i = (decide (16 ≤ i) && bt x (i - 16)) := b_shl 16 (by omega) x hi
theorem b_shl24 (x : Int32) {i : Nat} (hi : i < 32) : bt (x <<< ((24 : Int32) &&& 31)) i = (decide (24 ≤ i) && bt x (i - 24)) := b_shl 24 (by omega) x hi
theorem b_sshr8 (x : Int32) {i : Nat} (hi : i < 32) : bt (x >>> ((8 : Int32) &&& 31)) i = if 8 + i < 32 then bt x (8 + i) else bt x 31 := b_sshr 8 (by omega) x hi
/-! the operations of two bits -/
def opR1 (op s d : Int32) : Int32 := if op &&& 1 = 0 then 0 else 0 ||| ((s ^^^ (-1)) &&& (d ^^^ (-1)))
def opR2 (op s d : Int32) : Int32 := if op &&& 2 = 0 then opR1 op s d else opR1 op s d ||| ((s ^^^ (-1)) &&& d)
def opR3 (op s d : Int32) : Int32 := if op &&& 4 = 0 then opR2 op s d else opR2 op s d ||| (s &&& (d ^^^ (-1)))
def opR (op s d : Int32) : Int32 := if op &&& 8 = 0 then opR3 op s d else opR3 op s d ||| (s &&& d)
theorem p_combined (op s d : Int32) (h : hm_H) : fX5_combined op s d h = some (opR op s d, h) := by
  have e46 : ∀ x, fX5_combined_46 op s d x h = some (if op &&& 8 = 0 then x else x ||| (s &&& d), h) := by
    intro x
    unfold fX5_combined_46
    by_cases q : op &&& 8 = 0
    · rw [if_pos q, if_pos q]
    · rw [if_neg q, if_neg q, hlet_s]
  have e32 : ∀ x, fX5_combined_32 op s d x h = fX5_combined_46 op s d (if op &&& 4 = 0 then x else x ||| (s &&& (d ^^^ (-1)))) h := by
    intro x
    unfold fX5_combined_32
    by_cases q : op &&& 4 = 0
    · rw [if_pos q, if_pos q]
    · rw [if_neg q, if_neg q, hlet_s]
  have e18 : ∀ x, fX5_combined_18 op s d x h = fX5_combined_32 op s d (if op &&& 2 = 0 then x else x ||| ((s ^^^ (-1)) &&& d)) h := by
    intro x
    unfold fX5_combined_18
    by_cases q : op &&& 2 = 0
    · rw [if_pos q, if_pos q]
    · rw [if_neg q, if_neg q, hlet_s]
  have e0 : fX5_combined op s d h = fX5_combined_18 op s d (opR1 op s d) h := by
    unfold fX5_combined opR1
    by_cases q : op &&& 1 = 0
    · rw [if_pos q, if_pos q]
    · rw [if_neg q, if_neg q, hlet_s]
  rw [e0, e18, e32, e46]
  rfl
theorem bt_p : ∀ k, k < 4 → ∀ i, i < 32 → bt (nI (2 ^ k)) i = decide (i = k) := by decide +kernel
theorem bt_and0 (op : Int32) {k : Nat} (hk : k < 4) : op &&& nI (2 ^ k) = 0 ↔ bt op k = false := by
  constructor
  · intro h
    have h1 := b_and op (nI (2 ^ k)) k
    rw [h, b_0, bt_p k hk k (by omega)] at h1
    simpa using h1.symm
  · intro h
    apply b_ext
    intro i hi
    rw [b_and, bt_p k hk i hi, b_0]
    by_cases e : i = k
    · subst e; simp [h]
    · simp [e]
theorem bt_op (op s d : Int32) {i : Nat} (hi : i < 32) : bt (opR op s d) i = bt op (2 * (bt s i).toNat + (bt d i).toNat) := by
  have n1 := b_m1 i hi
  have c1 := bt_and0 op (k := 0) (by decide)
  have c2 := bt_and0 op (k := 1) (by decide)
  have c3 := bt_and0 op (k := 2) (by decide)
  have c4 := bt_and0 op (k := 3) (by decide)
  have r1 : bt (opR1 op s d) i = (bt op 0 && (!bt s i && !bt d i)) := by
    unfold opR1
    by_cases q : op &&& 1 = 0
    · rw [if_pos q, b_0, c1.mp q]; rfl
    · rw [if_neg q, b_or, b_0, b_and, b_xor, b_xor, n1]
      have : bt op 0 = true := by cases z : bt op 0 with | true => rfl | false => exact absurd (c1.mpr z) q
      rw [this]; simp
  have r2 : bt (opR2 op s d) i = (bt (opR1 op s d) i || (bt op 1 && (!bt s i && bt d i))) := by
    unfold opR2
    by_cases q : op &&& 2 = 0
    · rw [if_pos q, c2.mp q]; simp
    · rw [if_neg q, b_or, b_and, b_xor, n1]
      have : bt op 1 = true := by cases z : bt op 1 with | true => rfl | false => exact absurd (c2.mpr z) q
      rw [this]; simp
  have r3 : bt (opR3 op s d) i = (bt (opR2 op s d) i || (bt op 2 && (bt s i && !bt d i))) := by
    unfold opR3
    by_cases q : op &&& 4 = 0
    · rw [if_pos q, c3.mp q]; simp
    · rw [if_neg q, b_or, b_and, b_xor, n1]
      have : bt op 2 = true := by cases z : bt op 2 with | true => rfl | false => exact absurd (c3.mpr z) q
      rw [this]; simp
  have r4 : bt (opR op s d) i = (bt (opR3 op s d) i || (bt op 3 && (bt s i && bt d i))) := by
    unfold opR
    by_cases q : op &&& 8 = 0
    · rw [if_pos q, c4.mp q]; simp
    · rw [if_neg q, b_or, b_and]
      have : bt op 3 = true := by cases z : bt op 3 with | true => rfl | false => exact absurd (c4.mpr z) q
      rw [this]; simp
  rw [r4, r3, r2, r1]
  cases bt s i <;> cases bt d i <;> simp
theorem bt_1 : ∀ i, i < 32 → bt 1 i = decide (i = 0) := by decide +kernel
theorem b_n0 (i : Nat) : bt (nI 0) i = false := b_0 i
theorem b_n1 {i : Nat} (hi : i < 32) : bt (nI 1) i = decide (i = 0) := bt_1 i hi
theorem b_n10 : bt (nI 1) 0 = true := by decide +kernel
theorem one_bit (x : Int32) {k : Nat} (hk : k < 32) : (x >>> (nI k &&& 31)) &&& 1 = nI (bt x k).toNat := by
  apply b_ext
  intro i hi
  rw [b_and, bt_1 i hi]
  by_cases e : i = 0
  · subst e
    rw [b_sshr k hk x (by omega), if_pos (by omega)]
    cases z : bt x k
    · simp [z, b_n0]
    · simp [z, b_n10]
  · cases z : bt x k
    · simp [e, b_n0]
    · simp [e, b_n1 hi]
theorem bt_mask : ∀ j, j < 9 → ∀ i, i < 32 → bt (nI (2 ^ j - 1)) i = decide (i < j) := by decide +kernel
theorem m_combined (op s d : Int32) (h : hm_H) : fX6_combined s d op h = some (opR op s d &&& nI 255, h) := by
  have step : ∀ j, j < 8 → (opR op s d &&& nI (2 ^ j - 1)) ||| (((op >>> (((2 : Int32) * ((s >>> (nI j &&& 31)) &&& 1) + ((d >>> (nI j &&& 31)) &&& 1)) &&& 31)) &&& 1) <<< (nI j &&& 31)) = opR op s d &&& nI (2 ^ (j + 1) - 1) := by
    intro j hj
    rw [one_bit s (by omega), one_bit d (by omega), show (2 : Int32) * nI (bt s j).toNat = nI (2 * (bt s j).toNat) from pk_mul 2 _, nI_add, one_bit op (by cases bt s j <;> cases bt d j <;> decide)]
    apply b_ext
    intro i hi
    rw [b_or, b_and, b_and, bt_mask j (by omega) i hi, bt_mask (j + 1) (by omega) i hi, b_shl j (by omega) _ hi, bt_op op s d hi]
    by_cases q : i = j
    · subst q
      rw [Nat.sub_self, decide_eq_false (show ¬ i < i by omega), decide_eq_true (show i ≤ i by omega), decide_eq_true (show i < i + 1 by omega)]
      cases z : bt op (2 * (bt s i).toNat + (bt d i).toNat)
      · simp [b_n0]
      · simp [b_n10]
    · rcases Nat.lt_or_gt_of_ne q with q | q
      · rw [decide_eq_true (show i < j by omega), decide_eq_false (show ¬ j ≤ i by omega), decide_eq_true (show i < j + 1 by omega)]
        simp
      · rw [decide_eq_false (show ¬ i < j by omega), decide_eq_true (show j ≤ i by omega), decide_eq_false (show ¬ i < j + 1 by omega)]
        have : bt (nI (bt op (2 * (bt s j).toNat + (bt d j).toNat)).toNat) (i - j) = false := by
          cases z : bt op (2 * (bt s j).toNat + (bt d j).toNat)
          · exact b_0 _
          · show bt 1 (i - j) = false
            rw [bt_1 _ (by omega)]
            simp
            omega
        rw [this]
        simp
  have key : ∀ r j fu, j + r = 8 → r < fu → hm_loop (fun _ _ _ _ _ _ => none) fX6_combined_5 fu s d op (opR op s d &&& nI (2 ^ j - 1)) (nI j) h = some (opR op s d &&& nI 255, h) := by
    intro r
    induction r with
    | zero =>
      intro j fu hj hfu
      obtain ⟨fu, rfl⟩ : ∃ q, fu = q + 1 := ⟨fu - 1, by omega⟩
      have : j = 8 := by omega
      subst this
      rw [hm_loop_s, fX6_combined_5, if_pos (by decide)]
    | succ r ih =>
      intro j fu hj hfu
      obtain ⟨fu, rfl⟩ : ∃ q, fu = q + 1 := ⟨fu - 1, by omega⟩
      rw [hm_loop_s, fX6_combined_5, if_neg (by rw [show (8 : Int32) = nI 8 from rfl]; exact nI_ge (by omega) (by omega)), hlet_s, hlet_s, step j (by omega), nI_1]
      exact ih (j + 1) fu (by omega) (by omega)
  have := key 8 0 hm_fu (by omega) (by decide)
  unfold fX6_combined
  have e0 : opR op s d &&& nI (2 ^ 0 - 1) = 0 := by
    apply b_ext
    intro i hi
    rw [b_and, bt_mask 0 (by decide) i hi, b_0]
    simp
  rw [e0] at this
  exact this
/-- within a depth -/
def opD (dep : Nat) (op s d : Int32) : Int32 := opR op s d &&& nI (2 ^ dep - 1)
theorem opD_m {dep : Nat} (hd : dep = 1 ∨ dep = 4 ∨ dep = 8) (op s d : Int32) : (opR op s d &&& nI 255) &&& nI (2 ^ dep - 1) = opD dep op s d := by
  unfold opD
  apply b_ext
  intro i hi
  rw [b_and, b_and, b_and, show nI 255 = nI (2 ^ 8 - 1) from rfl, bt_mask 8 (by decide) i hi, bt_mask dep (by omega) i hi]
  by_cases q : i < dep
  · rw [decide_eq_true q, decide_eq_true (show i < 8 by omega)]; simp
  · rw [decide_eq_false q]; simp
theorem opD_lt {dep : Nat} (hd : dep = 1 ∨ dep = 4 ∨ dep = 8) (op s d : Int32) : ∃ v, v < 2 ^ dep ∧ opD dep op s d = nI v := by
  have := pw_d hd
  refine ⟨_, ?_, pk_and (opR op s d) (m := nI (2 ^ dep - 1)) dep ?_⟩
  · exact Nat.mod_lt _ (by omega)
  · exact pk_tn (by omega)
/-- operation 12: what comes -/
theorem opD_12 {dep : Nat} (hd : dep = 1 ∨ dep = 4 ∨ dep = 8) {v : Nat} (hv : v < 2 ^ dep) (d : Int32) : opD dep 12 (nI v) d = nI v := by
  unfold opD
  have := pw_d hd
  have h1 : opR 12 (nI v) d = nI v := by
    apply b_ext
    intro i hi
    rw [bt_op _ _ _ hi]
    cases bt (nI v) i <;> cases bt d i <;> decide
  rw [h1, pk_andN (n := v) (by omega) (m := nI (2 ^ dep - 1)) dep (pk_tn (by omega)), Nat.mod_eq_of_lt hv]
theorem m_fitted {m n : Nat} {ms dr : Int32} {F : Nat → Nat → Int32} {h : hm_H} {D : Nat → Nat × Nat × Nat} {K : Nat → Nat × Nat × Nat × Nat} (M : MH m n ms dr F h) (R : MR n D K F) (hD : DK n D K) {k : Nat} (hk : k < n) (v : Int32) : fX6_fitted m (nI k) v h = some (v &&& nI (2 ^ (D k).1 - 1), h) := by
  obtain ⟨r1, -⟩ := R.1 k hk
  have hd := hD.2 k hk
  have hn := hD.1
  have pw := pw_d hd.1
  have e1 := M.ai 1 (j := k) (by decide) (by show k < 8; omega)
  rw [r1] at e1
  unfold fX6_fitted
  rw [M.q1, hb_s, e1, hb_s, sh_d hd.1, show nI (2 ^ (D k).1) - (1 : Int32) = nI (2 ^ (D k).1 - 1) from pk_sub (b := 1) pw.1]
