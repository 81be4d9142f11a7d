/-! THE STATE OF THE REFERENCE, over a map: the object at m, its arrays at m+1 .. m+13; F k are the contents of the array at m+k -/
def mL (k : Nat) : Nat := match k with
  | 1 => 8
  | 2 => 8
  | 3 => 8
  | 4 => 32
  | 5 => 32768
  | 6 => 4096
  | 7 => 4096
  | 8 => 4
  | 9 => 20000
  | 10 => 7000
  | _ => 4096
theorem mL_lt (k : Nat) : mL k < 2 ^ 31 := by
  unfold mL
  split <;> decide
def mF (m n : Nat) (ms dr : Int32) : List Value := [.int (nI n), .ref (m + 1), .ref (m + 2), .ref (m + 3), .ref (m + 4), .ref (m + 5), .ref (m + 6), .ref (m + 7), .ref (m + 8), .ref (m + 9), .ref (m + 10), .int ms, .int dr, .ref (m + 11), .ref (m + 12), .ref (m + 13)]
def MH (m n : Nat) (ms dr : Int32) (F : Nat → Nat → Int32) (h : hm_H) : Prop :=
  ob h m 6 (mF m n ms dr) ∧ (∀ k, 1 ≤ k → k ≤ 13 → k ≠ 7 → ia h (m + k) (mL k) (F k)) ∧ za h (m + 7) 4096 (F 7)
section MHS
variable {m n : Nat} {ms dr : Int32} {F : Nat → Nat → Int32} {h : hm_H}
theorem MH.gn (H : MH m n ms dr F h) : hm_gi 6 0 h (some m) = some (nI n) := ob_gi H.1 rfl
theorem MH.gm (H : MH m n ms dr F h) : hm_gi 6 11 h (some m) = some ms := ob_gi H.1 rfl
theorem MH.gd (H : MH m n ms dr F h) : hm_gi 6 12 h (some m) = some dr := ob_gi H.1 rfl
theorem MH.rc (H : MH m n ms dr F h) : hm_rc 6 h (some m) = some m := ob_rc H.1
theorem MH.q1 (H : MH m n ms dr F h) : hm_gq 6 1 h (some m) = some (some (m + 1)) := ob_gq H.1 rfl
theorem MH.q2 (H : MH m n ms dr F h) : hm_gq 6 2 h (some m) = some (some (m + 2)) := ob_gq H.1 rfl
theorem MH.q3 (H : MH m n ms dr F h) : hm_gq 6 3 h (some m) = some (some (m + 3)) := ob_gq H.1 rfl
theorem MH.q4 (H : MH m n ms dr F h) : hm_gq 6 4 h (some m) = some (some (m + 4)) := ob_gq H.1 rfl
theorem MH.q5 (H : MH m n ms dr F h) : hm_gq 6 5 h (some m) = some (some (m + 5)) := ob_gq H.1 rfl
theorem MH.q6 (H : MH m n ms dr F h) : hm_gq 6 6 h (some m) = some (some (m + 6)) := ob_gq H.1 rfl
theorem MH.q7 (H : MH m n ms dr F h) : hm_gq 6 7 h (some m) = some (some (m + 7)) := ob_gq H.1 rfl
theorem MH.q8 (H : MH m n ms dr F h) : hm_gq 6 8 h (some m) = some (some (m + 8)) := ob_gq H.1 rfl
theorem MH.q9 (H : MH m n ms dr F h) : hm_gq 6 9 h (some m) = some (some (m + 9)) := ob_gq H.1 rfl
theorem MH.q10 (H : MH m n ms dr F h) : hm_gq 6 10 h (some m) = some (some (m + 10)) := ob_gq H.1 rfl
theorem MH.q13 (H : MH m n ms dr F h) : hm_gq 6 13 h (some m) = some (some (m + 11)) := ob_gq H.1 rfl
theorem MH.q14 (H : MH m n ms dr F h) : hm_gq 6 14 h (some m) = some (some (m + 12)) := ob_gq H.1 rfl
theorem MH.q15 (H : MH m n ms dr F h) : hm_gq 6 15 h (some m) = some (some (m + 13)) := ob_gq H.1 rfl
/-- reading place j of the array at m+k -/
theorem MH.ai (H : MH m n ms dr F h) (k : Nat) {j : Nat} (hk : 1 ≤ k ∧ k ≤ 13 ∧ k ≠ 7) (hj : j < mL k) : hm_ai 0 h (some (m + k)) (nI j) = some (F k j) := ia_ai (H.2.1 k hk.1 hk.2.1 hk.2.2) hj (mL_lt k)
theorem MH.zi (H : MH m n ms dr F h) {j : Nat} (hj : j < 4096) : hm_ai 1 h (some (m + 7)) (nI j) = some (F 7 j) := za_ai H.2.2 hj (by decide)
/-- writing it -/
theorem MH.si (H : MH m n ms dr F h) (k : Nat) {j : Nat} (x : Int32) (hk : 1 ≤ k ∧ k ≤ 13 ∧ k ≠ 7) (hj : j < mL k) : ∃ h', hm_si 0 h (some (m + k)) (nI j) x = some h' ∧ MH m n ms dr (va_up F k (upd (F k) j x)) h' ∧ h'.2 = h.2 := by
  refine ⟨_, ia_si (H.2.1 k hk.1 hk.2.1 hk.2.2) hj (mL_lt k), ⟨(up_ne (by omega)).trans H.1, fun k' h1 h2 h3 => ?_, ?_⟩, rfl⟩
  · by_cases e : k' = k
    · subst e
      rw [va_up_self]
      exact va_up_self _ _ _
    · rw [va_up_ne _ _ e]
      exact (up_ne (by omega)).trans (H.2.1 k' h1 h2 h3)
  · rw [va_up_ne _ _ (Ne.symm hk.2.2)]
    exact (up_ne (by omega)).trans H.2.2
theorem MH.zs (H : MH m n ms dr F h) {j : Nat} (x : Int32) (hj : j < 4096) : ∃ h', hm_si 1 h (some (m + 7)) (nI j) x = some h' ∧ MH m n ms dr (va_up F 7 (upd (F 7) j x)) h' ∧ h'.2 = h.2 := by
  refine ⟨_, za_si H.2.2 hj (by decide), ⟨(up_ne (by omega)).trans H.1, fun k' h1 h2 h3 => ?_, ?_⟩, rfl⟩
  · rw [va_up_ne _ _ h3]
    exact (up_ne (by omega)).trans (H.2.1 k' h1 h2 h3)
  · rw [va_up_self]
    exact va_up_self _ _ _
theorem MH.pn (H : MH m n ms dr F h) (n' : Nat) : ∃ h', hm_p 6 0 (.int (nI n')) h (some m) = some h' ∧ MH m n' ms dr F h' ∧ h'.2 = h.2 := by
  refine ⟨_, ob_p H.1 (Nat.le_of_ble_eq_true rfl), ⟨va_up_self _ _ _, fun k' h1 h2 h3 => (up_ne (by omega)).trans (H.2.1 k' h1 h2 h3), (up_ne (by omega)).trans H.2.2⟩, rfl⟩
theorem MH.pm (H : MH m n ms dr F h) (x : Int32) : ∃ h', hm_p 6 11 (.int x) h (some m) = some h' ∧ MH m n x dr F h' ∧ h'.2 = h.2 := by
  refine ⟨_, ob_p H.1 (Nat.le_of_ble_eq_true rfl), ⟨va_up_self _ _ _, fun k' h1 h2 h3 => (up_ne (by omega)).trans (H.2.1 k' h1 h2 h3), (up_ne (by omega)).trans H.2.2⟩, rfl⟩
theorem MH.pd (H : MH m n ms dr F h) (x : Int32) : ∃ h', hm_p 6 12 (.int x) h (some m) = some h' ∧ MH m n ms x F h' ∧ h'.2 = h.2 := by
  refine ⟨_, ob_p H.1 (Nat.le_of_ble_eq_true rfl), ⟨va_up_self _ _ _, fun k' h1 h2 h3 => (up_ne (by omega)).trans (H.2.1 k' h1 h2 h3), (up_ne (by omega)).trans H.2.2⟩, rfl⟩
end MHS
theorem m_isSurface {m n : Nat} {ms dr : Int32} {F : Nat → Nat → Int32} {h : hm_H} (H : MH m n ms dr F h) (hn : n ≤ 8) (s : Int32) :
    (¬ isf n s → fX6_isSurface m s h = some (0, h)) ∧ (∀ k, k < n → s = nI k → fX6_isSurface m s h = some (1, h)) := by
  have tn : (nI n).toInt = n := nI_toInt (by omega)
  constructor
  · intro hs
    unfold isf at hs
    unfold fX6_isSurface
    by_cases q : s < 0
    · rw [if_pos q]
    · rw [if_neg q, H.gn, hb_s, if_pos (by rw [i_le, tn]; rw [i_lt0] at q; omega)]
  · rintro k hk rfl
    unfold fX6_isSurface
    have tk : (nI k).toInt = k := nI_toInt (by omega)
    rw [if_neg (nI_pos (by omega)), H.gn, hb_s, if_neg (by rw [i_le, tn, tk]; omega)]
theorem m_isSpan (s : Int32) (h : hm_H) : fX6_isSpan s h = some (if 0 ≤ s.toInt ∧ s.toInt ≤ 64 then 1 else 0, h) := by
  have t64 : (64 : Int32).toInt = 64 := rfl
  unfold fX6_isSpan
  simp only [i_lt, t64, Int32.toInt_zero]
  by_cases q : s.toInt < 0
  · rw [if_pos q, if_neg (by omega)]
  · rw [if_neg q]
    by_cases q2 : 64 < s.toInt
    · rw [if_pos q2, if_neg (by omega)]
    · rw [if_neg q2, if_pos (by omega)]
/-- what the reference's arrays say of the surfaces -/
def MR (n : Nat) (D : Nat → Nat × Nat × Nat) (K : Nat → Nat × Nat × Nat × Nat) (F : Nat → Nat → Int32) : Prop :=
  (∀ i, i < n → F 1 i = nI (D i).1 ∧ F 2 i = nI (D i).2.1 ∧ F 3 i = nI (D i).2.2 ∧ F 4 (4 * i) = nI (K i).1 ∧ F 4 (4 * i + 1) = nI (K i).2.1 ∧ F 4 (4 * i + 2) = nI (K i).2.2.1 ∧ F 4 (4 * i + 3) = nI (K i).2.2.2) ∧
  ∀ i j, n ≤ i → i < 8 → j < 4096 → F 5 (4096 * i + j) = 0
section MRS
variable {m n : Nat} {ms dr : Int32} {F : Nat → Nat → Int32} {h : hm_H} {D : Nat → Nat × Nat × Nat} {K : Nat → Nat × Nat × Nat × Nat}
theorem m_isPlace (H : MH m n ms dr F h) (R : MR n D K F) (hD : DK n D K) {k : Nat} (hk : k < n) {x y : Int} (hx : sm x) (hy : sm y) : fX6_isPlace m (nI k) (iL x) (iL y) h = some (if 0 ≤ x ∧ x < (D k).2.1 ∧ 0 ≤ y ∧ y < (D k).2.2 then 1 else 0, h) := by
  obtain ⟨r1, r2, r3, -⟩ := R.1 k hk
  have hd := hD.2 k hk
  have hn := hD.1
  unfold sm at hx hy
  have z0 : (0 : Int64) = iL 0 := rfl
  have c1 : iL x < iL 0 ↔ x < 0 := iL_lt (by omega) (by omega)
  have c2 : iL ((D k).2.1 : Int) ≤ iL x ↔ ((D k).2.1 : Int) ≤ x := iL_le (by omega) (by omega)
  have c3 : iL y < iL 0 ↔ y < 0 := iL_lt (by omega) (by omega)
  have c4 : iL ((D k).2.2 : Int) ≤ iL y ↔ ((D k).2.2 : Int) ≤ y := iL_le (by omega) (by omega)
  have e2 := H.ai 2 (j := k) (by decide) (by show k < 8; omega)
  have e3 := H.ai 3 (j := k) (by decide) (by show k < 8; omega)
  rw [r2] at e2
  rw [r3] at e3
  unfold fX6_isPlace
  rw [z0]
  simp only [H.q2, H.q3, e2, e3, hb_s, nI_L (show (D k).2.1 < 2 ^ 31 by omega), nI_L (show (D k).2.2 < 2 ^ 31 by omega), lg_lt, lg_ge, c1, c2, c3, c4]
  by_cases q1 : x < 0
  · rw [if_pos q1, if_neg (by omega)]
  · rw [if_neg q1]
    by_cases q2 : ((D k).2.1 : Int) ≤ x
    · rw [if_pos q2, if_neg (by omega)]
    · rw [if_neg q2]
      by_cases q3 : y < 0
      · rw [if_pos q3, if_neg (by omega)]
      · rw [if_neg q3]
        by_cases q4 : ((D k).2.2 : Int) ≤ y
        · rw [if_pos q4, if_neg (by omega)]
        · rw [if_neg q4, if_pos (by omega)]
theorem m_isInClip (H : MH m n ms dr F h) (R : MR n D K F) (hD : DK n D K) {k : Nat} (hk : k < n) {x y : Int} (hx : sm x) (hy : sm y) : fX6_isInClip m (nI k) (iL x) (iL y) h = some (if ((K k).1 : Int) ≤ x ∧ x < (K k).1 + (K k).2.2.1 ∧ ((K k).2.1 : Int) ≤ y ∧ y < (K k).2.1 + (K k).2.2.2 then 1 else 0, h) := by
  obtain ⟨-, -, -, r1, r2, r3, r4⟩ := R.1 k hk
  have hd := hD.2 k hk
  have hn := hD.1
  unfold sm at hx hy
  have e0 := H.ai 4 (j := 4 * k) (by decide) (by show _ < 32; omega)
  have e1 := H.ai 4 (j := 4 * k + 1) (by decide) (by show _ < 32; omega)
  have e2 := H.ai 4 (j := 4 * k + 2) (by decide) (by show _ < 32; omega)
  have e3 := H.ai 4 (j := 4 * k + 3) (by decide) (by show _ < 32; omega)
  rw [r1] at e0
  rw [r2] at e1
  rw [r3] at e2
  rw [r4] at e3
  have f4 : (4 : Int32) * nI k = nI (4 * k) := pk_mul 4 k
  have f1 : nI (4 * k) + (1 : Int32) = nI (4 * k + 1) := nI_add _ 1
  have f2 : nI (4 * k) + (2 : Int32) = nI (4 * k + 2) := nI_add _ 2
  have f3 : nI (4 * k) + (3 : Int32) = nI (4 * k + 3) := nI_add _ 3
  have c1 : iL x < iL ((K k).1 : Int) ↔ x < (K k).1 := iL_lt (by omega) (by omega)
  have c2 : iL (((K k).1 + (K k).2.2.1 : Nat) : Int) ≤ iL x ↔ (((K k).1 + (K k).2.2.1 : Nat) : Int) ≤ x := iL_le (by omega) (by omega)
  have c3 : iL y < iL ((K k).2.1 : Int) ↔ y < (K k).2.1 := iL_lt (by omega) (by omega)
  have c4 : iL (((K k).2.1 + (K k).2.2.2 : Nat) : Int) ≤ iL y ↔ (((K k).2.1 + (K k).2.2.2 : Nat) : Int) ≤ y := iL_le (by omega) (by omega)
  unfold fX6_isInClip
  simp only [hlet_s, H.q4, f4, f1, f2, f3, e0, e1, e2, e3, hb_s, nI_add, nI_L (show (K k).1 < 2 ^ 31 by omega), nI_L (show (K k).2.1 < 2 ^ 31 by omega), nI_L (show (K k).1 + (K k).2.2.1 < 2 ^ 31 by omega), nI_L (show (K k).2.1 + (K k).2.2.2 < 2 ^ 31 by omega), lg_lt, lg_ge, c1, c2, c3, c4]
  by_cases q1 : x < (K k).1
  · rw [if_pos q1, if_neg (by omega)]
  · rw [if_neg q1]
    by_cases q2 : (((K k).1 + (K k).2.2.1 : Nat) : Int) ≤ x
    · rw [if_pos q2, if_neg (by omega)]
    · rw [if_neg q2]
      by_cases q3 : y < (K k).2.1
      · rw [if_pos q3, if_neg (by omega)]
      · rw [if_neg q3]
        by_cases q4 : (((K k).2.1 + (K k).2.2.2 : Nat) : Int) ≤ y
        · rw [if_pos q4, if_neg (by omega)]
        · rw [if_neg q4, if_pos (by omega)]
theorem sh_d {d : Nat} (h : d = 1 ∨ d = 4 ∨ d = 8) : (1 : Int32) <<< (nI d &&& 31) = nI (2 ^ d) := by rcases h with rfl | rfl | rfl <;> decide
theorem m_fits (H : MH m n ms dr F h) (R : MR n D K F) (hD : DK n D K) {k : Nat} (hk : k < n) (v : Int32) : (fit (D k).1 v → fX6_fits m (nI k) v h = some (1, h)) ∧ (¬ fit (D k).1 v → fX6_fits m (nI k) v h = some (0, h)) := by
  obtain ⟨r1, -⟩ := R.1 k hk
  have hd := hD.2 k hk
  have hn := hD.1
  have pw := pw_d hd.1
  have e1 := H.ai 1 (j := k) (by decide) (by show k < 8; omega)
  rw [r1] at e1
  have tp : (nI (2 ^ (D k).1)).toInt = ((2 ^ (D k).1 : Nat) : Int) := nI_toInt (by omega)
  unfold fit fX6_fits
  simp only [H.q1, e1, hb_s, sh_d hd.1, i_lt0, i_le, tp]
  constructor
  · intro hv
    rw [if_neg (by omega), if_neg (by omega)]
  · intro hv
    by_cases q : v.toInt < 0
    · rw [if_pos q]
    · rw [if_neg q, if_pos (by omega)]
/-- the reference's dot -/
theorem m_dot (H : MH m n ms dr F h) (R : MR n D K F) (hD : DK n D K) {k : Nat} (hk : k < n) {x y : Int} (hx : sm x) (hy : sm y) : fX6_dot m (nI k) (iL x) (iL y) h = some (if 0 ≤ x ∧ x < (D k).2.1 ∧ 0 ≤ y ∧ y < (D k).2.2 then F 5 (4096 * k + 64 * y.toNat + x.toNat) else 0, h) := by
  have hd := hD.2 k hk
  have hn := hD.1
  unfold fX6_dot
  rw [H.rc, hb_s, m_isPlace H R hD hk hx hy, hb2_s]
  by_cases q : 0 ≤ x ∧ x < (D k).2.1 ∧ 0 ≤ y ∧ y < (D k).2.2
  · rw [if_pos q, if_pos q, if_neg (by decide), H.q5, hb_s, iL_I, iL_I]
    obtain ⟨q1, q2, q3, q4⟩ := q
    obtain ⟨x', rfl⟩ := Int.eq_ofNat_of_zero_le q1
    obtain ⟨y', rfl⟩ := Int.eq_ofNat_of_zero_le q3
    have f1 : (4096 : Int32) * nI k + (64 : Int32) * iI (y' : Int) + iI (x' : Int) = nI (4096 * k + 64 * y' + x') := by
      rw [iI_nat, iI_nat, show (4096 : Int32) = nI 4096 from rfl, show (64 : Int32) = nI 64 from rfl, pk_mul, pk_mul, nI_add, nI_add]
    rw [f1, H.ai 5 (by decide) (by show _ < 32768; omega), hb_s]
    rfl
  · rw [if_neg q, if_neg q, if_pos rfl]
end MRS
