/-! a new board, a new reference -/
def mp (b : Nat) (cs : List hm_E) : hm_H := (fun q => if b ≤ q then cs[q - b]? else none, b + cs.length)
theorem mp_at (b : Nat) (cs : List hm_E) (i : Nat) : (mp b cs).1 (b + i) = cs[i]? := by
  show (if b ≤ b + i then cs[b + i - b]? else none) = _
  rw [if_pos (by omega), Nat.add_sub_cancel_left]
theorem mp_nil (b : Nat) : ((fun _ => none, b) : hm_H) = mp b [] := by
  unfold mp
  congr 1
  funext q
  simp
theorem mp_n (b : Nat) (cs : List hm_E) (e : hm_E) : hm_n (mp b cs) e = mp b (cs ++ [e]) := by
  unfold hm_n mp
  congr 1
  · funext q
    show va_up (fun q => if b ≤ q then cs[q - b]? else none) (b + cs.length) (some e) q = _
    by_cases h : q = b + cs.length
    · subst h
      rw [va_up_self, if_pos (by omega), Nat.add_sub_cancel_left]
      simp
    · rw [va_up_ne _ _ h]
      by_cases h2 : b ≤ q
      · rw [if_pos h2, if_pos h2]
        by_cases h3 : q - b < cs.length
        · rw [List.getElem?_append_left h3]
        · rw [List.getElem?_eq_none (by omega), List.getElem?_eq_none (by simp; omega)]
      · rw [if_neg h2, if_neg h2]
  · simp
    omega
theorem mp_up {b : Nat} {cs : List hm_E} {i : Nat} (e : hm_E) (hi : i < cs.length) : ((va_up (mp b cs).1 (b + i) (some e), (mp b cs).2) : hm_H) = mp b (cs.set i e) := by
  unfold mp
  congr 1
  · funext q
    show va_up (fun q => if b ≤ q then cs[q - b]? else none) (b + i) (some e) q = _
    by_cases h : q = b + i
    · subst h
      rw [va_up_self, if_pos (by omega), Nat.add_sub_cancel_left]
      simp [hi]
    · rw [va_up_ne _ _ h]
      by_cases h2 : b ≤ q
      · rw [if_pos h2, if_pos h2, List.getElem?_set_ne (by omega)]
      · rw [if_neg h2, if_neg h2]
  · simp
theorem gl_lt {α : Type} {cs : List α} {i : Nat} {x : α} (h : cs[i]? = some x) : i < cs.length := (List.getElem?_eq_some_iff.mp h).1
theorem mp_p {b : Nat} {cs : List hm_E} {i ci k : Nat} {fs : List Value} {v : Value} (h : cs[i]? = some (.inr (ci, fs))) (hk : k < fs.length) : hm_p ci k v (mp b cs) (some (b + i)) = some (mp b (cs.set i (.inr (ci, fs.set k v)))) := by
  rw [ob_p (h := mp b cs) (a := b + i) (fs := fs) ((mp_at b cs i).trans h) hk, mp_up _ (gl_lt h)]
theorem mp_gq {b : Nat} {cs : List hm_E} {i ci k v : Nat} {fs : List Value} (h : cs[i]? = some (.inr (ci, fs))) (hk : fs[k]? = some (.ref v)) : hm_gq ci k (mp b cs) (some (b + i)) = some (some v) := ob_gq (h := mp b cs) (a := b + i) (fs := fs) ((mp_at b cs i).trans h) hk
theorem mp_ni {b : Nat} {cs : List hm_E} {kd B N : Nat} {n : Int32} (hn : n = nI N) (h1 : N ≤ B) (h2 : N < 2 ^ 31) : hm_ni kd B n (mp b cs) = some (mp b (cs ++ [.inl (kd, N, .inl (fun _ => 0))])) := by
  subst hn
  unfold hm_ni
  have c : (nI N).toNatClampNeg = N := nI_clamp h2
  rw [c, if_pos ⟨nI_pos h2, h1⟩, mp_n]
theorem mp_nq {b : Nat} {cs : List hm_E} {kd B N : Nat} {n : Int32} (hn : n = nI N) (h1 : N ≤ B) (h2 : N < 2 ^ 31) : hm_nq kd B n (mp b cs) = some (mp b (cs ++ [.inl (kd, N, .inr (.inr (.inr (.inr (fun _ => none)))))])) := by
  subst hn
  unfold hm_nq
  have c : (nI N).toNatClampNeg = N := nI_clamp h2
  rw [c, if_pos ⟨nI_pos h2, h1⟩, mp_n]
theorem mp_sq {b : Nat} {cs : List hm_E} {kd ci i j v N : Nat} {n : Int32} {f : Nat → Option Nat} {fs : List Value} (hn : n = nI j) (h : cs[i]? = some (.inl (kd, N, .inr (.inr (.inr (.inr f)))))) (hv : cs[v]? = some (.inr (ci, fs))) (hj : j < N) (hN : N < 2 ^ 31) : hm_sq kd ci (mp b cs) (some (b + i)) n (some (b + v)) = some (mp b (cs.set i (.inl (kd, N, .inr (.inr (.inr (.inr (va_up f j (some (b + v)))))))))) := by
  subst hn
  rw [qa_sq (h := mp b cs) (a := b + i) ((mp_at b cs i).trans h) (v := b + v) (fs := fs) ((mp_at b cs v).trans hv) hj hN, mp_up _ (gl_lt h)]
/-- a new sprite behind the cells cs -/
theorem mp_spr {b : Nat} {cs : List hm_E} {i : Nat} (hi : cs.length = i) : fX2_init (mp b cs).2 (hm_n (mp b cs) (.inr (2, [.null, .int 0, .int 0]))) = some (mp b (cs ++ [.inr (2, [.ref (b + i + 1), .int 0, .int 0]), .inl (0, 5000, .inl (fun _ => 0))])) := by
  subst hi
  unfold fX2_init
  have g : ∀ e : hm_E, (cs ++ ([e] ++ [(.inl (0, 5000, .inl (fun _ => 0)) : hm_E)]))[cs.length]? = some e := fun e => by simp
  have st : ∀ e e' : hm_E, (cs ++ ([e] ++ [(.inl (0, 5000, .inl (fun _ => 0)) : hm_E)])).set cs.length e' = cs ++ ([e'] ++ [(.inl (0, 5000, .inl (fun _ => 0)) : hm_E)]) := fun e e' => by
    rw [List.set_append_right _ _ (Nat.le_refl _), Nat.sub_self]
    rfl
  have ln : (cs ++ [(.inr (2, [.null, .int 0, .int 0]) : hm_E)]).length = cs.length + 1 := by simp
  rw [mp_n, mp_ni (n := 5000) (N := 5000) rfl (by decide) (by decide), hb_s, List.append_assoc]
  show hm_b (hm_p 2 0 (.ref (b + (cs ++ [(.inr (2, [.null, .int 0, .int 0]) : hm_E)]).length)) (mp b (cs ++ ([.inr (2, [.null, .int 0, .int 0])] ++ [.inl (0, 5000, .inl (fun _ => 0))]))) (some (b + cs.length))) _ = _
  rw [ln, mp_p (g _) (Nat.le_of_ble_eq_true rfl), hb_s, st]
  show hm_b (hm_p 2 1 (.int 0) (mp b (cs ++ ([.inr (2, [.ref (b + (cs.length + 1)), .int 0, .int 0])] ++ [.inl (0, 5000, .inl (fun _ => 0))]))) (some (b + cs.length))) _ = _
  rw [mp_p (g _) (Nat.le_of_ble_eq_true rfl), hb_s, st]
  show hm_b (hm_p 2 2 (.int 0) (mp b (cs ++ ([.inr (2, [.ref (b + (cs.length + 1)), .int 0, .int 0])] ++ [.inl (0, 5000, .inl (fun _ => 0))]))) (some (b + cs.length))) _ = _
  rw [mp_p (g _) (Nat.le_of_ble_eq_true rfl), hb_s, st]
  rfl
theorem init_c (b : Nat) : fX5_init b (hm_n (fun _ => none, b) (.inr (5, [.null, .int 0, .null, .null, .null]))) = some (mp b [(.inr (5, [.ref (b + 1), .int 0, .ref (b + 2), .ref (b + 11), .ref (b + 13)]) : hm_E), .inl (3, 8, .inr (.inr (.inr (.inr (fun _ => none))))), .inl (2, 4, .inr (.inr (.inr (.inr (va_up (va_up (va_up (va_up (fun _ => none) 0 (some (b + 3))) 1 (some (b + 5))) 2 (some (b + 7))) 3 (some (b + 9))))))), .inr (2, [.ref (b + 4), .int 0, .int 0]), .inl (0, 5000, .inl (fun _ => 0)), .inr (2, [.ref (b + 6), .int 0, .int 0]), .inl (0, 5000, .inl (fun _ => 0)), .inr (2, [.ref (b + 8), .int 0, .int 0]), .inl (0, 5000, .inl (fun _ => 0)), .inr (2, [.ref (b + 10), .int 0, .int 0]), .inl (0, 5000, .inl (fun _ => 0)), .inr (2, [.ref (b + 12), .int 0, .int 0]), .inl (0, 5000, .inl (fun _ => 0)), .inl (0, 4096, .inl (fun _ => 0))]) := by
  rw [mp_nil, mp_n]
  unfold fX5_init
  rw [mp_nq (n := 8) (N := 8) rfl (by decide) (by decide), hb_s]
  show hm_b (hm_p 5 0 (.ref (b + 1)) (mp b [.inr (5, [.null, .int 0, .null, .null, .null]), .inl (3, 8, .inr (.inr (.inr (.inr (fun _ => none)))))]) (some (b + 0))) _ = _
  rw [mp_p (i := 0) (fs := [.null, .int 0, .null, .null, .null]) rfl (Nat.le_of_ble_eq_true rfl), hb_s]
  show hm_b (hm_p 5 1 (.int 0) (mp b [.inr (5, [.ref (b + 1), .int 0, .null, .null, .null]), .inl (3, 8, .inr (.inr (.inr (.inr (fun _ => none)))))]) (some (b + 0))) _ = _
  rw [mp_p (i := 0) (fs := [.ref (b + 1), .int 0, .null, .null, .null]) rfl (Nat.le_of_ble_eq_true rfl), hb_s]
  show hm_b (hm_nq 2 4 4 (mp b [.inr (5, [.ref (b + 1), .int 0, .null, .null, .null]), .inl (3, 8, .inr (.inr (.inr (.inr (fun _ => none)))))])) _ = _
  rw [mp_nq (n := 4) (N := 4) rfl (by decide) (by decide), hb_s]
  show hm_b (hm_p 5 2 (.ref (b + 2)) (mp b [.inr (5, [.ref (b + 1), .int 0, .null, .null, .null]), .inl (3, 8, .inr (.inr (.inr (.inr (fun _ => none))))), .inl (2, 4, .inr (.inr (.inr (.inr (fun _ => none)))))]) (some (b + 0))) _ = _
  rw [mp_p (i := 0) (fs := [.ref (b + 1), .int 0, .null, .null, .null]) rfl (Nat.le_of_ble_eq_true rfl), hb_s]
  show hm_b (hm_gq 5 2 (mp b [(.inr (5, [.ref (b + 1), .int 0, .ref (b + 2), .null, .null]) : hm_E), .inl (3, 8, .inr (.inr (.inr (.inr (fun _ => none))))), .inl (2, 4, .inr (.inr (.inr (.inr (fun _ => none)))))]) (some (b + 0))) _ = _
  rw [mp_gq (i := 0) (v := b + 2) (fs := [.ref (b + 1), .int 0, .ref (b + 2), .null, .null]) rfl rfl, hb_s, hlet_s]
  show hm_b (fX2_init (mp b [(.inr (5, [.ref (b + 1), .int 0, .ref (b + 2), .null, .null]) : hm_E), .inl (3, 8, .inr (.inr (.inr (.inr (fun _ => none))))), .inl (2, 4, .inr (.inr (.inr (.inr (fun _ => none)))))]).2 (hm_n (mp b [(.inr (5, [.ref (b + 1), .int 0, .ref (b + 2), .null, .null]) : hm_E), .inl (3, 8, .inr (.inr (.inr (.inr (fun _ => none))))), .inl (2, 4, .inr (.inr (.inr (.inr (fun _ => none)))))]) (.inr (2, [.null, .int 0, .int 0])))) _ = _
  rw [mp_spr (i := 3) rfl, hb_s]
  show hm_b (hm_sq 2 2 (mp b [(.inr (5, [.ref (b + 1), .int 0, .ref (b + 2), .null, .null]) : hm_E), .inl (3, 8, .inr (.inr (.inr (.inr (fun _ => none))))), .inl (2, 4, .inr (.inr (.inr (.inr (fun _ => none))))), .inr (2, [.ref (b + 4), .int 0, .int 0]), .inl (0, 5000, .inl (fun _ => 0))]) (some (b + 2)) 0 (some (b + 3))) _ = _
  rw [mp_sq (n := 0) (j := 0) (i := 2) (v := 3) (N := 4) (fs := [.ref (b + 4), .int 0, .int 0]) rfl rfl rfl (by decide) (by decide), hb_s]
  show hm_b (hm_gq 5 2 (mp b [(.inr (5, [.ref (b + 1), .int 0, .ref (b + 2), .null, .null]) : hm_E), .inl (3, 8, .inr (.inr (.inr (.inr (fun _ => none))))), .inl (2, 4, .inr (.inr (.inr (.inr (va_up (fun _ => none) 0 (some (b + 3))))))), .inr (2, [.ref (b + 4), .int 0, .int 0]), .inl (0, 5000, .inl (fun _ => 0))]) (some (b + 0))) _ = _
  rw [mp_gq (i := 0) (v := b + 2) (fs := [.ref (b + 1), .int 0, .ref (b + 2), .null, .null]) rfl rfl, hb_s, hlet_s]
  show hm_b (fX2_init (mp b [(.inr (5, [.ref (b + 1), .int 0, .ref (b + 2), .null, .null]) : hm_E), .inl (3, 8, .inr (.inr (.inr (.inr (fun _ => none))))), .inl (2, 4, .inr (.inr (.inr (.inr (va_up (fun _ => none) 0 (some (b + 3))))))), .inr (2, [.ref (b + 4), .int 0, .int 0]), .inl (0, 5000, .inl (fun _ => 0))]).2 (hm_n (mp b [(.inr (5, [.ref (b + 1), .int 0, .ref (b + 2), .null, .null]) : hm_E), .inl (3, 8, .inr (.inr (.inr (.inr (fun _ => none))))), .inl (2, 4, .inr (.inr (.inr (.inr (va_up (fun _ => none) 0 (some (b + 3))))))), .inr (2, [.ref (b + 4), .int 0, .int 0]), .inl (0, 5000, .inl (fun _ => 0))]) (.inr (2, [.null, .int 0, .int 0])))) _ = _
  rw [mp_spr (i := 5) rfl, hb_s]
  show hm_b (hm_sq 2 2 (mp b [(.inr (5, [.ref (b + 1), .int 0, .ref (b + 2), .null, .null]) : hm_E), .inl (3, 8, .inr (.inr (.inr (.inr (fun _ => none))))), .inl (2, 4, .inr (.inr (.inr (.inr (va_up (fun _ => none) 0 (some (b + 3))))))), .inr (2, [.ref (b + 4), .int 0, .int 0]), .inl (0, 5000, .inl (fun _ => 0)), .inr (2, [.ref (b + 6), .int 0, .int 0]), .inl (0, 5000, .inl (fun _ => 0))]) (some (b + 2)) 1 (some (b + 5))) _ = _
  rw [mp_sq (n := 1) (j := 1) (i := 2) (v := 5) (N := 4) (fs := [.ref (b + 6), .int 0, .int 0]) rfl rfl rfl (by decide) (by decide), hb_s]
  show hm_b (hm_gq 5 2 (mp b [(.inr (5, [.ref (b + 1), .int 0, .ref (b + 2), .null, .null]) : hm_E), .inl (3, 8, .inr (.inr (.inr (.inr (fun _ => none))))), .inl (2, 4, .inr (.inr (.inr (.inr (va_up (va_up (fun _ => none) 0 (some (b + 3))) 1 (some (b + 5))))))), .inr (2, [.ref (b + 4), .int 0, .int 0]), .inl (0, 5000, .inl (fun _ => 0)), .inr (2, [.ref (b + 6), .int 0, .int 0]), .inl (0, 5000, .inl (fun _ => 0))]) (some (b + 0))) _ = _
  rw [mp_gq (i := 0) (v := b + 2) (fs := [.ref (b + 1), .int 0, .ref (b + 2), .null, .null]) rfl rfl, hb_s, hlet_s]
  show hm_b (fX2_init (mp b [(.inr (5, [.ref (b + 1), .int 0, .ref (b + 2), .null, .null]) : hm_E), .inl (3, 8, .inr (.inr (.inr (.inr (fun _ => none))))), .inl (2, 4, .inr (.inr (.inr (.inr (va_up (va_up (fun _ => none) 0 (some (b + 3))) 1 (some (b + 5))))))), .inr (2, [.ref (b + 4), .int 0, .int 0]), .inl (0, 5000, .inl (fun _ => 0)), .inr (2, [.ref (b + 6), .int 0, .int 0]), .inl (0, 5000, .inl (fun _ => 0))]).2 (hm_n (mp b [(.inr (5, [.ref (b + 1), .int 0, .ref (b + 2), .null, .null]) : hm_E), .inl (3, 8, .inr (.inr (.inr (.inr (fun _ => none))))), .inl (2, 4, .inr (.inr (.inr (.inr (va_up (va_up (fun _ => none) 0 (some (b + 3))) 1 (some (b + 5))))))), .inr (2, [.ref (b + 4), .int 0, .int 0]), .inl (0, 5000, .inl (fun _ => 0)), .inr (2, [.ref (b + 6), .int 0, .int 0]), .inl (0, 5000, .inl (fun _ => 0))]) (.inr (2, [.null, .int 0, .int 0])))) _ = _
  rw [mp_spr (i := 7) rfl, hb_s]
  show hm_b (hm_sq 2 2 (mp b [(.inr (5, [.ref (b + 1), .int 0, .ref (b + 2), .null, .null]) : hm_E), .inl (3, 8, .inr (.inr (.inr (.inr (fun _ => none))))), .inl (2, 4, .inr (.inr (.inr (.inr (va_up (va_up (fun _ => none) 0 (some (b + 3))) 1 (some (b + 5))))))), .inr (2, [.ref (b + 4), .int 0, .int 0]), .inl (0, 5000, .inl (fun _ => 0)), .inr (2, [.ref (b + 6), .int 0, .int 0]), .inl (0, 5000, .inl (fun _ => 0)), .inr (2, [.ref (b + 8), .int 0, .int 0]), .inl (0, 5000, .inl (fun _ => 0))]) (some (b + 2)) 2 (some (b + 7))) _ = _
  rw [mp_sq (n := 2) (j := 2) (i := 2) (v := 7) (N := 4) (fs := [.ref (b + 8), .int 0, .int 0]) rfl rfl rfl (by decide) (by decide), hb_s]
  show hm_b (hm_gq 5 2 (mp b [(.inr (5, [.ref (b + 1), .int 0, .ref (b + 2), .null, .null]) : hm_E), .inl (3, 8, .inr (.inr (.inr (.inr (fun _ => none))))), .inl (2, 4, .inr (.inr (.inr (.inr (va_up (va_up (va_up (fun _ => none) 0 (some (b + 3))) 1 (some (b + 5))) 2 (some (b + 7))))))), .inr (2, [.ref (b + 4), .int 0, .int 0]), .inl (0, 5000, .inl (fun _ => 0)), .inr (2, [.ref (b + 6), .int 0, .int 0]), .inl (0, 5000, .inl (fun _ => 0)), .inr (2, [.ref (b + 8), .int 0, .int 0]), .inl (0, 5000, .inl (fun _ => 0))]) (some (b + 0))) _ = _
  rw [mp_gq (i := 0) (v := b + 2) (fs := [.ref (b + 1), .int 0, .ref (b + 2), .null, .null]) rfl rfl, hb_s, hlet_s]
  show hm_b (fX2_init (mp b [(.inr (5, [.ref (b + 1), .int 0, .ref (b + 2), .null, .null]) : hm_E), .inl (3, 8, .inr (.inr (.inr (.inr (fun _ => none))))), .inl (2, 4, .inr (.inr (.inr (.inr (va_up (va_up (va_up (fun _ => none) 0 (some (b + 3))) 1 (some (b + 5))) 2 (some (b + 7))))))), .inr (2, [.ref (b + 4), .int 0, .int 0]), .inl (0, 5000, .inl (fun _ => 0)), .inr (2, [.ref (b + 6), .int 0, .int 0]), .inl (0, 5000, .inl (fun _ => 0)), .inr (2, [.ref (b + 8), .int 0, .int 0]), .inl (0, 5000, .inl (fun _ => 0))]).2 (hm_n (mp b [(.inr (5, [.ref (b + 1), .int 0, .ref (b + 2), .null, .null]) : hm_E), .inl (3, 8, .inr (.inr (.inr (.inr (fun _ => none))))), .inl (2, 4, .inr (.inr (.inr (.inr (va_up (va_up (va_up (fun _ => none) 0 (some (b + 3))) 1 (some (b + 5))) 2 (some (b + 7))))))), .inr (2, [.ref (b + 4), .int 0, .int 0]), .inl (0, 5000, .inl (fun _ => 0)), .inr (2, [.ref (b + 6), .int 0, .int 0]), .inl (0, 5000, .inl (fun _ => 0)), .inr (2, [.ref (b + 8), .int 0, .int 0]), .inl (0, 5000, .inl (fun _ => 0))]) (.inr (2, [.null, .int 0, .int 0])))) _ = _
  rw [mp_spr (i := 9) rfl, hb_s]
  show hm_b (hm_sq 2 2 (mp b [(.inr (5, [.ref (b + 1), .int 0, .ref (b + 2), .null, .null]) : hm_E), .inl (3, 8, .inr (.inr (.inr (.inr (fun _ => none))))), .inl (2, 4, .inr (.inr (.inr (.inr (va_up (va_up (va_up (fun _ => none) 0 (some (b + 3))) 1 (some (b + 5))) 2 (some (b + 7))))))), .inr (2, [.ref (b + 4), .int 0, .int 0]), .inl (0, 5000, .inl (fun _ => 0)), .inr (2, [.ref (b + 6), .int 0, .int 0]), .inl (0, 5000, .inl (fun _ => 0)), .inr (2, [.ref (b + 8), .int 0, .int 0]), .inl (0, 5000, .inl (fun _ => 0)), .inr (2, [.ref (b + 10), .int 0, .int 0]), .inl (0, 5000, .inl (fun _ => 0))]) (some (b + 2)) 3 (some (b + 9))) _ = _
  rw [mp_sq (n := 3) (j := 3) (i := 2) (v := 9) (N := 4) (fs := [.ref (b + 10), .int 0, .int 0]) rfl rfl rfl (by decide) (by decide), hb_s]
  show hm_let (hm_n (mp b [(.inr (5, [.ref (b + 1), .int 0, .ref (b + 2), .null, .null]) : hm_E), .inl (3, 8, .inr (.inr (.inr (.inr (fun _ => none))))), .inl (2, 4, .inr (.inr (.inr (.inr (va_up (va_up (va_up (va_up (fun _ => none) 0 (some (b + 3))) 1 (some (b + 5))) 2 (some (b + 7))) 3 (some (b + 9))))))), .inr (2, [.ref (b + 4), .int 0, .int 0]), .inl (0, 5000, .inl (fun _ => 0)), .inr (2, [.ref (b + 6), .int 0, .int 0]), .inl (0, 5000, .inl (fun _ => 0)), .inr (2, [.ref (b + 8), .int 0, .int 0]), .inl (0, 5000, .inl (fun _ => 0)), .inr (2, [.ref (b + 10), .int 0, .int 0]), .inl (0, 5000, .inl (fun _ => 0))]) (.inr (2, [.null, .int 0, .int 0]))) _ = _
  rw [hlet_s]
  show hm_b (fX2_init (mp b [(.inr (5, [.ref (b + 1), .int 0, .ref (b + 2), .null, .null]) : hm_E), .inl (3, 8, .inr (.inr (.inr (.inr (fun _ => none))))), .inl (2, 4, .inr (.inr (.inr (.inr (va_up (va_up (va_up (va_up (fun _ => none) 0 (some (b + 3))) 1 (some (b + 5))) 2 (some (b + 7))) 3 (some (b + 9))))))), .inr (2, [.ref (b + 4), .int 0, .int 0]), .inl (0, 5000, .inl (fun _ => 0)), .inr (2, [.ref (b + 6), .int 0, .int 0]), .inl (0, 5000, .inl (fun _ => 0)), .inr (2, [.ref (b + 8), .int 0, .int 0]), .inl (0, 5000, .inl (fun _ => 0)), .inr (2, [.ref (b + 10), .int 0, .int 0]), .inl (0, 5000, .inl (fun _ => 0))]).2 (hm_n (mp b [(.inr (5, [.ref (b + 1), .int 0, .ref (b + 2), .null, .null]) : hm_E), .inl (3, 8, .inr (.inr (.inr (.inr (fun _ => none))))), .inl (2, 4, .inr (.inr (.inr (.inr (va_up (va_up (va_up (va_up (fun _ => none) 0 (some (b + 3))) 1 (some (b + 5))) 2 (some (b + 7))) 3 (some (b + 9))))))), .inr (2, [.ref (b + 4), .int 0, .int 0]), .inl (0, 5000, .inl (fun _ => 0)), .inr (2, [.ref (b + 6), .int 0, .int 0]), .inl (0, 5000, .inl (fun _ => 0)), .inr (2, [.ref (b + 8), .int 0, .int 0]), .inl (0, 5000, .inl (fun _ => 0)), .inr (2, [.ref (b + 10), .int 0, .int 0]), .inl (0, 5000, .inl (fun _ => 0))]) (.inr (2, [.null, .int 0, .int 0])))) _ = _
  rw [mp_spr (i := 11) rfl, hb_s]
  show hm_b (hm_p 5 3 (.ref (b + 11)) (mp b [(.inr (5, [.ref (b + 1), .int 0, .ref (b + 2), .null, .null]) : hm_E), .inl (3, 8, .inr (.inr (.inr (.inr (fun _ => none))))), .inl (2, 4, .inr (.inr (.inr (.inr (va_up (va_up (va_up (va_up (fun _ => none) 0 (some (b + 3))) 1 (some (b + 5))) 2 (some (b + 7))) 3 (some (b + 9))))))), .inr (2, [.ref (b + 4), .int 0, .int 0]), .inl (0, 5000, .inl (fun _ => 0)), .inr (2, [.ref (b + 6), .int 0, .int 0]), .inl (0, 5000, .inl (fun _ => 0)), .inr (2, [.ref (b + 8), .int 0, .int 0]), .inl (0, 5000, .inl (fun _ => 0)), .inr (2, [.ref (b + 10), .int 0, .int 0]), .inl (0, 5000, .inl (fun _ => 0)), .inr (2, [.ref (b + 12), .int 0, .int 0]), .inl (0, 5000, .inl (fun _ => 0))]) (some (b + 0))) _ = _
  rw [mp_p (i := 0) (fs := [.ref (b + 1), .int 0, .ref (b + 2), .null, .null]) rfl (Nat.le_of_ble_eq_true rfl), hb_s]
  show hm_b (hm_ni 0 4096 4096 (mp b [(.inr (5, [.ref (b + 1), .int 0, .ref (b + 2), .ref (b + 11), .null]) : hm_E), .inl (3, 8, .inr (.inr (.inr (.inr (fun _ => none))))), .inl (2, 4, .inr (.inr (.inr (.inr (va_up (va_up (va_up (va_up (fun _ => none) 0 (some (b + 3))) 1 (some (b + 5))) 2 (some (b + 7))) 3 (some (b + 9))))))), .inr (2, [.ref (b + 4), .int 0, .int 0]), .inl (0, 5000, .inl (fun _ => 0)), .inr (2, [.ref (b + 6), .int 0, .int 0]), .inl (0, 5000, .inl (fun _ => 0)), .inr (2, [.ref (b + 8), .int 0, .int 0]), .inl (0, 5000, .inl (fun _ => 0)), .inr (2, [.ref (b + 10), .int 0, .int 0]), .inl (0, 5000, .inl (fun _ => 0)), .inr (2, [.ref (b + 12), .int 0, .int 0]), .inl (0, 5000, .inl (fun _ => 0))])) _ = _
  rw [mp_ni (n := 4096) (N := 4096) rfl (by decide) (by decide), hb_s]
  show hm_b (hm_p 5 4 (.ref (b + 13)) (mp b [(.inr (5, [.ref (b + 1), .int 0, .ref (b + 2), .ref (b + 11), .null]) : hm_E), .inl (3, 8, .inr (.inr (.inr (.inr (fun _ => none))))), .inl (2, 4, .inr (.inr (.inr (.inr (va_up (va_up (va_up (va_up (fun _ => none) 0 (some (b + 3))) 1 (some (b + 5))) 2 (some (b + 7))) 3 (some (b + 9))))))), .inr (2, [.ref (b + 4), .int 0, .int 0]), .inl (0, 5000, .inl (fun _ => 0)), .inr (2, [.ref (b + 6), .int 0, .int 0]), .inl (0, 5000, .inl (fun _ => 0)), .inr (2, [.ref (b + 8), .int 0, .int 0]), .inl (0, 5000, .inl (fun _ => 0)), .inr (2, [.ref (b + 10), .int 0, .int 0]), .inl (0, 5000, .inl (fun _ => 0)), .inr (2, [.ref (b + 12), .int 0, .int 0]), .inl (0, 5000, .inl (fun _ => 0)), .inl (0, 4096, .inl (fun _ => 0))]) (some (b + 0))) _ = _
  rw [mp_p (i := 0) (fs := [.ref (b + 1), .int 0, .ref (b + 2), .ref (b + 11), .null]) rfl (Nat.le_of_ble_eq_true rfl), hb_s]
  rfl
theorem init_m (m : Nat) : fX6_init m (hm_n (fun _ => none, m) (.inr (6, [.int 0, .null, .null, .null, .null, .null, .null, .null, .null, .null, .null, .int 0, .int 0, .null, .null, .null]))) = some (mp m [(.inr (6, [.int 0, .ref (m + 1), .ref (m + 2), .ref (m + 3), .ref (m + 4), .ref (m + 5), .ref (m + 6), .ref (m + 7), .ref (m + 8), .ref (m + 9), .ref (m + 10), .int 0, .int 0, .ref (m + 11), .ref (m + 12), .ref (m + 13)]) : hm_E), .inl (0, 8, .inl (fun _ => 0)), .inl (0, 8, .inl (fun _ => 0)), .inl (0, 8, .inl (fun _ => 0)), .inl (0, 32, .inl (fun _ => 0)), .inl (0, 32768, .inl (fun _ => 0)), .inl (0, 4096, .inl (fun _ => 0)), .inl (1, 4096, .inl (fun _ => 0)), .inl (0, 4, .inl (fun _ => 0)), .inl (0, 20000, .inl (fun _ => 0)), .inl (0, 7000, .inl (fun _ => 0)), .inl (0, 4096, .inl (fun _ => 0)), .inl (0, 4096, .inl (fun _ => 0)), .inl (0, 4096, .inl (fun _ => 0))]) := by
  rw [mp_nil, mp_n]
  unfold fX6_init
  show hm_b (hm_ni 0 8 8 (mp m [(.inr (6, [.int 0, .null, .null, .null, .null, .null, .null, .null, .null, .null, .null, .int 0, .int 0, .null, .null, .null]) : hm_E)])) _ = _
  rw [mp_ni (n := 8) (N := 8) rfl (by decide) (by decide), hb_s]
  show hm_b (hm_p 6 1 (.ref (m + 1)) (mp m [(.inr (6, [.int 0, .null, .null, .null, .null, .null, .null, .null, .null, .null, .null, .int 0, .int 0, .null, .null, .null]) : hm_E), .inl (0, 8, .inl (fun _ => 0))]) (some (m + 0))) _ = _
  rw [mp_p (i := 0) (fs := [.int 0, .null, .null, .null, .null, .null, .null, .null, .null, .null, .null, .int 0, .int 0, .null, .null, .null]) rfl (Nat.le_of_ble_eq_true rfl), hb_s]
  show hm_b (hm_ni 0 8 8 (mp m [(.inr (6, [.int 0, .ref (m + 1), .null, .null, .null, .null, .null, .null, .null, .null, .null, .int 0, .int 0, .null, .null, .null]) : hm_E), .inl (0, 8, .inl (fun _ => 0))])) _ = _
  rw [mp_ni (n := 8) (N := 8) rfl (by decide) (by decide), hb_s]
  show hm_b (hm_p 6 2 (.ref (m + 2)) (mp m [(.inr (6, [.int 0, .ref (m + 1), .null, .null, .null, .null, .null, .null, .null, .null, .null, .int 0, .int 0, .null, .null, .null]) : hm_E), .inl (0, 8, .inl (fun _ => 0)), .inl (0, 8, .inl (fun _ => 0))]) (some (m + 0))) _ = _
  rw [mp_p (i := 0) (fs := [.int 0, .ref (m + 1), .null, .null, .null, .null, .null, .null, .null, .null, .null, .int 0, .int 0, .null, .null, .null]) rfl (Nat.le_of_ble_eq_true rfl), hb_s]
  show hm_b (hm_ni 0 8 8 (mp m [(.inr (6, [.int 0, .ref (m + 1), .ref (m + 2), .null, .null, .null, .null, .null, .null, .null, .null, .int 0, .int 0, .null, .null, .null]) : hm_E), .inl (0, 8, .inl (fun _ => 0)), .inl (0, 8, .inl (fun _ => 0))])) _ = _
  rw [mp_ni (n := 8) (N := 8) rfl (by decide) (by decide), hb_s]
  show hm_b (hm_p 6 3 (.ref (m + 3)) (mp m [(.inr (6, [.int 0, .ref (m + 1), .ref (m + 2), .null, .null, .null, .null, .null, .null, .null, .null, .int 0, .int 0, .null, .null, .null]) : hm_E), .inl (0, 8, .inl (fun _ => 0)), .inl (0, 8, .inl (fun _ => 0)), .inl (0, 8, .inl (fun _ => 0))]) (some (m + 0))) _ = _
  rw [mp_p (i := 0) (fs := [.int 0, .ref (m + 1), .ref (m + 2), .null, .null, .null, .null, .null, .null, .null, .null, .int 0, .int 0, .null, .null, .null]) rfl (Nat.le_of_ble_eq_true rfl), hb_s]
  show hm_b (hm_ni 0 32 32 (mp m [(.inr (6, [.int 0, .ref (m + 1), .ref (m + 2), .ref (m + 3), .null, .null, .null, .null, .null, .null, .null, .int 0, .int 0, .null, .null, .null]) : hm_E), .inl (0, 8, .inl (fun _ => 0)), .inl (0, 8, .inl (fun _ => 0)), .inl (0, 8, .inl (fun _ => 0))])) _ = _
  rw [mp_ni (n := 32) (N := 32) rfl (by decide) (by decide), hb_s]
  show hm_b (hm_p 6 4 (.ref (m + 4)) (mp m [(.inr (6, [.int 0, .ref (m + 1), .ref (m + 2), .ref (m + 3), .null, .null, .null, .null, .null, .null, .null, .int 0, .int 0, .null, .null, .null]) : hm_E), .inl (0, 8, .inl (fun _ => 0)), .inl (0, 8, .inl (fun _ => 0)), .inl (0, 8, .inl (fun _ => 0)), .inl (0, 32, .inl (fun _ => 0))]) (some (m + 0))) _ = _
  rw [mp_p (i := 0) (fs := [.int 0, .ref (m + 1), .ref (m + 2), .ref (m + 3), .null, .null, .null, .null, .null, .null, .null, .int 0, .int 0, .null, .null, .null]) rfl (Nat.le_of_ble_eq_true rfl), hb_s]
  show hm_b (hm_ni 0 32768 32768 (mp m [(.inr (6, [.int 0, .ref (m + 1), .ref (m + 2), .ref (m + 3), .ref (m + 4), .null, .null, .null, .null, .null, .null, .int 0, .int 0, .null, .null, .null]) : hm_E), .inl (0, 8, .inl (fun _ => 0)), .inl (0, 8, .inl (fun _ => 0)), .inl (0, 8, .inl (fun _ => 0)), .inl (0, 32, .inl (fun _ => 0))])) _ = _
  rw [mp_ni (n := 32768) (N := 32768) rfl (by decide) (by decide), hb_s]
  show hm_b (hm_p 6 5 (.ref (m + 5)) (mp m [(.inr (6, [.int 0, .ref (m + 1), .ref (m + 2), .ref (m + 3), .ref (m + 4), .null, .null, .null, .null, .null, .null, .int 0, .int 0, .null, .null, .null]) : hm_E), .inl (0, 8, .inl (fun _ => 0)), .inl (0, 8, .inl (fun _ => 0)), .inl (0, 8, .inl (fun _ => 0)), .inl (0, 32, .inl (fun _ => 0)), .inl (0, 32768, .inl (fun _ => 0))]) (some (m + 0))) _ = _
  rw [mp_p (i := 0) (fs := [.int 0, .ref (m + 1), .ref (m + 2), .ref (m + 3), .ref (m + 4), .null, .null, .null, .null, .null, .null, .int 0, .int 0, .null, .null, .null]) rfl (Nat.le_of_ble_eq_true rfl), hb_s]
  show hm_b (hm_ni 0 4096 4096 (mp m [(.inr (6, [.int 0, .ref (m + 1), .ref (m + 2), .ref (m + 3), .ref (m + 4), .ref (m + 5), .null, .null, .null, .null, .null, .int 0, .int 0, .null, .null, .null]) : hm_E), .inl (0, 8, .inl (fun _ => 0)), .inl (0, 8, .inl (fun _ => 0)), .inl (0, 8, .inl (fun _ => 0)), .inl (0, 32, .inl (fun _ => 0)), .inl (0, 32768, .inl (fun _ => 0))])) _ = _
  rw [mp_ni (n := 4096) (N := 4096) rfl (by decide) (by decide), hb_s]
  show hm_b (hm_p 6 6 (.ref (m + 6)) (mp m [(.inr (6, [.int 0, .ref (m + 1), .ref (m + 2), .ref (m + 3), .ref (m + 4), .ref (m + 5), .null, .null, .null, .null, .null, .int 0, .int 0, .null, .null, .null]) : hm_E), .inl (0, 8, .inl (fun _ => 0)), .inl (0, 8, .inl (fun _ => 0)), .inl (0, 8, .inl (fun _ => 0)), .inl (0, 32, .inl (fun _ => 0)), .inl (0, 32768, .inl (fun _ => 0)), .inl (0, 4096, .inl (fun _ => 0))]) (some (m + 0))) _ = _
  rw [mp_p (i := 0) (fs := [.int 0, .ref (m + 1), .ref (m + 2), .ref (m + 3), .ref (m + 4), .ref (m + 5), .null, .null, .null, .null, .null, .int 0, .int 0, .null, .null, .null]) rfl (Nat.le_of_ble_eq_true rfl), hb_s]
  show hm_b (hm_ni 1 4096 4096 (mp m [(.inr (6, [.int 0, .ref (m + 1), .ref (m + 2), .ref (m + 3), .ref (m + 4), .ref (m + 5), .ref (m + 6), .null, .null, .null, .null, .int 0, .int 0, .null, .null, .null]) : hm_E), .inl (0, 8, .inl (fun _ => 0)), .inl (0, 8, .inl (fun _ => 0)), .inl (0, 8, .inl (fun _ => 0)), .inl (0, 32, .inl (fun _ => 0)), .inl (0, 32768, .inl (fun _ => 0)), .inl (0, 4096, .inl (fun _ => 0))])) _ = _
  rw [mp_ni (n := 4096) (N := 4096) rfl (by decide) (by decide), hb_s]
  show hm_b (hm_p 6 7 (.ref (m + 7)) (mp m [(.inr (6, [.int 0, .ref (m + 1), .ref (m + 2), .ref (m + 3), .ref (m + 4), .ref (m + 5), .ref (m + 6), .null, .null, .null, .null, .int 0, .int 0, .null, .null, .null]) : hm_E), .inl (0, 8, .inl (fun _ => 0)), .inl (0, 8, .inl (fun _ => 0)), .inl (0, 8, .inl (fun _ => 0)), .inl (0, 32, .inl (fun _ => 0)), .inl (0, 32768, .inl (fun _ => 0)), .inl (0, 4096, .inl (fun _ => 0)), .inl (1, 4096, .inl (fun _ => 0))]) (some (m + 0))) _ = _
  rw [mp_p (i := 0) (fs := [.int 0, .ref (m + 1), .ref (m + 2), .ref (m + 3), .ref (m + 4), .ref (m + 5), .ref (m + 6), .null, .null, .null, .null, .int 0, .int 0, .null, .null, .null]) rfl (Nat.le_of_ble_eq_true rfl), hb_s]
  show hm_b (hm_ni 0 4 4 (mp m [(.inr (6, [.int 0, .ref (m + 1), .ref (m + 2), .ref (m + 3), .ref (m + 4), .ref (m + 5), .ref (m + 6), .ref (m + 7), .null, .null, .null, .int 0, .int 0, .null, .null, .null]) : hm_E), .inl (0, 8, .inl (fun _ => 0)), .inl (0, 8, .inl (fun _ => 0)), .inl (0, 8, .inl (fun _ => 0)), .inl (0, 32, .inl (fun _ => 0)), .inl (0, 32768, .inl (fun _ => 0)), .inl (0, 4096, .inl (fun _ => 0)), .inl (1, 4096, .inl (fun _ => 0))])) _ = _
  rw [mp_ni (n := 4) (N := 4) rfl (by decide) (by decide), hb_s]
  show hm_b (hm_p 6 8 (.ref (m + 8)) (mp m [(.inr (6, [.int 0, .ref (m + 1), .ref (m + 2), .ref (m + 3), .ref (m + 4), .ref (m + 5), .ref (m + 6), .ref (m + 7), .null, .null, .null, .int 0, .int 0, .null, .null, .null]) : hm_E), .inl (0, 8, .inl (fun _ => 0)), .inl (0, 8, .inl (fun _ => 0)), .inl (0, 8, .inl (fun _ => 0)), .inl (0, 32, .inl (fun _ => 0)), .inl (0, 32768, .inl (fun _ => 0)), .inl (0, 4096, .inl (fun _ => 0)), .inl (1, 4096, .inl (fun _ => 0)), .inl (0, 4, .inl (fun _ => 0))]) (some (m + 0))) _ = _
  rw [mp_p (i := 0) (fs := [.int 0, .ref (m + 1), .ref (m + 2), .ref (m + 3), .ref (m + 4), .ref (m + 5), .ref (m + 6), .ref (m + 7), .null, .null, .null, .int 0, .int 0, .null, .null, .null]) rfl (Nat.le_of_ble_eq_true rfl), hb_s]
  show hm_b (hm_ni 0 20000 20000 (mp m [(.inr (6, [.int 0, .ref (m + 1), .ref (m + 2), .ref (m + 3), .ref (m + 4), .ref (m + 5), .ref (m + 6), .ref (m + 7), .ref (m + 8), .null, .null, .int 0, .int 0, .null, .null, .null]) : hm_E), .inl (0, 8, .inl (fun _ => 0)), .inl (0, 8, .inl (fun _ => 0)), .inl (0, 8, .inl (fun _ => 0)), .inl (0, 32, .inl (fun _ => 0)), .inl (0, 32768, .inl (fun _ => 0)), .inl (0, 4096, .inl (fun _ => 0)), .inl (1, 4096, .inl (fun _ => 0)), .inl (0, 4, .inl (fun _ => 0))])) _ = _
  rw [mp_ni (n := 20000) (N := 20000) rfl (by decide) (by decide), hb_s]
  show hm_b (hm_p 6 9 (.ref (m + 9)) (mp m [(.inr (6, [.int 0, .ref (m + 1), .ref (m + 2), .ref (m + 3), .ref (m + 4), .ref (m + 5), .ref (m + 6), .ref (m + 7), .ref (m + 8), .null, .null, .int 0, .int 0, .null, .null, .null]) : hm_E), .inl (0, 8, .inl (fun _ => 0)), .inl (0, 8, .inl (fun _ => 0)), .inl (0, 8, .inl (fun _ => 0)), .inl (0, 32, .inl (fun _ => 0)), .inl (0, 32768, .inl (fun _ => 0)), .inl (0, 4096, .inl (fun _ => 0)), .inl (1, 4096, .inl (fun _ => 0)), .inl (0, 4, .inl (fun _ => 0)), .inl (0, 20000, .inl (fun _ => 0))]) (some (m + 0))) _ = _
  rw [mp_p (i := 0) (fs := [.int 0, .ref (m + 1), .ref (m + 2), .ref (m + 3), .ref (m + 4), .ref (m + 5), .ref (m + 6), .ref (m + 7), .ref (m + 8), .null, .null, .int 0, .int 0, .null, .null, .null]) rfl (Nat.le_of_ble_eq_true rfl), hb_s]
  show hm_b (hm_ni 0 7000 7000 (mp m [(.inr (6, [.int 0, .ref (m + 1), .ref (m + 2), .ref (m + 3), .ref (m + 4), .ref (m + 5), .ref (m + 6), .ref (m + 7), .ref (m + 8), .ref (m + 9), .null, .int 0, .int 0, .null, .null, .null]) : hm_E), .inl (0, 8, .inl (fun _ => 0)), .inl (0, 8, .inl (fun _ => 0)), .inl (0, 8, .inl (fun _ => 0)), .inl (0, 32, .inl (fun _ => 0)), .inl (0, 32768, .inl (fun _ => 0)), .inl (0, 4096, .inl (fun _ => 0)), .inl (1, 4096, .inl (fun _ => 0)), .inl (0, 4, .inl (fun _ => 0)), .inl (0, 20000, .inl (fun _ => 0))])) _ = _
  rw [mp_ni (n := 7000) (N := 7000) rfl (by decide) (by decide), hb_s]
  show hm_b (hm_p 6 10 (.ref (m + 10)) (mp m [(.inr (6, [.int 0, .ref (m + 1), .ref (m + 2), .ref (m + 3), .ref (m + 4), .ref (m + 5), .ref (m + 6), .ref (m + 7), .ref (m + 8), .ref (m + 9), .null, .int 0, .int 0, .null, .null, .null]) : hm_E), .inl (0, 8, .inl (fun _ => 0)), .inl (0, 8, .inl (fun _ => 0)), .inl (0, 8, .inl (fun _ => 0)), .inl (0, 32, .inl (fun _ => 0)), .inl (0, 32768, .inl (fun _ => 0)), .inl (0, 4096, .inl (fun _ => 0)), .inl (1, 4096, .inl (fun _ => 0)), .inl (0, 4, .inl (fun _ => 0)), .inl (0, 20000, .inl (fun _ => 0)), .inl (0, 7000, .inl (fun _ => 0))]) (some (m + 0))) _ = _
  rw [mp_p (i := 0) (fs := [.int 0, .ref (m + 1), .ref (m + 2), .ref (m + 3), .ref (m + 4), .ref (m + 5), .ref (m + 6), .ref (m + 7), .ref (m + 8), .ref (m + 9), .null, .int 0, .int 0, .null, .null, .null]) rfl (Nat.le_of_ble_eq_true rfl), hb_s]
  show hm_b (hm_ni 0 4096 4096 (mp m [(.inr (6, [.int 0, .ref (m + 1), .ref (m + 2), .ref (m + 3), .ref (m + 4), .ref (m + 5), .ref (m + 6), .ref (m + 7), .ref (m + 8), .ref (m + 9), .ref (m + 10), .int 0, .int 0, .null, .null, .null]) : hm_E), .inl (0, 8, .inl (fun _ => 0)), .inl (0, 8, .inl (fun _ => 0)), .inl (0, 8, .inl (fun _ => 0)), .inl (0, 32, .inl (fun _ => 0)), .inl (0, 32768, .inl (fun _ => 0)), .inl (0, 4096, .inl (fun _ => 0)), .inl (1, 4096, .inl (fun _ => 0)), .inl (0, 4, .inl (fun _ => 0)), .inl (0, 20000, .inl (fun _ => 0)), .inl (0, 7000, .inl (fun _ => 0))])) _ = _
  rw [mp_ni (n := 4096) (N := 4096) rfl (by decide) (by decide), hb_s]
  show hm_b (hm_p 6 13 (.ref (m + 11)) (mp m [(.inr (6, [.int 0, .ref (m + 1), .ref (m + 2), .ref (m + 3), .ref (m + 4), .ref (m + 5), .ref (m + 6), .ref (m + 7), .ref (m + 8), .ref (m + 9), .ref (m + 10), .int 0, .int 0, .null, .null, .null]) : hm_E), .inl (0, 8, .inl (fun _ => 0)), .inl (0, 8, .inl (fun _ => 0)), .inl (0, 8, .inl (fun _ => 0)), .inl (0, 32, .inl (fun _ => 0)), .inl (0, 32768, .inl (fun _ => 0)), .inl (0, 4096, .inl (fun _ => 0)), .inl (1, 4096, .inl (fun _ => 0)), .inl (0, 4, .inl (fun _ => 0)), .inl (0, 20000, .inl (fun _ => 0)), .inl (0, 7000, .inl (fun _ => 0)), .inl (0, 4096, .inl (fun _ => 0))]) (some (m + 0))) _ = _
  rw [mp_p (i := 0) (fs := [.int 0, .ref (m + 1), .ref (m + 2), .ref (m + 3), .ref (m + 4), .ref (m + 5), .ref (m + 6), .ref (m + 7), .ref (m + 8), .ref (m + 9), .ref (m + 10), .int 0, .int 0, .null, .null, .null]) rfl (Nat.le_of_ble_eq_true rfl), hb_s]
  show hm_b (hm_ni 0 4096 4096 (mp m [(.inr (6, [.int 0, .ref (m + 1), .ref (m + 2), .ref (m + 3), .ref (m + 4), .ref (m + 5), .ref (m + 6), .ref (m + 7), .ref (m + 8), .ref (m + 9), .ref (m + 10), .int 0, .int 0, .ref (m + 11), .null, .null]) : hm_E), .inl (0, 8, .inl (fun _ => 0)), .inl (0, 8, .inl (fun _ => 0)), .inl (0, 8, .inl (fun _ => 0)), .inl (0, 32, .inl (fun _ => 0)), .inl (0, 32768, .inl (fun _ => 0)), .inl (0, 4096, .inl (fun _ => 0)), .inl (1, 4096, .inl (fun _ => 0)), .inl (0, 4, .inl (fun _ => 0)), .inl (0, 20000, .inl (fun _ => 0)), .inl (0, 7000, .inl (fun _ => 0)), .inl (0, 4096, .inl (fun _ => 0))])) _ = _
  rw [mp_ni (n := 4096) (N := 4096) rfl (by decide) (by decide), hb_s]
  show hm_b (hm_p 6 14 (.ref (m + 12)) (mp m [(.inr (6, [.int 0, .ref (m + 1), .ref (m + 2), .ref (m + 3), .ref (m + 4), .ref (m + 5), .ref (m + 6), .ref (m + 7), .ref (m + 8), .ref (m + 9), .ref (m + 10), .int 0, .int 0, .ref (m + 11), .null, .null]) : hm_E), .inl (0, 8, .inl (fun _ => 0)), .inl (0, 8, .inl (fun _ => 0)), .inl (0, 8, .inl (fun _ => 0)), .inl (0, 32, .inl (fun _ => 0)), .inl (0, 32768, .inl (fun _ => 0)), .inl (0, 4096, .inl (fun _ => 0)), .inl (1, 4096, .inl (fun _ => 0)), .inl (0, 4, .inl (fun _ => 0)), .inl (0, 20000, .inl (fun _ => 0)), .inl (0, 7000, .inl (fun _ => 0)), .inl (0, 4096, .inl (fun _ => 0)), .inl (0, 4096, .inl (fun _ => 0))]) (some (m + 0))) _ = _
  rw [mp_p (i := 0) (fs := [.int 0, .ref (m + 1), .ref (m + 2), .ref (m + 3), .ref (m + 4), .ref (m + 5), .ref (m + 6), .ref (m + 7), .ref (m + 8), .ref (m + 9), .ref (m + 10), .int 0, .int 0, .ref (m + 11), .null, .null]) rfl (Nat.le_of_ble_eq_true rfl), hb_s]
  show hm_b (hm_ni 0 4096 4096 (mp m [(.inr (6, [.int 0, .ref (m + 1), .ref (m + 2), .ref (m + 3), .ref (m + 4), .ref (m + 5), .ref (m + 6), .ref (m + 7), .ref (m + 8), .ref (m + 9), .ref (m + 10), .int 0, .int 0, .ref (m + 11), .ref (m + 12), .null]) : hm_E), .inl (0, 8, .inl (fun _ => 0)), .inl (0, 8, .inl (fun _ => 0)), .inl (0, 8, .inl (fun _ => 0)), .inl (0, 32, .inl (fun _ => 0)), .inl (0, 32768, .inl (fun _ => 0)), .inl (0, 4096, .inl (fun _ => 0)), .inl (1, 4096, .inl (fun _ => 0)), .inl (0, 4, .inl (fun _ => 0)), .inl (0, 20000, .inl (fun _ => 0)), .inl (0, 7000, .inl (fun _ => 0)), .inl (0, 4096, .inl (fun _ => 0)), .inl (0, 4096, .inl (fun _ => 0))])) _ = _
  rw [mp_ni (n := 4096) (N := 4096) rfl (by decide) (by decide), hb_s]
  show hm_b (hm_p 6 15 (.ref (m + 13)) (mp m [(.inr (6, [.int 0, .ref (m + 1), .ref (m + 2), .ref (m + 3), .ref (m + 4), .ref (m + 5), .ref (m + 6), .ref (m + 7), .ref (m + 8), .ref (m + 9), .ref (m + 10), .int 0, .int 0, .ref (m + 11), .ref (m + 12), .null]) : hm_E), .inl (0, 8, .inl (fun _ => 0)), .inl (0, 8, .inl (fun _ => 0)), .inl (0, 8, .inl (fun _ => 0)), .inl (0, 32, .inl (fun _ => 0)), .inl (0, 32768, .inl (fun _ => 0)), .inl (0, 4096, .inl (fun _ => 0)), .inl (1, 4096, .inl (fun _ => 0)), .inl (0, 4, .inl (fun _ => 0)), .inl (0, 20000, .inl (fun _ => 0)), .inl (0, 7000, .inl (fun _ => 0)), .inl (0, 4096, .inl (fun _ => 0)), .inl (0, 4096, .inl (fun _ => 0)), .inl (0, 4096, .inl (fun _ => 0))]) (some (m + 0))) _ = _
  rw [mp_p (i := 0) (fs := [.int 0, .ref (m + 1), .ref (m + 2), .ref (m + 3), .ref (m + 4), .ref (m + 5), .ref (m + 6), .ref (m + 7), .ref (m + 8), .ref (m + 9), .ref (m + 10), .int 0, .int 0, .ref (m + 11), .ref (m + 12), .null]) rfl (Nat.le_of_ble_eq_true rfl), hb_s]
  rfl
/-- a new board and a new reference agree -/
theorem ag_init (b m : Nat) : ∃ hc hm, fX5_init b (hm_n (fun _ => none, b) (.inr (5, [.null, .int 0, .null, .null, .null]))) = some hc ∧ fX6_init m (hm_n (fun _ => none, m) (.inr (6, [.int 0, .null, .null, .null, .null, .null, .null, .null, .null, .null, .null, .int 0, .int 0, .null, .null, .null]))) = some hm ∧ hc.2 = b + 14 ∧ hm.2 = m + 14 ∧ AG b m hc hm := by
  refine ⟨_, _, init_c b, init_m m, rfl, rfl, 0, fun _ => 0, fun _ => 0, fun k => b + 3 + 2 * k, fun _ => (0, 0, 0), fun _ => (0, 0, 0, 0), fun _ => (0, 0), fun _ => 0, fun _ _ => 0, fun _ _ => 0, 0, 0, fun _ _ => 0, ⟨⟨?_, fun i hi => absurd hi (by omega), fun k hk => ?_⟩, ⟨⟨_, mp_at b _ 1, fun i hi => absurd hi (by omega)⟩, ⟨_, mp_at b _ 2, fun k hk => ?_⟩, mp_at b _ 13, fun i hi => absurd hi (by omega), fun k hk => ?_⟩, ⟨fun i hi => absurd hi (by omega), fun i j _ hj => absurd hj (by omega), fun k hk => ⟨k, hk, rfl⟩, fun k k' _ _ e => by have e : b + 3 + 2 * k = b + 3 + 2 * k' := e; omega, Nat.le_refl _, fun a ha => ?_⟩, by decide, fun i hi => absurd hi (by omega)⟩, ⟨mp_at m _ 0, fun k h1 h2 h3 => ?_, mp_at m _ 7⟩, ⟨fun i hi => absurd hi (by omega), fun _ _ _ _ _ => rfl⟩, fun i x y hi => absurd hi (by omega), fun k hk => ⟨0, by omega, rfl, rfl, fun j hj => absurd hj (by omega)⟩⟩
  · exact mp_at b _ 0
  · rcases (show k = 0 ∨ k = 1 ∨ k = 2 ∨ k = 3 ∨ k = 4 by omega) with rfl | rfl | rfl | rfl | rfl
    · exact mp_at b _ 3
    · exact mp_at b _ 5
    · exact mp_at b _ 7
    · exact mp_at b _ 9
    · exact mp_at b _ 11
  · rcases (show k = 0 ∨ k = 1 ∨ k = 2 ∨ k = 3 by omega) with rfl | rfl | rfl | rfl <;> rfl
  · rcases (show k = 0 ∨ k = 1 ∨ k = 2 ∨ k = 3 ∨ k = 4 by omega) with rfl | rfl | rfl | rfl | rfl
    · exact mp_at b _ 4
    · exact mp_at b _ 6
    · exact mp_at b _ 8
    · exact mp_at b _ 10
    · exact mp_at b _ 12
  · have ha' : b + 14 ≤ a := ha
    show (if b ≤ a then _ else none) = none
    rw [if_pos (by omega), List.getElem?_eq_none (by show 14 ≤ a - b; omega)]
  · rcases (show k = 1 ∨ k = 2 ∨ k = 3 ∨ k = 4 ∨ k = 5 ∨ k = 6 ∨ k = 8 ∨ k = 9 ∨ k = 10 ∨ k = 11 ∨ k = 12 ∨ k = 13 by omega) with rfl | rfl | rfl | rfl | rfl | rfl | rfl | rfl | rfl | rfl | rfl | rfl
    · exact mp_at m _ 1
    · exact mp_at m _ 2
    · exact mp_at m _ 3
    · exact mp_at m _ 4
    · exact mp_at m _ 5
    · exact mp_at m _ 6
    · exact mp_at m _ 8
    · exact mp_at m _ 9
    · exact mp_at m _ 10
    · exact mp_at m _ 11
    · exact mp_at m _ 12
    · exact mp_at m _ 13
