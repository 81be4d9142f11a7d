/-! the law's cases, printed by wip/tools/law.py -/
theorem law_make {p : Program} {l : Launch} {e : Env} {s : State} {m : MethodId} {below : List Frame} {meth : Method} {c : Code} {H : Heap} {locs : List Loc} {cells slots : Nat} {Q : State → Prop} {ls : Array Slot} {D : va_G} {kA : Nat → ClassId} {b L i bd md : Nat} {xs : Nat → Int32} {hc hm : hm_H} {lv : List (Nat × Value)} (C0 : lw_At p s m meth c b L xs) (hK : va_K D vwCl (hm_ty kA) s) (hi : i + 11 ≤ L) (hL : L ≤ 5632) (hl : lv_has ls 4 lv) (l0 : ls[0]? = some (.val (.ref b))) (l1 : ls[1]? = some (.val (va_rf (some bd)))) (l2 : ls[2]? = some (.val (va_rf (some md)))) (l3 : ls[3]? = some (.val (.int (nI i)))) (S : LWS D kA s bd md hc hm H locs) (h1 : cells + 6 ≤ 600000) (h2 : slots + 4105 ≤ 7302250)
    (kk : ∀ (hc hm : hm_H) (H : Heap) (locs : List Loc), LWS D kA s bd md hc hm H locs → W p l e room_1 s m #[Value.ref b] below meth c H locs (cells + 6) (slots + 4105) Q (F0 m 1202 ls [])) : W p l e room_1 s m #[Value.ref b] below meth c H locs cells slots Q (F0 m 120 ls []) := by
  obtain ⟨hx, hb, -, hml, hown, hts, hX, hbl, -, -⟩ := C0
  obtain ⟨hI, hG, ha, hAG⟩ := S
  have hbA : ¬ (fun q : Nat => s.heap.size ≤ q) b := Nat.not_le.mpr hbl
  have hts1 : ∀ w ∈ wsL_law, w.before #[Value.ref b] s = true := fun w h => hts w (wsL_law_in w h)
  obtain ⟨r, hc1, hm1, e1, e2, A1⟩ := (ag_make bd md (xs (i + 1)) (xs (i + 2)) (xs (i + 3))).two hAG
  have hS := hI.2.1
  refine hm_aload_n hx hb dL_law_120 rfl l1 ?_
  refine sc_c (j := 1) hx hb hX hbl hbA hS l0 l3 (by omega) hL dL_law_121 dL_law_122 dL_law_123 rfl dL_law_124 dL_law_125 ?_
  refine sc_c (j := 2) hx hb hX hbl hbA hS l0 l3 (by omega) hL dL_law_126 dL_law_127 dL_law_128 rfl dL_law_129 dL_law_130 ?_
  refine sc_c (j := 3) hx hb hX hbl hbA hS l0 l3 (by omega) hL dL_law_131 dL_law_132 dL_law_133 rfl dL_law_134 dL_law_135 ?_
  refine hm_cV2 (As := [.int (xs (i + 1)), .int (xs (i + 2)), .int (xs (i + 3))]) (rest := []) ⟨hx, hb, hml, hown, hts1⟩ hK hI hG ha hAG.rc5 rfl rfl (kX5_make l D kA bd (xs (i + 1)) (xs (i + 2)) (xs (i + 3)) hc hc1 r e1) (cwV 3 hts1 gL_law_X5_make rfl rfl rfl (by decide +kernel) ⟨Nat.le_of_ble_eq_true rfl, Nat.le_of_ble_eq_true rfl⟩) rfl hl.1 rfl (Nat.le_of_ble_eq_true rfl) dL_law_136 ⟨show cells + 3 ≤ 600000 by omega, show slots + 4105 ≤ 7302250 by omega⟩ (fun H1 locs1 z1 hI1 hG1 a1 => ?_)
  have hJ1 := hI1.other hG1
  have hS := hJ1.2.1
  refine hm_aload_n hx hb dL_law_139 rfl l2 ?_
  refine sc_c (j := 1) hx hb hX hbl hbA hS l0 l3 (by omega) hL dL_law_140 dL_law_141 dL_law_142 rfl dL_law_143 dL_law_144 ?_
  refine sc_c (j := 2) hx hb hX hbl hbA hS l0 l3 (by omega) hL dL_law_145 dL_law_146 dL_law_147 rfl dL_law_148 dL_law_149 ?_
  refine sc_c (j := 3) hx hb hX hbl hbA hS l0 l3 (by omega) hL dL_law_150 dL_law_151 dL_law_152 rfl dL_law_153 dL_law_154 ?_
  refine hm_cV2 (As := [.int (xs (i + 1)), .int (xs (i + 2)), .int (xs (i + 3))]) (rest := [.int r]) ⟨hx, hb, hml, hown, hts1⟩ hK hJ1 hI1.1 a1.sym (hAG.rc6 _) rfl rfl (kX6_make l D kA md (xs (i + 1)) (xs (i + 2)) (xs (i + 3)) (hm.1, hc1.2) hm1 r e2) (cwV 3 hts1 gL_law_X6_make rfl rfl rfl (by decide +kernel) ⟨Nat.le_of_ble_eq_true rfl, Nat.le_of_ble_eq_true rfl⟩) rfl hl.1 rfl (Nat.le_of_ble_eq_true rfl) dL_law_155 ⟨show cells + 3 + 0 ≤ 600000 by omega, show slots + 4105 + 0 ≤ 7302250 by omega⟩ (fun H2 locs2 z2 hI2 hG2 a2 => ?_)
  refine lv_icmp_eq (tgt := 1202) hx hb dL_law_158 (by decide) (fun _ => ?_) (fun z => absurd rfl z)
  exact W.widen (show cells + 3 + 0 ≤ cells + 6 by omega) (show slots + 4105 + 0 ≤ slots + 4105 by omega) (kk (hc1.1, hm1.2) hm1 H2 locs2 ⟨hI2.other hG2, hI2.1, a2.sym, A1.grow z2 hm1.2⟩)
theorem law_clip {p : Program} {l : Launch} {e : Env} {s : State} {m : MethodId} {below : List Frame} {meth : Method} {c : Code} {H : Heap} {locs : List Loc} {cells slots : Nat} {Q : State → Prop} {ls : Array Slot} {D : va_G} {kA : Nat → ClassId} {b L i bd md : Nat} {xs : Nat → Int32} {hc hm : hm_H} {lv : List (Nat × Value)} (C0 : lw_At p s m meth c b L xs) (hK : va_K D vwCl (hm_ty kA) s) (hi : i + 11 ≤ L) (hL : L ≤ 5632) (hl : lv_has ls 4 lv) (l0 : ls[0]? = some (.val (.ref b))) (l1 : ls[1]? = some (.val (va_rf (some bd)))) (l2 : ls[2]? = some (.val (va_rf (some md)))) (l3 : ls[3]? = some (.val (.int (nI i)))) (S : LWS D kA s bd md hc hm H locs) (h1 : cells + 6 ≤ 600000) (h2 : slots + 4105 ≤ 7302250)
    (kk : ∀ (hc hm : hm_H) (H : Heap) (locs : List Loc), LWS D kA s bd md hc hm H locs → W p l e room_1 s m #[Value.ref b] below meth c H locs (cells + 6) (slots + 4105) Q (F0 m 1202 ls [])) : W p l e room_1 s m #[Value.ref b] below meth c H locs cells slots Q (F0 m 163 ls []) := by
  obtain ⟨hx, hb, -, hml, hown, hts, hX, hbl, -, -⟩ := C0
  obtain ⟨hI, hG, ha, hAG⟩ := S
  have hbA : ¬ (fun q : Nat => s.heap.size ≤ q) b := Nat.not_le.mpr hbl
  have hts1 : ∀ w ∈ wsL_law, w.before #[Value.ref b] s = true := fun w h => hts w (wsL_law_in w h)
  obtain ⟨r, hc1, hm1, e1, e2, A1⟩ := (ag_clip bd md (xs (i + 1)) (xs (i + 2)) (xs (i + 3)) (xs (i + 4)) (xs (i + 5))).two hAG
  have hS := hI.2.1
  refine hm_aload_n hx hb dL_law_163 rfl l1 ?_
  refine sc_c (j := 1) hx hb hX hbl hbA hS l0 l3 (by omega) hL dL_law_164 dL_law_165 dL_law_166 rfl dL_law_167 dL_law_168 ?_
  refine sc_c (j := 2) hx hb hX hbl hbA hS l0 l3 (by omega) hL dL_law_169 dL_law_170 dL_law_171 rfl dL_law_172 dL_law_173 ?_
  refine sc_c (j := 3) hx hb hX hbl hbA hS l0 l3 (by omega) hL dL_law_174 dL_law_175 dL_law_176 rfl dL_law_177 dL_law_178 ?_
  refine sc_c (j := 4) hx hb hX hbl hbA hS l0 l3 (by omega) hL dL_law_179 dL_law_180 dL_law_181 rfl dL_law_182 dL_law_183 ?_
  refine sc_c (j := 5) hx hb hX hbl hbA hS l0 l3 (by omega) hL dL_law_184 dL_law_185 dL_law_186 rfl dL_law_187 dL_law_188 ?_
  refine hm_cV2 (As := [.int (xs (i + 1)), .int (xs (i + 2)), .int (xs (i + 3)), .int (xs (i + 4)), .int (xs (i + 5))]) (rest := []) ⟨hx, hb, hml, hown, hts1⟩ hK hI hG ha hAG.rc5 rfl rfl (kX5_clip l D kA bd (xs (i + 1)) (xs (i + 2)) (xs (i + 3)) (xs (i + 4)) (xs (i + 5)) hc hc1 r e1) (cwV 5 hts1 gL_law_X5_clip rfl rfl rfl (by decide +kernel) ⟨Nat.le_of_ble_eq_true rfl, Nat.le_of_ble_eq_true rfl⟩) rfl hl.1 rfl (Nat.le_of_ble_eq_true rfl) dL_law_189 ⟨show cells + 2 ≤ 600000 by omega, show slots + 8 ≤ 7302250 by omega⟩ (fun H1 locs1 z1 hI1 hG1 a1 => ?_)
  have hJ1 := hI1.other hG1
  have hS := hJ1.2.1
  refine hm_aload_n hx hb dL_law_192 rfl l2 ?_
  refine sc_c (j := 1) hx hb hX hbl hbA hS l0 l3 (by omega) hL dL_law_193 dL_law_194 dL_law_195 rfl dL_law_196 dL_law_197 ?_
  refine sc_c (j := 2) hx hb hX hbl hbA hS l0 l3 (by omega) hL dL_law_198 dL_law_199 dL_law_200 rfl dL_law_201 dL_law_202 ?_
  refine sc_c (j := 3) hx hb hX hbl hbA hS l0 l3 (by omega) hL dL_law_203 dL_law_204 dL_law_205 rfl dL_law_206 dL_law_207 ?_
  refine sc_c (j := 4) hx hb hX hbl hbA hS l0 l3 (by omega) hL dL_law_208 dL_law_209 dL_law_210 rfl dL_law_211 dL_law_212 ?_
  refine sc_c (j := 5) hx hb hX hbl hbA hS l0 l3 (by omega) hL dL_law_213 dL_law_214 dL_law_215 rfl dL_law_216 dL_law_217 ?_
  refine hm_cV2 (As := [.int (xs (i + 1)), .int (xs (i + 2)), .int (xs (i + 3)), .int (xs (i + 4)), .int (xs (i + 5))]) (rest := [.int r]) ⟨hx, hb, hml, hown, hts1⟩ hK hJ1 hI1.1 a1.sym (hAG.rc6 _) rfl rfl (kX6_clip l D kA md (xs (i + 1)) (xs (i + 2)) (xs (i + 3)) (xs (i + 4)) (xs (i + 5)) (hm.1, hc1.2) hm1 r e2) (cwV 5 hts1 gL_law_X6_clip rfl rfl rfl (by decide +kernel) ⟨Nat.le_of_ble_eq_true rfl, Nat.le_of_ble_eq_true rfl⟩) rfl hl.1 rfl (Nat.le_of_ble_eq_true rfl) dL_law_218 ⟨show cells + 2 + 0 ≤ 600000 by omega, show slots + 8 + 0 ≤ 7302250 by omega⟩ (fun H2 locs2 z2 hI2 hG2 a2 => ?_)
  refine lv_icmp_eq (tgt := 1202) hx hb dL_law_221 (by decide) (fun _ => ?_) (fun z => absurd rfl z)
  exact W.widen (show cells + 2 + 0 ≤ cells + 6 by omega) (show slots + 8 + 0 ≤ slots + 4105 by omega) (kk (hc1.1, hm1.2) hm1 H2 locs2 ⟨hI2.other hG2, hI2.1, a2.sym, A1.grow z2 hm1.2⟩)
theorem law_set {p : Program} {l : Launch} {e : Env} {s : State} {m : MethodId} {below : List Frame} {meth : Method} {c : Code} {H : Heap} {locs : List Loc} {cells slots : Nat} {Q : State → Prop} {ls : Array Slot} {D : va_G} {kA : Nat → ClassId} {b L i bd md : Nat} {xs : Nat → Int32} {hc hm : hm_H} {lv : List (Nat × Value)} (C0 : lw_At p s m meth c b L xs) (hK : va_K D vwCl (hm_ty kA) s) (hi : i + 11 ≤ L) (hL : L ≤ 5632) (hl : lv_has ls 4 lv) (l0 : ls[0]? = some (.val (.ref b))) (l1 : ls[1]? = some (.val (va_rf (some bd)))) (l2 : ls[2]? = some (.val (va_rf (some md)))) (l3 : ls[3]? = some (.val (.int (nI i)))) (S : LWS D kA s bd md hc hm H locs) (h1 : cells + 6 ≤ 600000) (h2 : slots + 4105 ≤ 7302250)
    (kk : ∀ (hc hm : hm_H) (H : Heap) (locs : List Loc), LWS D kA s bd md hc hm H locs → W p l e room_1 s m #[Value.ref b] below meth c H locs (cells + 6) (slots + 4105) Q (F0 m 1202 ls [])) : W p l e room_1 s m #[Value.ref b] below meth c H locs cells slots Q (F0 m 226 ls []) := by
  obtain ⟨hx, hb, -, hml, hown, hts, hX, hbl, -, -⟩ := C0
  obtain ⟨hI, hG, ha, hAG⟩ := S
  have hbA : ¬ (fun q : Nat => s.heap.size ≤ q) b := Nat.not_le.mpr hbl
  have hts1 : ∀ w ∈ wsL_law, w.before #[Value.ref b] s = true := fun w h => hts w (wsL_law_in w h)
  obtain ⟨r, hc1, hm1, e1, e2, A1⟩ := (ag_set bd md (xs (i + 1)) (xs (i + 2)) (xs (i + 3)) (xs (i + 4))).two hAG
  have hS := hI.2.1
  refine hm_aload_n hx hb dL_law_226 rfl l1 ?_
  refine sc_c (j := 1) hx hb hX hbl hbA hS l0 l3 (by omega) hL dL_law_227 dL_law_228 dL_law_229 rfl dL_law_230 dL_law_231 ?_
  refine sc_c (j := 2) hx hb hX hbl hbA hS l0 l3 (by omega) hL dL_law_232 dL_law_233 dL_law_234 rfl dL_law_235 dL_law_236 ?_
  refine sc_c (j := 3) hx hb hX hbl hbA hS l0 l3 (by omega) hL dL_law_237 dL_law_238 dL_law_239 rfl dL_law_240 dL_law_241 ?_
  refine sc_c (j := 4) hx hb hX hbl hbA hS l0 l3 (by omega) hL dL_law_242 dL_law_243 dL_law_244 rfl dL_law_245 dL_law_246 ?_
  refine hm_cV2 (As := [.int (xs (i + 1)), .int (xs (i + 2)), .int (xs (i + 3)), .int (xs (i + 4))]) (rest := []) ⟨hx, hb, hml, hown, hts1⟩ hK hI hG ha hAG.rc5 rfl rfl (kX5_set l D kA bd (xs (i + 1)) (xs (i + 2)) (xs (i + 3)) (xs (i + 4)) hc hc1 r e1) (cwV 4 hts1 gL_law_X5_set rfl rfl rfl (by decide +kernel) ⟨Nat.le_of_ble_eq_true rfl, Nat.le_of_ble_eq_true rfl⟩) rfl hl.1 rfl (Nat.le_of_ble_eq_true rfl) dL_law_247 ⟨show cells + 0 ≤ 600000 by omega, show slots + 0 ≤ 7302250 by omega⟩ (fun H1 locs1 z1 hI1 hG1 a1 => ?_)
  have hJ1 := hI1.other hG1
  have hS := hJ1.2.1
  refine hm_aload_n hx hb dL_law_250 rfl l2 ?_
  refine sc_c (j := 1) hx hb hX hbl hbA hS l0 l3 (by omega) hL dL_law_251 dL_law_252 dL_law_253 rfl dL_law_254 dL_law_255 ?_
  refine sc_c (j := 2) hx hb hX hbl hbA hS l0 l3 (by omega) hL dL_law_256 dL_law_257 dL_law_258 rfl dL_law_259 dL_law_260 ?_
  refine sc_c (j := 3) hx hb hX hbl hbA hS l0 l3 (by omega) hL dL_law_261 dL_law_262 dL_law_263 rfl dL_law_264 dL_law_265 ?_
  refine sc_c (j := 4) hx hb hX hbl hbA hS l0 l3 (by omega) hL dL_law_266 dL_law_267 dL_law_268 rfl dL_law_269 dL_law_270 ?_
  refine hm_cV2 (As := [.int (xs (i + 1)), .int (xs (i + 2)), .int (xs (i + 3)), .int (xs (i + 4))]) (rest := [.int r]) ⟨hx, hb, hml, hown, hts1⟩ hK hJ1 hI1.1 a1.sym (hAG.rc6 _) rfl rfl (kX6_set l D kA md (xs (i + 1)) (xs (i + 2)) (xs (i + 3)) (xs (i + 4)) (hm.1, hc1.2) hm1 r e2) (cwV 4 hts1 gL_law_X6_set rfl rfl rfl (by decide +kernel) ⟨Nat.le_of_ble_eq_true rfl, Nat.le_of_ble_eq_true rfl⟩) rfl hl.1 rfl (Nat.le_of_ble_eq_true rfl) dL_law_271 ⟨show cells + 0 + 0 ≤ 600000 by omega, show slots + 0 + 0 ≤ 7302250 by omega⟩ (fun H2 locs2 z2 hI2 hG2 a2 => ?_)
  refine lv_icmp_eq (tgt := 1202) hx hb dL_law_274 (by decide) (fun _ => ?_) (fun z => absurd rfl z)
  exact W.widen (show cells + 0 + 0 ≤ cells + 6 by omega) (show slots + 0 + 0 ≤ slots + 4105 by omega) (kk (hc1.1, hm1.2) hm1 H2 locs2 ⟨hI2.other hG2, hI2.1, a2.sym, A1.grow z2 hm1.2⟩)
theorem law_get {p : Program} {l : Launch} {e : Env} {s : State} {m : MethodId} {below : List Frame} {meth : Method} {c : Code} {H : Heap} {locs : List Loc} {cells slots : Nat} {Q : State → Prop} {ls : Array Slot} {D : va_G} {kA : Nat → ClassId} {b L i bd md : Nat} {xs : Nat → Int32} {hc hm : hm_H} {lv : List (Nat × Value)} (C0 : lw_At p s m meth c b L xs) (hK : va_K D vwCl (hm_ty kA) s) (hi : i + 11 ≤ L) (hL : L ≤ 5632) (hl : lv_has ls 4 lv) (l0 : ls[0]? = some (.val (.ref b))) (l1 : ls[1]? = some (.val (va_rf (some bd)))) (l2 : ls[2]? = some (.val (va_rf (some md)))) (l3 : ls[3]? = some (.val (.int (nI i)))) (S : LWS D kA s bd md hc hm H locs) (h1 : cells + 6 ≤ 600000) (h2 : slots + 4105 ≤ 7302250)
    (kk : ∀ (hc hm : hm_H) (H : Heap) (locs : List Loc), LWS D kA s bd md hc hm H locs → W p l e room_1 s m #[Value.ref b] below meth c H locs (cells + 6) (slots + 4105) Q (F0 m 1202 ls [])) : W p l e room_1 s m #[Value.ref b] below meth c H locs cells slots Q (F0 m 279 ls []) := by
  obtain ⟨hx, hb, -, hml, hown, hts, hX, hbl, -, -⟩ := C0
  obtain ⟨hI, hG, ha, hAG⟩ := S
  have hbA : ¬ (fun q : Nat => s.heap.size ≤ q) b := Nat.not_le.mpr hbl
  have hts1 : ∀ w ∈ wsL_law, w.before #[Value.ref b] s = true := fun w h => hts w (wsL_law_in w h)
  obtain ⟨r, hc1, hm1, e1, e2, A1⟩ := (ag_get bd md (xs (i + 1)) (xs (i + 2)) (xs (i + 3))).two hAG
  have hS := hI.2.1
  refine hm_aload_n hx hb dL_law_279 rfl l1 ?_
  refine sc_c (j := 1) hx hb hX hbl hbA hS l0 l3 (by omega) hL dL_law_280 dL_law_281 dL_law_282 rfl dL_law_283 dL_law_284 ?_
  refine sc_c (j := 2) hx hb hX hbl hbA hS l0 l3 (by omega) hL dL_law_285 dL_law_286 dL_law_287 rfl dL_law_288 dL_law_289 ?_
  refine sc_c (j := 3) hx hb hX hbl hbA hS l0 l3 (by omega) hL dL_law_290 dL_law_291 dL_law_292 rfl dL_law_293 dL_law_294 ?_
  refine hm_cV2 (As := [.int (xs (i + 1)), .int (xs (i + 2)), .int (xs (i + 3))]) (rest := []) ⟨hx, hb, hml, hown, hts1⟩ hK hI hG ha hAG.rc5 rfl rfl (kX5_get l D kA bd (xs (i + 1)) (xs (i + 2)) (xs (i + 3)) hc hc1 r e1) (cwV 3 hts1 gL_law_X5_get rfl rfl rfl (by decide +kernel) ⟨Nat.le_of_ble_eq_true rfl, Nat.le_of_ble_eq_true rfl⟩) rfl hl.1 rfl (Nat.le_of_ble_eq_true rfl) dL_law_295 ⟨show cells + 0 ≤ 600000 by omega, show slots + 0 ≤ 7302250 by omega⟩ (fun H1 locs1 z1 hI1 hG1 a1 => ?_)
  have hJ1 := hI1.other hG1
  have hS := hJ1.2.1
  refine hm_aload_n hx hb dL_law_298 rfl l2 ?_
  refine sc_c (j := 1) hx hb hX hbl hbA hS l0 l3 (by omega) hL dL_law_299 dL_law_300 dL_law_301 rfl dL_law_302 dL_law_303 ?_
  refine sc_c (j := 2) hx hb hX hbl hbA hS l0 l3 (by omega) hL dL_law_304 dL_law_305 dL_law_306 rfl dL_law_307 dL_law_308 ?_
  refine sc_c (j := 3) hx hb hX hbl hbA hS l0 l3 (by omega) hL dL_law_309 dL_law_310 dL_law_311 rfl dL_law_312 dL_law_313 ?_
  refine hm_cV2 (As := [.int (xs (i + 1)), .int (xs (i + 2)), .int (xs (i + 3))]) (rest := [.int r]) ⟨hx, hb, hml, hown, hts1⟩ hK hJ1 hI1.1 a1.sym (hAG.rc6 _) rfl rfl (kX6_get l D kA md (xs (i + 1)) (xs (i + 2)) (xs (i + 3)) (hm.1, hc1.2) hm1 r e2) (cwV 3 hts1 gL_law_X6_get rfl rfl rfl (by decide +kernel) ⟨Nat.le_of_ble_eq_true rfl, Nat.le_of_ble_eq_true rfl⟩) rfl hl.1 rfl (Nat.le_of_ble_eq_true rfl) dL_law_314 ⟨show cells + 0 + 0 ≤ 600000 by omega, show slots + 0 + 0 ≤ 7302250 by omega⟩ (fun H2 locs2 z2 hI2 hG2 a2 => ?_)
  refine lv_icmp_eq (tgt := 1202) hx hb dL_law_317 (by decide) (fun _ => ?_) (fun z => absurd rfl z)
  exact W.widen (show cells + 0 + 0 ≤ cells + 6 by omega) (show slots + 0 + 0 ≤ slots + 4105 by omega) (kk (hc1.1, hm1.2) hm1 H2 locs2 ⟨hI2.other hG2, hI2.1, a2.sym, A1.grow z2 hm1.2⟩)
theorem law_told {p : Program} {l : Launch} {e : Env} {s : State} {m : MethodId} {below : List Frame} {meth : Method} {c : Code} {H : Heap} {locs : List Loc} {cells slots : Nat} {Q : State → Prop} {ls : Array Slot} {D : va_G} {kA : Nat → ClassId} {b L i bd md : Nat} {xs : Nat → Int32} {hc hm : hm_H} {lv : List (Nat × Value)} (C0 : lw_At p s m meth c b L xs) (hK : va_K D vwCl (hm_ty kA) s) (hi : i + 11 ≤ L) (hL : L ≤ 5632) (hl : lv_has ls 4 lv) (l0 : ls[0]? = some (.val (.ref b))) (l1 : ls[1]? = some (.val (va_rf (some bd)))) (l2 : ls[2]? = some (.val (va_rf (some md)))) (l3 : ls[3]? = some (.val (.int (nI i)))) (S : LWS D kA s bd md hc hm H locs) (h1 : cells + 6 ≤ 600000) (h2 : slots + 4105 ≤ 7302250)
    (kk : ∀ (hc hm : hm_H) (H : Heap) (locs : List Loc), LWS D kA s bd md hc hm H locs → W p l e room_1 s m #[Value.ref b] below meth c H locs (cells + 6) (slots + 4105) Q (F0 m 1202 ls [])) : W p l e room_1 s m #[Value.ref b] below meth c H locs cells slots Q (F0 m 322 ls []) := by
  obtain ⟨hx, hb, -, hml, hown, hts, hX, hbl, -, -⟩ := C0
  obtain ⟨hI, hG, ha, hAG⟩ := S
  have hbA : ¬ (fun q : Nat => s.heap.size ≤ q) b := Nat.not_le.mpr hbl
  have hts1 : ∀ w ∈ wsL_law, w.before #[Value.ref b] s = true := fun w h => hts w (wsL_law_in w h)
  obtain ⟨r, hc1, hm1, e1, e2, A1⟩ := (ag_told bd md (xs (i + 1)) (xs (i + 2))).two hAG
  have hS := hI.2.1
  refine hm_aload_n hx hb dL_law_322 rfl l1 ?_
  refine sc_c (j := 1) hx hb hX hbl hbA hS l0 l3 (by omega) hL dL_law_323 dL_law_324 dL_law_325 rfl dL_law_326 dL_law_327 ?_
  refine sc_c (j := 2) hx hb hX hbl hbA hS l0 l3 (by omega) hL dL_law_328 dL_law_329 dL_law_330 rfl dL_law_331 dL_law_332 ?_
  refine hm_cV2 (As := [.int (xs (i + 1)), .int (xs (i + 2))]) (rest := []) ⟨hx, hb, hml, hown, hts1⟩ hK hI hG ha hAG.rc5 rfl rfl (kX5_told l D kA bd (xs (i + 1)) (xs (i + 2)) hc hc1 r e1) (cwV 2 hts1 gL_law_X5_told rfl rfl rfl (by decide +kernel) ⟨Nat.le_of_ble_eq_true rfl, Nat.le_of_ble_eq_true rfl⟩) rfl hl.1 rfl (Nat.le_of_ble_eq_true rfl) dL_law_333 ⟨show cells + 0 ≤ 600000 by omega, show slots + 0 ≤ 7302250 by omega⟩ (fun H1 locs1 z1 hI1 hG1 a1 => ?_)
  have hJ1 := hI1.other hG1
  have hS := hJ1.2.1
  refine hm_aload_n hx hb dL_law_336 rfl l2 ?_
  refine sc_c (j := 1) hx hb hX hbl hbA hS l0 l3 (by omega) hL dL_law_337 dL_law_338 dL_law_339 rfl dL_law_340 dL_law_341 ?_
  refine sc_c (j := 2) hx hb hX hbl hbA hS l0 l3 (by omega) hL dL_law_342 dL_law_343 dL_law_344 rfl dL_law_345 dL_law_346 ?_
  refine hm_cV2 (As := [.int (xs (i + 1)), .int (xs (i + 2))]) (rest := [.int r]) ⟨hx, hb, hml, hown, hts1⟩ hK hJ1 hI1.1 a1.sym (hAG.rc6 _) rfl rfl (kX6_told l D kA md (xs (i + 1)) (xs (i + 2)) (hm.1, hc1.2) hm1 r e2) (cwV 2 hts1 gL_law_X6_told rfl rfl rfl (by decide +kernel) ⟨Nat.le_of_ble_eq_true rfl, Nat.le_of_ble_eq_true rfl⟩) rfl hl.1 rfl (Nat.le_of_ble_eq_true rfl) dL_law_347 ⟨show cells + 0 + 0 ≤ 600000 by omega, show slots + 0 + 0 ≤ 7302250 by omega⟩ (fun H2 locs2 z2 hI2 hG2 a2 => ?_)
  refine lv_icmp_eq (tgt := 1202) hx hb dL_law_350 (by decide) (fun _ => ?_) (fun z => absurd rfl z)
  exact W.widen (show cells + 0 + 0 ≤ cells + 6 by omega) (show slots + 0 + 0 ≤ slots + 4105 by omega) (kk (hc1.1, hm1.2) hm1 H2 locs2 ⟨hI2.other hG2, hI2.1, a2.sym, A1.grow z2 hm1.2⟩)
theorem law_fill {p : Program} {l : Launch} {e : Env} {s : State} {m : MethodId} {below : List Frame} {meth : Method} {c : Code} {H : Heap} {locs : List Loc} {cells slots : Nat} {Q : State → Prop} {ls : Array Slot} {D : va_G} {kA : Nat → ClassId} {b L i bd md : Nat} {xs : Nat → Int32} {hc hm : hm_H} {lv : List (Nat × Value)} (C0 : lw_At p s m meth c b L xs) (hK : va_K D vwCl (hm_ty kA) s) (hi : i + 11 ≤ L) (hL : L ≤ 5632) (hl : lv_has ls 4 lv) (l0 : ls[0]? = some (.val (.ref b))) (l1 : ls[1]? = some (.val (va_rf (some bd)))) (l2 : ls[2]? = some (.val (va_rf (some md)))) (l3 : ls[3]? = some (.val (.int (nI i)))) (S : LWS D kA s bd md hc hm H locs) (h1 : cells + 6 ≤ 600000) (h2 : slots + 4105 ≤ 7302250)
    (kk : ∀ (hc hm : hm_H) (H : Heap) (locs : List Loc), LWS D kA s bd md hc hm H locs → W p l e room_1 s m #[Value.ref b] below meth c H locs (cells + 6) (slots + 4105) Q (F0 m 1202 ls [])) : W p l e room_1 s m #[Value.ref b] below meth c H locs cells slots Q (F0 m 355 ls []) := by
  obtain ⟨hx, hb, -, hml, hown, hts, hX, hbl, -, -⟩ := C0
  obtain ⟨hI, hG, ha, hAG⟩ := S
  have hbA : ¬ (fun q : Nat => s.heap.size ≤ q) b := Nat.not_le.mpr hbl
  have hts1 : ∀ w ∈ wsL_law, w.before #[Value.ref b] s = true := fun w h => hts w (wsL_law_in w h)
  obtain ⟨r, hc1, hm1, e1, e2, A1⟩ := (ag_fill bd md (xs (i + 1)) (xs (i + 2)) (xs (i + 3)) (xs (i + 4)) (xs (i + 5)) (xs (i + 6)) (xs (i + 7))).two hAG
  have hS := hI.2.1
  refine hm_aload_n hx hb dL_law_355 rfl l1 ?_
  refine sc_c (j := 1) hx hb hX hbl hbA hS l0 l3 (by omega) hL dL_law_356 dL_law_357 dL_law_358 rfl dL_law_359 dL_law_360 ?_
  refine sc_c (j := 2) hx hb hX hbl hbA hS l0 l3 (by omega) hL dL_law_361 dL_law_362 dL_law_363 rfl dL_law_364 dL_law_365 ?_
  refine sc_c (j := 3) hx hb hX hbl hbA hS l0 l3 (by omega) hL dL_law_366 dL_law_367 dL_law_368 rfl dL_law_369 dL_law_370 ?_
  refine sc_c (j := 4) hx hb hX hbl hbA hS l0 l3 (by omega) hL dL_law_371 dL_law_372 dL_law_373 rfl dL_law_374 dL_law_375 ?_
  refine sc_c (j := 5) hx hb hX hbl hbA hS l0 l3 (by omega) hL dL_law_376 dL_law_377 dL_law_378 rfl dL_law_379 dL_law_380 ?_
  refine sc_b (j := 6) hx hb hX hbl hbA hS l0 l3 (by omega) hL dL_law_381 dL_law_382 dL_law_383 rfl dL_law_385 dL_law_386 ?_
  refine sc_b (j := 7) hx hb hX hbl hbA hS l0 l3 (by omega) hL dL_law_387 dL_law_388 dL_law_389 rfl dL_law_391 dL_law_392 ?_
  refine hm_cV2 (As := [.int (xs (i + 1)), .int (xs (i + 2)), .int (xs (i + 3)), .int (xs (i + 4)), .int (xs (i + 5)), .int (xs (i + 6)), .int (xs (i + 7))]) (rest := []) ⟨hx, hb, hml, hown, hts1⟩ hK hI hG ha hAG.rc5 rfl rfl (kX5_fill l D kA bd (xs (i + 1)) (xs (i + 2)) (xs (i + 3)) (xs (i + 4)) (xs (i + 5)) (xs (i + 6)) (xs (i + 7)) hc hc1 r e1) (cwV 7 hts1 gL_law_X5_fill rfl rfl rfl (by decide +kernel) ⟨Nat.le_of_ble_eq_true rfl, Nat.le_of_ble_eq_true rfl⟩) rfl hl.1 rfl (Nat.le_of_ble_eq_true rfl) dL_law_393 ⟨show cells + 2 ≤ 600000 by omega, show slots + 8 ≤ 7302250 by omega⟩ (fun H1 locs1 z1 hI1 hG1 a1 => ?_)
  have hJ1 := hI1.other hG1
  have hS := hJ1.2.1
  refine hm_aload_n hx hb dL_law_396 rfl l2 ?_
  refine sc_c (j := 1) hx hb hX hbl hbA hS l0 l3 (by omega) hL dL_law_397 dL_law_398 dL_law_399 rfl dL_law_400 dL_law_401 ?_
  refine sc_c (j := 2) hx hb hX hbl hbA hS l0 l3 (by omega) hL dL_law_402 dL_law_403 dL_law_404 rfl dL_law_405 dL_law_406 ?_
  refine sc_c (j := 3) hx hb hX hbl hbA hS l0 l3 (by omega) hL dL_law_407 dL_law_408 dL_law_409 rfl dL_law_410 dL_law_411 ?_
  refine sc_c (j := 4) hx hb hX hbl hbA hS l0 l3 (by omega) hL dL_law_412 dL_law_413 dL_law_414 rfl dL_law_415 dL_law_416 ?_
  refine sc_c (j := 5) hx hb hX hbl hbA hS l0 l3 (by omega) hL dL_law_417 dL_law_418 dL_law_419 rfl dL_law_420 dL_law_421 ?_
  refine sc_b (j := 6) hx hb hX hbl hbA hS l0 l3 (by omega) hL dL_law_422 dL_law_423 dL_law_424 rfl dL_law_426 dL_law_427 ?_
  refine sc_b (j := 7) hx hb hX hbl hbA hS l0 l3 (by omega) hL dL_law_428 dL_law_429 dL_law_430 rfl dL_law_432 dL_law_433 ?_
  refine hm_cV2 (As := [.int (xs (i + 1)), .int (xs (i + 2)), .int (xs (i + 3)), .int (xs (i + 4)), .int (xs (i + 5)), .int (xs (i + 6)), .int (xs (i + 7))]) (rest := [.int r]) ⟨hx, hb, hml, hown, hts1⟩ hK hJ1 hI1.1 a1.sym (hAG.rc6 _) rfl rfl (kX6_fill l D kA md (xs (i + 1)) (xs (i + 2)) (xs (i + 3)) (xs (i + 4)) (xs (i + 5)) (xs (i + 6)) (xs (i + 7)) (hm.1, hc1.2) hm1 r e2) (cwV 7 hts1 gL_law_X6_fill rfl rfl rfl (by decide +kernel) ⟨Nat.le_of_ble_eq_true rfl, Nat.le_of_ble_eq_true rfl⟩) rfl hl.1 rfl (Nat.le_of_ble_eq_true rfl) dL_law_434 ⟨show cells + 2 + 0 ≤ 600000 by omega, show slots + 8 + 0 ≤ 7302250 by omega⟩ (fun H2 locs2 z2 hI2 hG2 a2 => ?_)
  refine lv_icmp_eq (tgt := 1202) hx hb dL_law_437 (by decide) (fun _ => ?_) (fun z => absurd rfl z)
  exact W.widen (show cells + 2 + 0 ≤ cells + 6 by omega) (show slots + 8 + 0 ≤ slots + 4105 by omega) (kk (hc1.1, hm1.2) hm1 H2 locs2 ⟨hI2.other hG2, hI2.1, a2.sym, A1.grow z2 hm1.2⟩)
theorem law_copy {p : Program} {l : Launch} {e : Env} {s : State} {m : MethodId} {below : List Frame} {meth : Method} {c : Code} {H : Heap} {locs : List Loc} {cells slots : Nat} {Q : State → Prop} {ls : Array Slot} {D : va_G} {kA : Nat → ClassId} {b L i bd md : Nat} {xs : Nat → Int32} {hc hm : hm_H} {lv : List (Nat × Value)} (C0 : lw_At p s m meth c b L xs) (hK : va_K D vwCl (hm_ty kA) s) (hi : i + 11 ≤ L) (hL : L ≤ 5632) (hl : lv_has ls 4 lv) (l0 : ls[0]? = some (.val (.ref b))) (l1 : ls[1]? = some (.val (va_rf (some bd)))) (l2 : ls[2]? = some (.val (va_rf (some md)))) (l3 : ls[3]? = some (.val (.int (nI i)))) (S : LWS D kA s bd md hc hm H locs) (h1 : cells + 6 ≤ 600000) (h2 : slots + 4105 ≤ 7302250)
    (kk : ∀ (hc hm : hm_H) (H : Heap) (locs : List Loc), LWS D kA s bd md hc hm H locs → W p l e room_1 s m #[Value.ref b] below meth c H locs (cells + 6) (slots + 4105) Q (F0 m 1202 ls [])) : W p l e room_1 s m #[Value.ref b] below meth c H locs cells slots Q (F0 m 442 ls []) := by
  obtain ⟨hx, hb, -, hml, hown, hts, hX, hbl, -, -⟩ := C0
  obtain ⟨hI, hG, ha, hAG⟩ := S
  have hbA : ¬ (fun q : Nat => s.heap.size ≤ q) b := Nat.not_le.mpr hbl
  have hts1 : ∀ w ∈ wsL_law, w.before #[Value.ref b] s = true := fun w h => hts w (wsL_law_in w h)
  obtain ⟨r, hc1, hm1, e1, e2, A1⟩ := (ag_copy bd md (xs (i + 1)) (xs (i + 2)) (xs (i + 3)) (xs (i + 4)) (xs (i + 5)) (xs (i + 6)) (xs (i + 7)) (xs (i + 8)) (xs (i + 9))).two hAG
  have hS := hI.2.1
  refine hm_aload_n hx hb dL_law_442 rfl l1 ?_
  refine sc_c (j := 1) hx hb hX hbl hbA hS l0 l3 (by omega) hL dL_law_443 dL_law_444 dL_law_445 rfl dL_law_446 dL_law_447 ?_
  refine sc_c (j := 2) hx hb hX hbl hbA hS l0 l3 (by omega) hL dL_law_448 dL_law_449 dL_law_450 rfl dL_law_451 dL_law_452 ?_
  refine sc_c (j := 3) hx hb hX hbl hbA hS l0 l3 (by omega) hL dL_law_453 dL_law_454 dL_law_455 rfl dL_law_456 dL_law_457 ?_
  refine sc_c (j := 4) hx hb hX hbl hbA hS l0 l3 (by omega) hL dL_law_458 dL_law_459 dL_law_460 rfl dL_law_461 dL_law_462 ?_
  refine sc_c (j := 5) hx hb hX hbl hbA hS l0 l3 (by omega) hL dL_law_463 dL_law_464 dL_law_465 rfl dL_law_466 dL_law_467 ?_
  refine sc_b (j := 6) hx hb hX hbl hbA hS l0 l3 (by omega) hL dL_law_468 dL_law_469 dL_law_470 rfl dL_law_472 dL_law_473 ?_
  refine sc_b (j := 7) hx hb hX hbl hbA hS l0 l3 (by omega) hL dL_law_474 dL_law_475 dL_law_476 rfl dL_law_478 dL_law_479 ?_
  refine sc_b (j := 8) hx hb hX hbl hbA hS l0 l3 (by omega) hL dL_law_480 dL_law_481 dL_law_482 rfl dL_law_484 dL_law_485 ?_
  refine sc_b (j := 9) hx hb hX hbl hbA hS l0 l3 (by omega) hL dL_law_486 dL_law_487 dL_law_488 rfl dL_law_490 dL_law_491 ?_
  refine hm_cV2 (As := [.int (xs (i + 1)), .int (xs (i + 2)), .int (xs (i + 3)), .int (xs (i + 4)), .int (xs (i + 5)), .int (xs (i + 6)), .int (xs (i + 7)), .int (xs (i + 8)), .int (xs (i + 9))]) (rest := []) ⟨hx, hb, hml, hown, hts1⟩ hK hI hG ha hAG.rc5 rfl rfl (kX5_copy l D kA bd (xs (i + 1)) (xs (i + 2)) (xs (i + 3)) (xs (i + 4)) (xs (i + 5)) (xs (i + 6)) (xs (i + 7)) (xs (i + 8)) (xs (i + 9)) hc hc1 r e1) (cwV 9 hts1 gL_law_X5_copy rfl rfl rfl (by decide +kernel) ⟨Nat.le_of_ble_eq_true rfl, Nat.le_of_ble_eq_true rfl⟩) rfl hl.1 rfl (Nat.le_of_ble_eq_true rfl) dL_law_492 ⟨show cells + 6 ≤ 600000 by omega, show slots + 24 ≤ 7302250 by omega⟩ (fun H1 locs1 z1 hI1 hG1 a1 => ?_)
  have hJ1 := hI1.other hG1
  have hS := hJ1.2.1
  refine hm_aload_n hx hb dL_law_495 rfl l2 ?_
  refine sc_c (j := 1) hx hb hX hbl hbA hS l0 l3 (by omega) hL dL_law_496 dL_law_497 dL_law_498 rfl dL_law_499 dL_law_500 ?_
  refine sc_c (j := 2) hx hb hX hbl hbA hS l0 l3 (by omega) hL dL_law_501 dL_law_502 dL_law_503 rfl dL_law_504 dL_law_505 ?_
  refine sc_c (j := 3) hx hb hX hbl hbA hS l0 l3 (by omega) hL dL_law_506 dL_law_507 dL_law_508 rfl dL_law_509 dL_law_510 ?_
  refine sc_c (j := 4) hx hb hX hbl hbA hS l0 l3 (by omega) hL dL_law_511 dL_law_512 dL_law_513 rfl dL_law_514 dL_law_515 ?_
  refine sc_c (j := 5) hx hb hX hbl hbA hS l0 l3 (by omega) hL dL_law_516 dL_law_517 dL_law_518 rfl dL_law_519 dL_law_520 ?_
  refine sc_b (j := 6) hx hb hX hbl hbA hS l0 l3 (by omega) hL dL_law_521 dL_law_522 dL_law_523 rfl dL_law_525 dL_law_526 ?_
  refine sc_b (j := 7) hx hb hX hbl hbA hS l0 l3 (by omega) hL dL_law_527 dL_law_528 dL_law_529 rfl dL_law_531 dL_law_532 ?_
  refine sc_b (j := 8) hx hb hX hbl hbA hS l0 l3 (by omega) hL dL_law_533 dL_law_534 dL_law_535 rfl dL_law_537 dL_law_538 ?_
  refine sc_b (j := 9) hx hb hX hbl hbA hS l0 l3 (by omega) hL dL_law_539 dL_law_540 dL_law_541 rfl dL_law_543 dL_law_544 ?_
  refine hm_cV2 (As := [.int (xs (i + 1)), .int (xs (i + 2)), .int (xs (i + 3)), .int (xs (i + 4)), .int (xs (i + 5)), .int (xs (i + 6)), .int (xs (i + 7)), .int (xs (i + 8)), .int (xs (i + 9))]) (rest := [.int r]) ⟨hx, hb, hml, hown, hts1⟩ hK hJ1 hI1.1 a1.sym (hAG.rc6 _) rfl rfl (kX6_copy l D kA md (xs (i + 1)) (xs (i + 2)) (xs (i + 3)) (xs (i + 4)) (xs (i + 5)) (xs (i + 6)) (xs (i + 7)) (xs (i + 8)) (xs (i + 9)) (hm.1, hc1.2) hm1 r e2) (cwV 9 hts1 gL_law_X6_copy rfl rfl rfl (by decide +kernel) ⟨Nat.le_of_ble_eq_true rfl, Nat.le_of_ble_eq_true rfl⟩) rfl hl.1 rfl (Nat.le_of_ble_eq_true rfl) dL_law_545 ⟨show cells + 6 + 0 ≤ 600000 by omega, show slots + 24 + 0 ≤ 7302250 by omega⟩ (fun H2 locs2 z2 hI2 hG2 a2 => ?_)
  refine lv_icmp_eq (tgt := 1202) hx hb dL_law_548 (by decide) (fun _ => ?_) (fun z => absurd rfl z)
  exact W.widen (show cells + 6 + 0 ≤ cells + 6 by omega) (show slots + 24 + 0 ≤ slots + 4105 by omega) (kk (hc1.1, hm1.2) hm1 H2 locs2 ⟨hI2.other hG2, hI2.1, a2.sym, A1.grow z2 hm1.2⟩)
theorem law_keyed {p : Program} {l : Launch} {e : Env} {s : State} {m : MethodId} {below : List Frame} {meth : Method} {c : Code} {H : Heap} {locs : List Loc} {cells slots : Nat} {Q : State → Prop} {ls : Array Slot} {D : va_G} {kA : Nat → ClassId} {b L i bd md : Nat} {xs : Nat → Int32} {hc hm : hm_H} {lv : List (Nat × Value)} (C0 : lw_At p s m meth c b L xs) (hK : va_K D vwCl (hm_ty kA) s) (hi : i + 11 ≤ L) (hL : L ≤ 5632) (hl : lv_has ls 4 lv) (l0 : ls[0]? = some (.val (.ref b))) (l1 : ls[1]? = some (.val (va_rf (some bd)))) (l2 : ls[2]? = some (.val (va_rf (some md)))) (l3 : ls[3]? = some (.val (.int (nI i)))) (S : LWS D kA s bd md hc hm H locs) (h1 : cells + 6 ≤ 600000) (h2 : slots + 4105 ≤ 7302250)
    (kk : ∀ (hc hm : hm_H) (H : Heap) (locs : List Loc), LWS D kA s bd md hc hm H locs → W p l e room_1 s m #[Value.ref b] below meth c H locs (cells + 6) (slots + 4105) Q (F0 m 1202 ls [])) : W p l e room_1 s m #[Value.ref b] below meth c H locs cells slots Q (F0 m 553 ls []) := by
  obtain ⟨hx, hb, -, hml, hown, hts, hX, hbl, -, -⟩ := C0
  obtain ⟨hI, hG, ha, hAG⟩ := S
  have hbA : ¬ (fun q : Nat => s.heap.size ≤ q) b := Nat.not_le.mpr hbl
  have hts1 : ∀ w ∈ wsL_law, w.before #[Value.ref b] s = true := fun w h => hts w (wsL_law_in w h)
  obtain ⟨r, hc1, hm1, e1, e2, A1⟩ := (ag_keyed bd md (xs (i + 1)) (xs (i + 2)) (xs (i + 3)) (xs (i + 4)) (xs (i + 5)) (xs (i + 6)) (xs (i + 7)) (xs (i + 8)) (xs (i + 9))).two hAG
  have hS := hI.2.1
  refine hm_aload_n hx hb dL_law_553 rfl l1 ?_
  refine sc_c (j := 1) hx hb hX hbl hbA hS l0 l3 (by omega) hL dL_law_554 dL_law_555 dL_law_556 rfl dL_law_557 dL_law_558 ?_
  refine sc_c (j := 2) hx hb hX hbl hbA hS l0 l3 (by omega) hL dL_law_559 dL_law_560 dL_law_561 rfl dL_law_562 dL_law_563 ?_
  refine sc_c (j := 3) hx hb hX hbl hbA hS l0 l3 (by omega) hL dL_law_564 dL_law_565 dL_law_566 rfl dL_law_567 dL_law_568 ?_
  refine sc_c (j := 4) hx hb hX hbl hbA hS l0 l3 (by omega) hL dL_law_569 dL_law_570 dL_law_571 rfl dL_law_572 dL_law_573 ?_
  refine sc_c (j := 5) hx hb hX hbl hbA hS l0 l3 (by omega) hL dL_law_574 dL_law_575 dL_law_576 rfl dL_law_577 dL_law_578 ?_
  refine sc_b (j := 6) hx hb hX hbl hbA hS l0 l3 (by omega) hL dL_law_579 dL_law_580 dL_law_581 rfl dL_law_583 dL_law_584 ?_
  refine sc_b (j := 7) hx hb hX hbl hbA hS l0 l3 (by omega) hL dL_law_585 dL_law_586 dL_law_587 rfl dL_law_589 dL_law_590 ?_
  refine sc_b (j := 8) hx hb hX hbl hbA hS l0 l3 (by omega) hL dL_law_591 dL_law_592 dL_law_593 rfl dL_law_595 dL_law_596 ?_
  refine sc_b (j := 9) hx hb hX hbl hbA hS l0 l3 (by omega) hL dL_law_597 dL_law_598 dL_law_599 rfl dL_law_601 dL_law_602 ?_
  refine hm_cV2 (As := [.int (xs (i + 1)), .int (xs (i + 2)), .int (xs (i + 3)), .int (xs (i + 4)), .int (xs (i + 5)), .int (xs (i + 6)), .int (xs (i + 7)), .int (xs (i + 8)), .int (xs (i + 9))]) (rest := []) ⟨hx, hb, hml, hown, hts1⟩ hK hI hG ha hAG.rc5 rfl rfl (kX5_keyed l D kA bd (xs (i + 1)) (xs (i + 2)) (xs (i + 3)) (xs (i + 4)) (xs (i + 5)) (xs (i + 6)) (xs (i + 7)) (xs (i + 8)) (xs (i + 9)) hc hc1 r e1) (cwV 9 hts1 gL_law_X5_keyed rfl rfl rfl (by decide +kernel) ⟨Nat.le_of_ble_eq_true rfl, Nat.le_of_ble_eq_true rfl⟩) rfl hl.1 rfl (Nat.le_of_ble_eq_true rfl) dL_law_603 ⟨show cells + 6 ≤ 600000 by omega, show slots + 24 ≤ 7302250 by omega⟩ (fun H1 locs1 z1 hI1 hG1 a1 => ?_)
  have hJ1 := hI1.other hG1
  have hS := hJ1.2.1
  refine hm_aload_n hx hb dL_law_606 rfl l2 ?_
  refine sc_c (j := 1) hx hb hX hbl hbA hS l0 l3 (by omega) hL dL_law_607 dL_law_608 dL_law_609 rfl dL_law_610 dL_law_611 ?_
  refine sc_c (j := 2) hx hb hX hbl hbA hS l0 l3 (by omega) hL dL_law_612 dL_law_613 dL_law_614 rfl dL_law_615 dL_law_616 ?_
  refine sc_c (j := 3) hx hb hX hbl hbA hS l0 l3 (by omega) hL dL_law_617 dL_law_618 dL_law_619 rfl dL_law_620 dL_law_621 ?_
  refine sc_c (j := 4) hx hb hX hbl hbA hS l0 l3 (by omega) hL dL_law_622 dL_law_623 dL_law_624 rfl dL_law_625 dL_law_626 ?_
  refine sc_c (j := 5) hx hb hX hbl hbA hS l0 l3 (by omega) hL dL_law_627 dL_law_628 dL_law_629 rfl dL_law_630 dL_law_631 ?_
  refine sc_b (j := 6) hx hb hX hbl hbA hS l0 l3 (by omega) hL dL_law_632 dL_law_633 dL_law_634 rfl dL_law_636 dL_law_637 ?_
  refine sc_b (j := 7) hx hb hX hbl hbA hS l0 l3 (by omega) hL dL_law_638 dL_law_639 dL_law_640 rfl dL_law_642 dL_law_643 ?_
  refine sc_b (j := 8) hx hb hX hbl hbA hS l0 l3 (by omega) hL dL_law_644 dL_law_645 dL_law_646 rfl dL_law_648 dL_law_649 ?_
  refine sc_b (j := 9) hx hb hX hbl hbA hS l0 l3 (by omega) hL dL_law_650 dL_law_651 dL_law_652 rfl dL_law_654 dL_law_655 ?_
  refine hm_cV2 (As := [.int (xs (i + 1)), .int (xs (i + 2)), .int (xs (i + 3)), .int (xs (i + 4)), .int (xs (i + 5)), .int (xs (i + 6)), .int (xs (i + 7)), .int (xs (i + 8)), .int (xs (i + 9))]) (rest := [.int r]) ⟨hx, hb, hml, hown, hts1⟩ hK hJ1 hI1.1 a1.sym (hAG.rc6 _) rfl rfl (kX6_keyed l D kA md (xs (i + 1)) (xs (i + 2)) (xs (i + 3)) (xs (i + 4)) (xs (i + 5)) (xs (i + 6)) (xs (i + 7)) (xs (i + 8)) (xs (i + 9)) (hm.1, hc1.2) hm1 r e2) (cwV 9 hts1 gL_law_X6_keyed rfl rfl rfl (by decide +kernel) ⟨Nat.le_of_ble_eq_true rfl, Nat.le_of_ble_eq_true rfl⟩) rfl hl.1 rfl (Nat.le_of_ble_eq_true rfl) dL_law_656 ⟨show cells + 6 + 0 ≤ 600000 by omega, show slots + 24 + 0 ≤ 7302250 by omega⟩ (fun H2 locs2 z2 hI2 hG2 a2 => ?_)
  refine lv_icmp_eq (tgt := 1202) hx hb dL_law_659 (by decide) (fun _ => ?_) (fun z => absurd rfl z)
  exact W.widen (show cells + 6 + 0 ≤ cells + 6 by omega) (show slots + 24 + 0 ≤ slots + 4105 by omega) (kk (hc1.1, hm1.2) hm1 H2 locs2 ⟨hI2.other hG2, hI2.1, a2.sym, A1.grow z2 hm1.2⟩)
theorem law_masked {p : Program} {l : Launch} {e : Env} {s : State} {m : MethodId} {below : List Frame} {meth : Method} {c : Code} {H : Heap} {locs : List Loc} {cells slots : Nat} {Q : State → Prop} {ls : Array Slot} {D : va_G} {kA : Nat → ClassId} {b L i bd md : Nat} {xs : Nat → Int32} {hc hm : hm_H} {lv : List (Nat × Value)} (C0 : lw_At p s m meth c b L xs) (hK : va_K D vwCl (hm_ty kA) s) (hi : i + 11 ≤ L) (hL : L ≤ 5632) (hl : lv_has ls 4 lv) (l0 : ls[0]? = some (.val (.ref b))) (l1 : ls[1]? = some (.val (va_rf (some bd)))) (l2 : ls[2]? = some (.val (va_rf (some md)))) (l3 : ls[3]? = some (.val (.int (nI i)))) (S : LWS D kA s bd md hc hm H locs) (h1 : cells + 6 ≤ 600000) (h2 : slots + 4105 ≤ 7302250)
    (kk : ∀ (hc hm : hm_H) (H : Heap) (locs : List Loc), LWS D kA s bd md hc hm H locs → W p l e room_1 s m #[Value.ref b] below meth c H locs (cells + 6) (slots + 4105) Q (F0 m 1202 ls [])) : W p l e room_1 s m #[Value.ref b] below meth c H locs cells slots Q (F0 m 664 ls []) := by
  obtain ⟨hx, hb, -, hml, hown, hts, hX, hbl, -, -⟩ := C0
  obtain ⟨hI, hG, ha, hAG⟩ := S
  have hbA : ¬ (fun q : Nat => s.heap.size ≤ q) b := Nat.not_le.mpr hbl
  have hts1 : ∀ w ∈ wsL_law, w.before #[Value.ref b] s = true := fun w h => hts w (wsL_law_in w h)
  obtain ⟨r, hc1, hm1, e1, e2, A1⟩ := (ag_masked bd md (xs (i + 1)) (xs (i + 2)) (xs (i + 3)) (xs (i + 4)) (xs (i + 5)) (xs (i + 6)) (xs (i + 7)) (xs (i + 8)) (xs (i + 9))).two hAG
  have hS := hI.2.1
  refine hm_aload_n hx hb dL_law_664 rfl l1 ?_
  refine sc_c (j := 1) hx hb hX hbl hbA hS l0 l3 (by omega) hL dL_law_665 dL_law_666 dL_law_667 rfl dL_law_668 dL_law_669 ?_
  refine sc_c (j := 2) hx hb hX hbl hbA hS l0 l3 (by omega) hL dL_law_670 dL_law_671 dL_law_672 rfl dL_law_673 dL_law_674 ?_
  refine sc_c (j := 3) hx hb hX hbl hbA hS l0 l3 (by omega) hL dL_law_675 dL_law_676 dL_law_677 rfl dL_law_678 dL_law_679 ?_
  refine sc_c (j := 4) hx hb hX hbl hbA hS l0 l3 (by omega) hL dL_law_680 dL_law_681 dL_law_682 rfl dL_law_683 dL_law_684 ?_
  refine sc_c (j := 5) hx hb hX hbl hbA hS l0 l3 (by omega) hL dL_law_685 dL_law_686 dL_law_687 rfl dL_law_688 dL_law_689 ?_
  refine sc_b (j := 6) hx hb hX hbl hbA hS l0 l3 (by omega) hL dL_law_690 dL_law_691 dL_law_692 rfl dL_law_694 dL_law_695 ?_
  refine sc_b (j := 7) hx hb hX hbl hbA hS l0 l3 (by omega) hL dL_law_696 dL_law_697 dL_law_698 rfl dL_law_700 dL_law_701 ?_
  refine sc_b (j := 8) hx hb hX hbl hbA hS l0 l3 (by omega) hL dL_law_702 dL_law_703 dL_law_704 rfl dL_law_706 dL_law_707 ?_
  refine sc_b (j := 9) hx hb hX hbl hbA hS l0 l3 (by omega) hL dL_law_708 dL_law_709 dL_law_710 rfl dL_law_712 dL_law_713 ?_
  refine hm_cV2 (As := [.int (xs (i + 1)), .int (xs (i + 2)), .int (xs (i + 3)), .int (xs (i + 4)), .int (xs (i + 5)), .int (xs (i + 6)), .int (xs (i + 7)), .int (xs (i + 8)), .int (xs (i + 9))]) (rest := []) ⟨hx, hb, hml, hown, hts1⟩ hK hI hG ha hAG.rc5 rfl rfl (kX5_masked l D kA bd (xs (i + 1)) (xs (i + 2)) (xs (i + 3)) (xs (i + 4)) (xs (i + 5)) (xs (i + 6)) (xs (i + 7)) (xs (i + 8)) (xs (i + 9)) hc hc1 r e1) (cwV 9 hts1 gL_law_X5_masked rfl rfl rfl (by decide +kernel) ⟨Nat.le_of_ble_eq_true rfl, Nat.le_of_ble_eq_true rfl⟩) rfl hl.1 rfl (Nat.le_of_ble_eq_true rfl) dL_law_714 ⟨show cells + 6 ≤ 600000 by omega, show slots + 24 ≤ 7302250 by omega⟩ (fun H1 locs1 z1 hI1 hG1 a1 => ?_)
  have hJ1 := hI1.other hG1
  have hS := hJ1.2.1
  refine hm_aload_n hx hb dL_law_717 rfl l2 ?_
  refine sc_c (j := 1) hx hb hX hbl hbA hS l0 l3 (by omega) hL dL_law_718 dL_law_719 dL_law_720 rfl dL_law_721 dL_law_722 ?_
  refine sc_c (j := 2) hx hb hX hbl hbA hS l0 l3 (by omega) hL dL_law_723 dL_law_724 dL_law_725 rfl dL_law_726 dL_law_727 ?_
  refine sc_c (j := 3) hx hb hX hbl hbA hS l0 l3 (by omega) hL dL_law_728 dL_law_729 dL_law_730 rfl dL_law_731 dL_law_732 ?_
  refine sc_c (j := 4) hx hb hX hbl hbA hS l0 l3 (by omega) hL dL_law_733 dL_law_734 dL_law_735 rfl dL_law_736 dL_law_737 ?_
  refine sc_c (j := 5) hx hb hX hbl hbA hS l0 l3 (by omega) hL dL_law_738 dL_law_739 dL_law_740 rfl dL_law_741 dL_law_742 ?_
  refine sc_b (j := 6) hx hb hX hbl hbA hS l0 l3 (by omega) hL dL_law_743 dL_law_744 dL_law_745 rfl dL_law_747 dL_law_748 ?_
  refine sc_b (j := 7) hx hb hX hbl hbA hS l0 l3 (by omega) hL dL_law_749 dL_law_750 dL_law_751 rfl dL_law_753 dL_law_754 ?_
  refine sc_b (j := 8) hx hb hX hbl hbA hS l0 l3 (by omega) hL dL_law_755 dL_law_756 dL_law_757 rfl dL_law_759 dL_law_760 ?_
  refine sc_b (j := 9) hx hb hX hbl hbA hS l0 l3 (by omega) hL dL_law_761 dL_law_762 dL_law_763 rfl dL_law_765 dL_law_766 ?_
  refine hm_cV2 (As := [.int (xs (i + 1)), .int (xs (i + 2)), .int (xs (i + 3)), .int (xs (i + 4)), .int (xs (i + 5)), .int (xs (i + 6)), .int (xs (i + 7)), .int (xs (i + 8)), .int (xs (i + 9))]) (rest := [.int r]) ⟨hx, hb, hml, hown, hts1⟩ hK hJ1 hI1.1 a1.sym (hAG.rc6 _) rfl rfl (kX6_masked l D kA md (xs (i + 1)) (xs (i + 2)) (xs (i + 3)) (xs (i + 4)) (xs (i + 5)) (xs (i + 6)) (xs (i + 7)) (xs (i + 8)) (xs (i + 9)) (hm.1, hc1.2) hm1 r e2) (cwV 9 hts1 gL_law_X6_masked rfl rfl rfl (by decide +kernel) ⟨Nat.le_of_ble_eq_true rfl, Nat.le_of_ble_eq_true rfl⟩) rfl hl.1 rfl (Nat.le_of_ble_eq_true rfl) dL_law_767 ⟨show cells + 6 + 0 ≤ 600000 by omega, show slots + 24 + 0 ≤ 7302250 by omega⟩ (fun H2 locs2 z2 hI2 hG2 a2 => ?_)
  refine lv_icmp_eq (tgt := 1202) hx hb dL_law_770 (by decide) (fun _ => ?_) (fun z => absurd rfl z)
  exact W.widen (show cells + 6 + 0 ≤ cells + 6 by omega) (show slots + 24 + 0 ≤ slots + 4105 by omega) (kk (hc1.1, hm1.2) hm1 H2 locs2 ⟨hI2.other hG2, hI2.1, a2.sym, A1.grow z2 hm1.2⟩)
theorem law_spread {p : Program} {l : Launch} {e : Env} {s : State} {m : MethodId} {below : List Frame} {meth : Method} {c : Code} {H : Heap} {locs : List Loc} {cells slots : Nat} {Q : State → Prop} {ls : Array Slot} {D : va_G} {kA : Nat → ClassId} {b L i bd md : Nat} {xs : Nat → Int32} {hc hm : hm_H} {lv : List (Nat × Value)} (C0 : lw_At p s m meth c b L xs) (hK : va_K D vwCl (hm_ty kA) s) (hi : i + 11 ≤ L) (hL : L ≤ 5632) (hl : lv_has ls 4 lv) (l0 : ls[0]? = some (.val (.ref b))) (l1 : ls[1]? = some (.val (va_rf (some bd)))) (l2 : ls[2]? = some (.val (va_rf (some md)))) (l3 : ls[3]? = some (.val (.int (nI i)))) (S : LWS D kA s bd md hc hm H locs) (h1 : cells + 6 ≤ 600000) (h2 : slots + 4105 ≤ 7302250)
    (kk : ∀ (hc hm : hm_H) (H : Heap) (locs : List Loc), LWS D kA s bd md hc hm H locs → W p l e room_1 s m #[Value.ref b] below meth c H locs (cells + 6) (slots + 4105) Q (F0 m 1202 ls [])) : W p l e room_1 s m #[Value.ref b] below meth c H locs cells slots Q (F0 m 775 ls []) := by
  obtain ⟨hx, hb, -, hml, hown, hts, hX, hbl, -, -⟩ := C0
  obtain ⟨hI, hG, ha, hAG⟩ := S
  have hbA : ¬ (fun q : Nat => s.heap.size ≤ q) b := Nat.not_le.mpr hbl
  have hts1 : ∀ w ∈ wsL_law, w.before #[Value.ref b] s = true := fun w h => hts w (wsL_law_in w h)
  obtain ⟨r, hc1, hm1, e1, e2, A1⟩ := (ag_spread bd md (xs (i + 1)) (xs (i + 2)) (xs (i + 3)) (xs (i + 4)) (xs (i + 5)) (xs (i + 6)) (xs (i + 7)) (xs (i + 8)) (xs (i + 9)) (xs (i + 10))).two hAG
  have hS := hI.2.1
  refine hm_aload_n hx hb dL_law_775 rfl l1 ?_
  refine sc_c (j := 1) hx hb hX hbl hbA hS l0 l3 (by omega) hL dL_law_776 dL_law_777 dL_law_778 rfl dL_law_779 dL_law_780 ?_
  refine sc_c (j := 2) hx hb hX hbl hbA hS l0 l3 (by omega) hL dL_law_781 dL_law_782 dL_law_783 rfl dL_law_784 dL_law_785 ?_
  refine sc_c (j := 3) hx hb hX hbl hbA hS l0 l3 (by omega) hL dL_law_786 dL_law_787 dL_law_788 rfl dL_law_789 dL_law_790 ?_
  refine sc_c (j := 4) hx hb hX hbl hbA hS l0 l3 (by omega) hL dL_law_791 dL_law_792 dL_law_793 rfl dL_law_794 dL_law_795 ?_
  refine sc_c (j := 5) hx hb hX hbl hbA hS l0 l3 (by omega) hL dL_law_796 dL_law_797 dL_law_798 rfl dL_law_799 dL_law_800 ?_
  refine sc_b (j := 6) hx hb hX hbl hbA hS l0 l3 (by omega) hL dL_law_801 dL_law_802 dL_law_803 rfl dL_law_805 dL_law_806 ?_
  refine sc_b (j := 7) hx hb hX hbl hbA hS l0 l3 (by omega) hL dL_law_807 dL_law_808 dL_law_809 rfl dL_law_811 dL_law_812 ?_
  refine sc_b (j := 8) hx hb hX hbl hbA hS l0 l3 (by omega) hL dL_law_813 dL_law_814 dL_law_815 rfl dL_law_817 dL_law_818 ?_
  refine sc_b (j := 9) hx hb hX hbl hbA hS l0 l3 (by omega) hL dL_law_819 dL_law_820 dL_law_821 rfl dL_law_823 dL_law_824 ?_
  refine sc_b (j := 10) hx hb hX hbl hbA hS l0 l3 (by omega) hL dL_law_825 dL_law_826 dL_law_827 rfl dL_law_829 dL_law_830 ?_
  refine hm_cV2 (As := [.int (xs (i + 1)), .int (xs (i + 2)), .int (xs (i + 3)), .int (xs (i + 4)), .int (xs (i + 5)), .int (xs (i + 6)), .int (xs (i + 7)), .int (xs (i + 8)), .int (xs (i + 9)), .int (xs (i + 10))]) (rest := []) ⟨hx, hb, hml, hown, hts1⟩ hK hI hG ha hAG.rc5 rfl rfl (kX5_spread l D kA bd (xs (i + 1)) (xs (i + 2)) (xs (i + 3)) (xs (i + 4)) (xs (i + 5)) (xs (i + 6)) (xs (i + 7)) (xs (i + 8)) (xs (i + 9)) (xs (i + 10)) hc hc1 r e1) (cwV 10 hts1 gL_law_X5_spread rfl rfl rfl (by decide +kernel) ⟨Nat.le_of_ble_eq_true rfl, Nat.le_of_ble_eq_true rfl⟩) rfl hl.1 rfl (Nat.le_of_ble_eq_true rfl) dL_law_831 ⟨show cells + 6 ≤ 600000 by omega, show slots + 24 ≤ 7302250 by omega⟩ (fun H1 locs1 z1 hI1 hG1 a1 => ?_)
  have hJ1 := hI1.other hG1
  have hS := hJ1.2.1
  refine hm_aload_n hx hb dL_law_834 rfl l2 ?_
  refine sc_c (j := 1) hx hb hX hbl hbA hS l0 l3 (by omega) hL dL_law_835 dL_law_836 dL_law_837 rfl dL_law_838 dL_law_839 ?_
  refine sc_c (j := 2) hx hb hX hbl hbA hS l0 l3 (by omega) hL dL_law_840 dL_law_841 dL_law_842 rfl dL_law_843 dL_law_844 ?_
  refine sc_c (j := 3) hx hb hX hbl hbA hS l0 l3 (by omega) hL dL_law_845 dL_law_846 dL_law_847 rfl dL_law_848 dL_law_849 ?_
  refine sc_c (j := 4) hx hb hX hbl hbA hS l0 l3 (by omega) hL dL_law_850 dL_law_851 dL_law_852 rfl dL_law_853 dL_law_854 ?_
  refine sc_c (j := 5) hx hb hX hbl hbA hS l0 l3 (by omega) hL dL_law_855 dL_law_856 dL_law_857 rfl dL_law_858 dL_law_859 ?_
  refine sc_b (j := 6) hx hb hX hbl hbA hS l0 l3 (by omega) hL dL_law_860 dL_law_861 dL_law_862 rfl dL_law_864 dL_law_865 ?_
  refine sc_b (j := 7) hx hb hX hbl hbA hS l0 l3 (by omega) hL dL_law_866 dL_law_867 dL_law_868 rfl dL_law_870 dL_law_871 ?_
  refine sc_b (j := 8) hx hb hX hbl hbA hS l0 l3 (by omega) hL dL_law_872 dL_law_873 dL_law_874 rfl dL_law_876 dL_law_877 ?_
  refine sc_b (j := 9) hx hb hX hbl hbA hS l0 l3 (by omega) hL dL_law_878 dL_law_879 dL_law_880 rfl dL_law_882 dL_law_883 ?_
  refine sc_b (j := 10) hx hb hX hbl hbA hS l0 l3 (by omega) hL dL_law_884 dL_law_885 dL_law_886 rfl dL_law_888 dL_law_889 ?_
  refine hm_cV2 (As := [.int (xs (i + 1)), .int (xs (i + 2)), .int (xs (i + 3)), .int (xs (i + 4)), .int (xs (i + 5)), .int (xs (i + 6)), .int (xs (i + 7)), .int (xs (i + 8)), .int (xs (i + 9)), .int (xs (i + 10))]) (rest := [.int r]) ⟨hx, hb, hml, hown, hts1⟩ hK hJ1 hI1.1 a1.sym (hAG.rc6 _) rfl rfl (kX6_spread l D kA md (xs (i + 1)) (xs (i + 2)) (xs (i + 3)) (xs (i + 4)) (xs (i + 5)) (xs (i + 6)) (xs (i + 7)) (xs (i + 8)) (xs (i + 9)) (xs (i + 10)) (hm.1, hc1.2) hm1 r e2) (cwV 10 hts1 gL_law_X6_spread rfl rfl rfl (by decide +kernel) ⟨Nat.le_of_ble_eq_true rfl, Nat.le_of_ble_eq_true rfl⟩) rfl hl.1 rfl (Nat.le_of_ble_eq_true rfl) dL_law_890 ⟨show cells + 6 + 0 ≤ 600000 by omega, show slots + 24 + 0 ≤ 7302250 by omega⟩ (fun H2 locs2 z2 hI2 hG2 a2 => ?_)
  refine lv_icmp_eq (tgt := 1202) hx hb dL_law_893 (by decide) (fun _ => ?_) (fun z => absurd rfl z)
  exact W.widen (show cells + 6 + 0 ≤ cells + 6 by omega) (show slots + 24 + 0 ≤ slots + 4105 by omega) (kk (hc1.1, hm1.2) hm1 H2 locs2 ⟨hI2.other hG2, hI2.1, a2.sym, A1.grow z2 hm1.2⟩)
theorem law_turn {p : Program} {l : Launch} {e : Env} {s : State} {m : MethodId} {below : List Frame} {meth : Method} {c : Code} {H : Heap} {locs : List Loc} {cells slots : Nat} {Q : State → Prop} {ls : Array Slot} {D : va_G} {kA : Nat → ClassId} {b L i bd md : Nat} {xs : Nat → Int32} {hc hm : hm_H} {lv : List (Nat × Value)} (C0 : lw_At p s m meth c b L xs) (hK : va_K D vwCl (hm_ty kA) s) (hi : i + 11 ≤ L) (hL : L ≤ 5632) (hl : lv_has ls 4 lv) (l0 : ls[0]? = some (.val (.ref b))) (l1 : ls[1]? = some (.val (va_rf (some bd)))) (l2 : ls[2]? = some (.val (va_rf (some md)))) (l3 : ls[3]? = some (.val (.int (nI i)))) (S : LWS D kA s bd md hc hm H locs) (h1 : cells + 6 ≤ 600000) (h2 : slots + 4105 ≤ 7302250)
    (kk : ∀ (hc hm : hm_H) (H : Heap) (locs : List Loc), LWS D kA s bd md hc hm H locs → W p l e room_1 s m #[Value.ref b] below meth c H locs (cells + 6) (slots + 4105) Q (F0 m 1202 ls [])) : W p l e room_1 s m #[Value.ref b] below meth c H locs cells slots Q (F0 m 898 ls []) := by
  obtain ⟨hx, hb, -, hml, hown, hts, hX, hbl, -, -⟩ := C0
  obtain ⟨hI, hG, ha, hAG⟩ := S
  have hbA : ¬ (fun q : Nat => s.heap.size ≤ q) b := Nat.not_le.mpr hbl
  have hts1 : ∀ w ∈ wsL_law, w.before #[Value.ref b] s = true := fun w h => hts w (wsL_law_in w h)
  obtain ⟨r, hc1, hm1, e1, e2, A1⟩ := (ag_turn bd md (xs (i + 1)) (xs (i + 2))).two hAG
  have hS := hI.2.1
  refine hm_aload_n hx hb dL_law_898 rfl l1 ?_
  refine sc_c (j := 1) hx hb hX hbl hbA hS l0 l3 (by omega) hL dL_law_899 dL_law_900 dL_law_901 rfl dL_law_902 dL_law_903 ?_
  refine sc_c (j := 2) hx hb hX hbl hbA hS l0 l3 (by omega) hL dL_law_904 dL_law_905 dL_law_906 rfl dL_law_907 dL_law_908 ?_
  refine hm_cV2 (As := [.int (xs (i + 1)), .int (xs (i + 2))]) (rest := []) ⟨hx, hb, hml, hown, hts1⟩ hK hI hG ha hAG.rc5 rfl rfl (kX5_turn l D kA bd (xs (i + 1)) (xs (i + 2)) hc hc1 r e1) (cwV 2 hts1 gL_law_X5_turn rfl rfl rfl (by decide +kernel) ⟨Nat.le_of_ble_eq_true rfl, Nat.le_of_ble_eq_true rfl⟩) rfl hl.1 rfl (Nat.le_of_ble_eq_true rfl) dL_law_909 ⟨show cells + 0 ≤ 600000 by omega, show slots + 0 ≤ 7302250 by omega⟩ (fun H1 locs1 z1 hI1 hG1 a1 => ?_)
  have hJ1 := hI1.other hG1
  have hS := hJ1.2.1
  refine hm_aload_n hx hb dL_law_912 rfl l2 ?_
  refine sc_c (j := 1) hx hb hX hbl hbA hS l0 l3 (by omega) hL dL_law_913 dL_law_914 dL_law_915 rfl dL_law_916 dL_law_917 ?_
  refine sc_c (j := 2) hx hb hX hbl hbA hS l0 l3 (by omega) hL dL_law_918 dL_law_919 dL_law_920 rfl dL_law_921 dL_law_922 ?_
  refine hm_cV2 (As := [.int (xs (i + 1)), .int (xs (i + 2))]) (rest := [.int r]) ⟨hx, hb, hml, hown, hts1⟩ hK hJ1 hI1.1 a1.sym (hAG.rc6 _) rfl rfl (kX6_turn l D kA md (xs (i + 1)) (xs (i + 2)) (hm.1, hc1.2) hm1 r e2) (cwV 2 hts1 gL_law_X6_turn rfl rfl rfl (by decide +kernel) ⟨Nat.le_of_ble_eq_true rfl, Nat.le_of_ble_eq_true rfl⟩) rfl hl.1 rfl (Nat.le_of_ble_eq_true rfl) dL_law_923 ⟨show cells + 0 + 0 ≤ 600000 by omega, show slots + 0 + 0 ≤ 7302250 by omega⟩ (fun H2 locs2 z2 hI2 hG2 a2 => ?_)
  refine lv_icmp_eq (tgt := 1202) hx hb dL_law_926 (by decide) (fun _ => ?_) (fun z => absurd rfl z)
  exact W.widen (show cells + 0 + 0 ≤ cells + 6 by omega) (show slots + 0 + 0 ≤ slots + 4105 by omega) (kk (hc1.1, hm1.2) hm1 H2 locs2 ⟨hI2.other hG2, hI2.1, a2.sym, A1.grow z2 hm1.2⟩)
theorem law_count {p : Program} {l : Launch} {e : Env} {s : State} {m : MethodId} {below : List Frame} {meth : Method} {c : Code} {H : Heap} {locs : List Loc} {cells slots : Nat} {Q : State → Prop} {ls : Array Slot} {D : va_G} {kA : Nat → ClassId} {b L i bd md : Nat} {xs : Nat → Int32} {hc hm : hm_H} {lv : List (Nat × Value)} (C0 : lw_At p s m meth c b L xs) (hK : va_K D vwCl (hm_ty kA) s) (hi : i + 11 ≤ L) (hL : L ≤ 5632) (hl : lv_has ls 4 lv) (l0 : ls[0]? = some (.val (.ref b))) (l1 : ls[1]? = some (.val (va_rf (some bd)))) (l2 : ls[2]? = some (.val (va_rf (some md)))) (l3 : ls[3]? = some (.val (.int (nI i)))) (S : LWS D kA s bd md hc hm H locs) (h1 : cells + 6 ≤ 600000) (h2 : slots + 4105 ≤ 7302250)
    (kk : ∀ (hc hm : hm_H) (H : Heap) (locs : List Loc), LWS D kA s bd md hc hm H locs → W p l e room_1 s m #[Value.ref b] below meth c H locs (cells + 6) (slots + 4105) Q (F0 m 1202 ls [])) : W p l e room_1 s m #[Value.ref b] below meth c H locs cells slots Q (F0 m 931 ls []) := by
  obtain ⟨hx, hb, -, hml, hown, hts, hX, hbl, -, -⟩ := C0
  obtain ⟨hI, hG, ha, hAG⟩ := S
  have hbA : ¬ (fun q : Nat => s.heap.size ≤ q) b := Nat.not_le.mpr hbl
  have hts1 : ∀ w ∈ wsL_law, w.before #[Value.ref b] s = true := fun w h => hts w (wsL_law_in w h)
  obtain ⟨r, hc1, hm1, e1, e2, A1⟩ := (ag_count bd md (xs (i + 1)) (xs (i + 2))).two hAG
  have hS := hI.2.1
  refine hm_aload_n hx hb dL_law_931 rfl l1 ?_
  refine sc_c (j := 1) hx hb hX hbl hbA hS l0 l3 (by omega) hL dL_law_932 dL_law_933 dL_law_934 rfl dL_law_935 dL_law_936 ?_
  refine sc_c (j := 2) hx hb hX hbl hbA hS l0 l3 (by omega) hL dL_law_937 dL_law_938 dL_law_939 rfl dL_law_940 dL_law_941 ?_
  refine hm_cV2 (As := [.int (xs (i + 1)), .int (xs (i + 2))]) (rest := []) ⟨hx, hb, hml, hown, hts1⟩ hK hI hG ha hAG.rc5 rfl rfl (kX5_count l D kA bd (xs (i + 1)) (xs (i + 2)) hc hc1 r e1) (cwV 2 hts1 gL_law_X5_count rfl rfl rfl (by decide +kernel) ⟨Nat.le_of_ble_eq_true rfl, Nat.le_of_ble_eq_true rfl⟩) rfl hl.1 rfl (Nat.le_of_ble_eq_true rfl) dL_law_942 ⟨show cells + 0 ≤ 600000 by omega, show slots + 0 ≤ 7302250 by omega⟩ (fun H1 locs1 z1 hI1 hG1 a1 => ?_)
  have hJ1 := hI1.other hG1
  have hS := hJ1.2.1
  refine hm_aload_n hx hb dL_law_945 rfl l2 ?_
  refine sc_c (j := 1) hx hb hX hbl hbA hS l0 l3 (by omega) hL dL_law_946 dL_law_947 dL_law_948 rfl dL_law_949 dL_law_950 ?_
  refine sc_c (j := 2) hx hb hX hbl hbA hS l0 l3 (by omega) hL dL_law_951 dL_law_952 dL_law_953 rfl dL_law_954 dL_law_955 ?_
  refine hm_cV2 (As := [.int (xs (i + 1)), .int (xs (i + 2))]) (rest := [.int r]) ⟨hx, hb, hml, hown, hts1⟩ hK hJ1 hI1.1 a1.sym (hAG.rc6 _) rfl rfl (kX6_count l D kA md (xs (i + 1)) (xs (i + 2)) (hm.1, hc1.2) hm1 r e2) (cwV 2 hts1 gL_law_X6_count rfl rfl rfl (by decide +kernel) ⟨Nat.le_of_ble_eq_true rfl, Nat.le_of_ble_eq_true rfl⟩) rfl hl.1 rfl (Nat.le_of_ble_eq_true rfl) dL_law_956 ⟨show cells + 0 + 0 ≤ 600000 by omega, show slots + 0 + 0 ≤ 7302250 by omega⟩ (fun H2 locs2 z2 hI2 hG2 a2 => ?_)
  refine lv_icmp_eq (tgt := 1202) hx hb dL_law_959 (by decide) (fun _ => ?_) (fun z => absurd rfl z)
  exact W.widen (show cells + 0 + 0 ≤ cells + 6 by omega) (show slots + 0 + 0 ≤ slots + 4105 by omega) (kk (hc1.1, hm1.2) hm1 H2 locs2 ⟨hI2.other hG2, hI2.1, a2.sym, A1.grow z2 hm1.2⟩)
theorem law_tell {p : Program} {l : Launch} {e : Env} {s : State} {m : MethodId} {below : List Frame} {meth : Method} {c : Code} {H : Heap} {locs : List Loc} {cells slots : Nat} {Q : State → Prop} {ls : Array Slot} {D : va_G} {kA : Nat → ClassId} {b L i bd md : Nat} {xs : Nat → Int32} {hc hm : hm_H} {lv : List (Nat × Value)} (C0 : lw_At p s m meth c b L xs) (hK : va_K D vwCl (hm_ty kA) s) (hi : i + 11 ≤ L) (hL : L ≤ 5632) (hl : lv_has ls 4 lv) (l0 : ls[0]? = some (.val (.ref b))) (l1 : ls[1]? = some (.val (va_rf (some bd)))) (l2 : ls[2]? = some (.val (va_rf (some md)))) (l3 : ls[3]? = some (.val (.int (nI i)))) (S : LWS D kA s bd md hc hm H locs) (h1 : cells + 6 ≤ 600000) (h2 : slots + 4105 ≤ 7302250)
    (kk : ∀ (hc hm : hm_H) (H : Heap) (locs : List Loc), LWS D kA s bd md hc hm H locs → W p l e room_1 s m #[Value.ref b] below meth c H locs (cells + 6) (slots + 4105) Q (F0 m 1202 ls [])) : W p l e room_1 s m #[Value.ref b] below meth c H locs cells slots Q (F0 m 964 ls []) := by
  obtain ⟨hx, hb, -, hml, hown, hts, hX, hbl, -, -⟩ := C0
  obtain ⟨hI, hG, ha, hAG⟩ := S
  have hbA : ¬ (fun q : Nat => s.heap.size ≤ q) b := Nat.not_le.mpr hbl
  have hts1 : ∀ w ∈ wsL_law, w.before #[Value.ref b] s = true := fun w h => hts w (wsL_law_in w h)
  obtain ⟨r, hc1, hm1, e1, e2, A1⟩ := (ag_tell bd md (xs (i + 1)) (xs (i + 2)) (xs (i + 3))).two hAG
  have hS := hI.2.1
  refine hm_aload_n hx hb dL_law_964 rfl l1 ?_
  refine sc_c (j := 1) hx hb hX hbl hbA hS l0 l3 (by omega) hL dL_law_965 dL_law_966 dL_law_967 rfl dL_law_968 dL_law_969 ?_
  refine sc_c (j := 2) hx hb hX hbl hbA hS l0 l3 (by omega) hL dL_law_970 dL_law_971 dL_law_972 rfl dL_law_973 dL_law_974 ?_
  refine sc_c (j := 3) hx hb hX hbl hbA hS l0 l3 (by omega) hL dL_law_975 dL_law_976 dL_law_977 rfl dL_law_978 dL_law_979 ?_
  refine hm_cV2 (As := [.int (xs (i + 1)), .int (xs (i + 2)), .int (xs (i + 3))]) (rest := []) ⟨hx, hb, hml, hown, hts1⟩ hK hI hG ha hAG.rc5 rfl rfl (kX5_tell l D kA bd (xs (i + 1)) (xs (i + 2)) (xs (i + 3)) hc hc1 r e1) (cwV 3 hts1 gL_law_X5_tell rfl rfl rfl (by decide +kernel) ⟨Nat.le_of_ble_eq_true rfl, Nat.le_of_ble_eq_true rfl⟩) rfl hl.1 rfl (Nat.le_of_ble_eq_true rfl) dL_law_980 ⟨show cells + 1 ≤ 600000 by omega, show slots + 3 ≤ 7302250 by omega⟩ (fun H1 locs1 z1 hI1 hG1 a1 => ?_)
  have hJ1 := hI1.other hG1
  have hS := hJ1.2.1
  refine hm_aload_n hx hb dL_law_983 rfl l2 ?_
  refine sc_c (j := 1) hx hb hX hbl hbA hS l0 l3 (by omega) hL dL_law_984 dL_law_985 dL_law_986 rfl dL_law_987 dL_law_988 ?_
  refine sc_c (j := 2) hx hb hX hbl hbA hS l0 l3 (by omega) hL dL_law_989 dL_law_990 dL_law_991 rfl dL_law_992 dL_law_993 ?_
  refine sc_c (j := 3) hx hb hX hbl hbA hS l0 l3 (by omega) hL dL_law_994 dL_law_995 dL_law_996 rfl dL_law_997 dL_law_998 ?_
  refine hm_cV2 (As := [.int (xs (i + 1)), .int (xs (i + 2)), .int (xs (i + 3))]) (rest := [.int r]) ⟨hx, hb, hml, hown, hts1⟩ hK hJ1 hI1.1 a1.sym (hAG.rc6 _) rfl rfl (kX6_tell l D kA md (xs (i + 1)) (xs (i + 2)) (xs (i + 3)) (hm.1, hc1.2) hm1 r e2) (cwV 3 hts1 gL_law_X6_tell rfl rfl rfl (by decide +kernel) ⟨Nat.le_of_ble_eq_true rfl, Nat.le_of_ble_eq_true rfl⟩) rfl hl.1 rfl (Nat.le_of_ble_eq_true rfl) dL_law_999 ⟨show cells + 1 + 0 ≤ 600000 by omega, show slots + 3 + 0 ≤ 7302250 by omega⟩ (fun H2 locs2 z2 hI2 hG2 a2 => ?_)
  refine lv_icmp_eq (tgt := 1202) hx hb dL_law_1002 (by decide) (fun _ => ?_) (fun z => absurd rfl z)
  exact W.widen (show cells + 1 + 0 ≤ cells + 6 by omega) (show slots + 3 + 0 ≤ slots + 4105 by omega) (kk (hc1.1, hm1.2) hm1 H2 locs2 ⟨hI2.other hG2, hI2.1, a2.sym, A1.grow z2 hm1.2⟩)
theorem law_load {p : Program} {l : Launch} {e : Env} {s : State} {m : MethodId} {below : List Frame} {meth : Method} {c : Code} {H : Heap} {locs : List Loc} {cells slots : Nat} {Q : State → Prop} {ls : Array Slot} {D : va_G} {kA : Nat → ClassId} {b L i bd md : Nat} {xs : Nat → Int32} {hc hm : hm_H} {lv : List (Nat × Value)} (C0 : lw_At p s m meth c b L xs) (hK : va_K D vwCl (hm_ty kA) s) (hi : i + 11 ≤ L) (hL : L ≤ 5632) (hl : lv_has ls 4 lv) (l0 : ls[0]? = some (.val (.ref b))) (l1 : ls[1]? = some (.val (va_rf (some bd)))) (l2 : ls[2]? = some (.val (va_rf (some md)))) (l3 : ls[3]? = some (.val (.int (nI i)))) (S : LWS D kA s bd md hc hm H locs) (h1 : cells + 6 ≤ 600000) (h2 : slots + 4105 ≤ 7302250)
    (kk : ∀ (hc hm : hm_H) (H : Heap) (locs : List Loc), LWS D kA s bd md hc hm H locs → W p l e room_1 s m #[Value.ref b] below meth c H locs (cells + 6) (slots + 4105) Q (F0 m 1202 ls [])) : W p l e room_1 s m #[Value.ref b] below meth c H locs cells slots Q (F0 m 1007 ls []) := by
  obtain ⟨hx, hb, -, hml, hown, hts, hX, hbl, -, -⟩ := C0
  obtain ⟨hI, hG, ha, hAG⟩ := S
  have hbA : ¬ (fun q : Nat => s.heap.size ≤ q) b := Nat.not_le.mpr hbl
  have hts1 : ∀ w ∈ wsL_law, w.before #[Value.ref b] s = true := fun w h => hts w (wsL_law_in w h)
  obtain ⟨r, hc1, hm1, e1, e2, A1⟩ := (ag_load bd md (xs (i + 1)) ((((xs (i + 2)).toInt64 <<< ((32 : Int32).toInt64 &&& 63)) ||| ((xs (i + 3)).toInt64 &&& (4294967295 : Int64)))) (xs (i + 4))).two hAG
  have hS := hI.2.1
  refine hm_aload_n hx hb dL_law_1007 rfl l1 ?_
  refine sc_c (j := 1) hx hb hX hbl hbA hS l0 l3 (by omega) hL dL_law_1008 dL_law_1009 dL_law_1010 rfl dL_law_1011 dL_law_1012 ?_
  refine sc_c (j := 2) hx hb hX hbl hbA hS l0 l3 (by omega) hL dL_law_1013 dL_law_1014 dL_law_1015 rfl dL_law_1016 dL_law_1017 ?_
  refine lv_i2l (v := (xs (i + 2)).toInt64) hx hb dL_law_1018 rfl ?_
  refine lv_bipush (v := (32 : Int32)) hx hb dL_law_1019 rfl ?_
  refine lv_lshl (v := ((xs (i + 2)).toInt64 <<< ((32 : Int32).toInt64 &&& 63))) hx hb dL_law_1021 rfl ?_
  refine sc_c (j := 3) hx hb hX hbl hbA hS l0 l3 (by omega) hL dL_law_1022 dL_law_1023 dL_law_1024 rfl dL_law_1025 dL_law_1026 ?_
  refine lv_i2l (v := (xs (i + 3)).toInt64) hx hb dL_law_1027 rfl ?_
  refine lv_ldc2 (v := (4294967295 : Int64)) hx hb hown (hts (.constantLong RL 72 (4294967295)) (by decide +kernel)) dL_law_1028 ?_
  refine lv_land hx hb dL_law_1031 ?_
  refine lv_lor hx hb dL_law_1032 ?_
  refine sc_c (j := 4) hx hb hX hbl hbA hS l0 l3 (by omega) hL dL_law_1033 dL_law_1034 dL_law_1035 rfl dL_law_1036 dL_law_1037 ?_
  refine hm_cV2 (As := [.int (xs (i + 1)), .long ((((xs (i + 2)).toInt64 <<< ((32 : Int32).toInt64 &&& 63)) ||| ((xs (i + 3)).toInt64 &&& (4294967295 : Int64)))), .int (xs (i + 4))]) (rest := []) ⟨hx, hb, hml, hown, hts1⟩ hK hI hG ha hAG.rc5 rfl rfl (kX5_load l D kA bd (xs (i + 1)) ((((xs (i + 2)).toInt64 <<< ((32 : Int32).toInt64 &&& 63)) ||| ((xs (i + 3)).toInt64 &&& (4294967295 : Int64)))) (xs (i + 4)) hc hc1 r e1) (cwV 3 hts1 gL_law_X5_load rfl rfl rfl (by decide +kernel) ⟨Nat.le_of_ble_eq_true rfl, Nat.le_of_ble_eq_true rfl⟩) rfl hl.1 rfl (Nat.le_of_ble_eq_true rfl) dL_law_1038 ⟨show cells + 0 ≤ 600000 by omega, show slots + 0 ≤ 7302250 by omega⟩ (fun H1 locs1 z1 hI1 hG1 a1 => ?_)
  have hJ1 := hI1.other hG1
  have hS := hJ1.2.1
  refine hm_aload_n hx hb dL_law_1041 rfl l2 ?_
  refine sc_c (j := 1) hx hb hX hbl hbA hS l0 l3 (by omega) hL dL_law_1042 dL_law_1043 dL_law_1044 rfl dL_law_1045 dL_law_1046 ?_
  refine sc_c (j := 2) hx hb hX hbl hbA hS l0 l3 (by omega) hL dL_law_1047 dL_law_1048 dL_law_1049 rfl dL_law_1050 dL_law_1051 ?_
  refine lv_i2l (v := (xs (i + 2)).toInt64) hx hb dL_law_1052 rfl ?_
  refine lv_bipush (v := (32 : Int32)) hx hb dL_law_1053 rfl ?_
  refine lv_lshl (v := ((xs (i + 2)).toInt64 <<< ((32 : Int32).toInt64 &&& 63))) hx hb dL_law_1055 rfl ?_
  refine sc_c (j := 3) hx hb hX hbl hbA hS l0 l3 (by omega) hL dL_law_1056 dL_law_1057 dL_law_1058 rfl dL_law_1059 dL_law_1060 ?_
  refine lv_i2l (v := (xs (i + 3)).toInt64) hx hb dL_law_1061 rfl ?_
  refine lv_ldc2 (v := (4294967295 : Int64)) hx hb hown (hts (.constantLong RL 72 (4294967295)) (by decide +kernel)) dL_law_1062 ?_
  refine lv_land hx hb dL_law_1065 ?_
  refine lv_lor hx hb dL_law_1066 ?_
  refine sc_c (j := 4) hx hb hX hbl hbA hS l0 l3 (by omega) hL dL_law_1067 dL_law_1068 dL_law_1069 rfl dL_law_1070 dL_law_1071 ?_
  refine hm_cV2 (As := [.int (xs (i + 1)), .long ((((xs (i + 2)).toInt64 <<< ((32 : Int32).toInt64 &&& 63)) ||| ((xs (i + 3)).toInt64 &&& (4294967295 : Int64)))), .int (xs (i + 4))]) (rest := [.int r]) ⟨hx, hb, hml, hown, hts1⟩ hK hJ1 hI1.1 a1.sym (hAG.rc6 _) rfl rfl (kX6_load l D kA md (xs (i + 1)) ((((xs (i + 2)).toInt64 <<< ((32 : Int32).toInt64 &&& 63)) ||| ((xs (i + 3)).toInt64 &&& (4294967295 : Int64)))) (xs (i + 4)) (hm.1, hc1.2) hm1 r e2) (cwV 3 hts1 gL_law_X6_load rfl rfl rfl (by decide +kernel) ⟨Nat.le_of_ble_eq_true rfl, Nat.le_of_ble_eq_true rfl⟩) rfl hl.1 rfl (Nat.le_of_ble_eq_true rfl) dL_law_1072 ⟨show cells + 0 + 0 ≤ 600000 by omega, show slots + 0 + 0 ≤ 7302250 by omega⟩ (fun H2 locs2 z2 hI2 hG2 a2 => ?_)
  refine lv_icmp_eq (tgt := 1202) hx hb dL_law_1075 (by decide) (fun _ => ?_) (fun z => absurd rfl z)
  exact W.widen (show cells + 0 + 0 ≤ cells + 6 by omega) (show slots + 0 + 0 ≤ slots + 4105 by omega) (kk (hc1.1, hm1.2) hm1 H2 locs2 ⟨hI2.other hG2, hI2.1, a2.sym, A1.grow z2 hm1.2⟩)
theorem law_forget {p : Program} {l : Launch} {e : Env} {s : State} {m : MethodId} {below : List Frame} {meth : Method} {c : Code} {H : Heap} {locs : List Loc} {cells slots : Nat} {Q : State → Prop} {ls : Array Slot} {D : va_G} {kA : Nat → ClassId} {b L i bd md : Nat} {xs : Nat → Int32} {hc hm : hm_H} {lv : List (Nat × Value)} (C0 : lw_At p s m meth c b L xs) (hK : va_K D vwCl (hm_ty kA) s) (hi : i + 11 ≤ L) (hL : L ≤ 5632) (hl : lv_has ls 4 lv) (l0 : ls[0]? = some (.val (.ref b))) (l1 : ls[1]? = some (.val (va_rf (some bd)))) (l2 : ls[2]? = some (.val (va_rf (some md)))) (l3 : ls[3]? = some (.val (.int (nI i)))) (S : LWS D kA s bd md hc hm H locs) (h1 : cells + 6 ≤ 600000) (h2 : slots + 4105 ≤ 7302250)
    (kk : ∀ (hc hm : hm_H) (H : Heap) (locs : List Loc), LWS D kA s bd md hc hm H locs → W p l e room_1 s m #[Value.ref b] below meth c H locs (cells + 6) (slots + 4105) Q (F0 m 1202 ls [])) : W p l e room_1 s m #[Value.ref b] below meth c H locs cells slots Q (F0 m 1080 ls []) := by
  obtain ⟨hx, hb, -, hml, hown, hts, hX, hbl, -, -⟩ := C0
  obtain ⟨hI, hG, ha, hAG⟩ := S
  have hbA : ¬ (fun q : Nat => s.heap.size ≤ q) b := Nat.not_le.mpr hbl
  have hts1 : ∀ w ∈ wsL_law, w.before #[Value.ref b] s = true := fun w h => hts w (wsL_law_in w h)
  obtain ⟨r, hc1, hm1, e1, e2, A1⟩ := (ag_forget bd md (xs (i + 1))).two hAG
  have hS := hI.2.1
  refine hm_aload_n hx hb dL_law_1080 rfl l1 ?_
  refine sc_c (j := 1) hx hb hX hbl hbA hS l0 l3 (by omega) hL dL_law_1081 dL_law_1082 dL_law_1083 rfl dL_law_1084 dL_law_1085 ?_
  refine hm_cV2 (As := [.int (xs (i + 1))]) (rest := []) ⟨hx, hb, hml, hown, hts1⟩ hK hI hG ha hAG.rc5 rfl rfl (kX5_forget l D kA bd (xs (i + 1)) hc hc1 r e1) (cwV 1 hts1 gL_law_X5_forget rfl rfl rfl (by decide +kernel) ⟨Nat.le_of_ble_eq_true rfl, Nat.le_of_ble_eq_true rfl⟩) rfl hl.1 rfl (Nat.le_of_ble_eq_true rfl) dL_law_1086 ⟨show cells + 0 ≤ 600000 by omega, show slots + 0 ≤ 7302250 by omega⟩ (fun H1 locs1 z1 hI1 hG1 a1 => ?_)
  have hJ1 := hI1.other hG1
  have hS := hJ1.2.1
  refine hm_aload_n hx hb dL_law_1089 rfl l2 ?_
  refine sc_c (j := 1) hx hb hX hbl hbA hS l0 l3 (by omega) hL dL_law_1090 dL_law_1091 dL_law_1092 rfl dL_law_1093 dL_law_1094 ?_
  refine hm_cV2 (As := [.int (xs (i + 1))]) (rest := [.int r]) ⟨hx, hb, hml, hown, hts1⟩ hK hJ1 hI1.1 a1.sym (hAG.rc6 _) rfl rfl (kX6_forget l D kA md (xs (i + 1)) (hm.1, hc1.2) hm1 r e2) (cwV 1 hts1 gL_law_X6_forget rfl rfl rfl (by decide +kernel) ⟨Nat.le_of_ble_eq_true rfl, Nat.le_of_ble_eq_true rfl⟩) rfl hl.1 rfl (Nat.le_of_ble_eq_true rfl) dL_law_1095 ⟨show cells + 0 + 0 ≤ 600000 by omega, show slots + 0 + 0 ≤ 7302250 by omega⟩ (fun H2 locs2 z2 hI2 hG2 a2 => ?_)
  refine lv_icmp_eq (tgt := 1202) hx hb dL_law_1098 (by decide) (fun _ => ?_) (fun z => absurd rfl z)
  exact W.widen (show cells + 0 + 0 ≤ cells + 6 by omega) (show slots + 0 + 0 ≤ slots + 4105 by omega) (kk (hc1.1, hm1.2) hm1 H2 locs2 ⟨hI2.other hG2, hI2.1, a2.sym, A1.grow z2 hm1.2⟩)
theorem law_part {p : Program} {l : Launch} {e : Env} {s : State} {m : MethodId} {below : List Frame} {meth : Method} {c : Code} {H : Heap} {locs : List Loc} {cells slots : Nat} {Q : State → Prop} {ls : Array Slot} {D : va_G} {kA : Nat → ClassId} {b L i bd md : Nat} {xs : Nat → Int32} {hc hm : hm_H} {lv : List (Nat × Value)} (C0 : lw_At p s m meth c b L xs) (hK : va_K D vwCl (hm_ty kA) s) (hi : i + 11 ≤ L) (hL : L ≤ 5632) (hl : lv_has ls 4 lv) (l0 : ls[0]? = some (.val (.ref b))) (l1 : ls[1]? = some (.val (va_rf (some bd)))) (l2 : ls[2]? = some (.val (va_rf (some md)))) (l3 : ls[3]? = some (.val (.int (nI i)))) (S : LWS D kA s bd md hc hm H locs) (h1 : cells + 6 ≤ 600000) (h2 : slots + 4105 ≤ 7302250)
    (kk : ∀ (hc hm : hm_H) (H : Heap) (locs : List Loc), LWS D kA s bd md hc hm H locs → W p l e room_1 s m #[Value.ref b] below meth c H locs (cells + 6) (slots + 4105) Q (F0 m 1202 ls [])) : W p l e room_1 s m #[Value.ref b] below meth c H locs cells slots Q (F0 m 1103 ls []) := by
  obtain ⟨hx, hb, -, hml, hown, hts, hX, hbl, -, -⟩ := C0
  obtain ⟨hI, hG, ha, hAG⟩ := S
  have hbA : ¬ (fun q : Nat => s.heap.size ≤ q) b := Nat.not_le.mpr hbl
  have hts1 : ∀ w ∈ wsL_law, w.before #[Value.ref b] s = true := fun w h => hts w (wsL_law_in w h)
  obtain ⟨r, hc1, hm1, e1, e2, A1⟩ := (ag_part bd md (xs (i + 1)) (xs (i + 2))).two hAG
  have hS := hI.2.1
  refine hm_aload_n hx hb dL_law_1103 rfl l1 ?_
  refine sc_c (j := 1) hx hb hX hbl hbA hS l0 l3 (by omega) hL dL_law_1104 dL_law_1105 dL_law_1106 rfl dL_law_1107 dL_law_1108 ?_
  refine sc_c (j := 2) hx hb hX hbl hbA hS l0 l3 (by omega) hL dL_law_1109 dL_law_1110 dL_law_1111 rfl dL_law_1112 dL_law_1113 ?_
  refine hm_cV2 (As := [.int (xs (i + 1)), .int (xs (i + 2))]) (rest := []) ⟨hx, hb, hml, hown, hts1⟩ hK hI hG ha hAG.rc5 rfl rfl (kX5_part l D kA bd (xs (i + 1)) (xs (i + 2)) hc hc1 r e1) (cwV 2 hts1 gL_law_X5_part rfl rfl rfl (by decide +kernel) ⟨Nat.le_of_ble_eq_true rfl, Nat.le_of_ble_eq_true rfl⟩) rfl hl.1 rfl (Nat.le_of_ble_eq_true rfl) dL_law_1114 ⟨show cells + 0 ≤ 600000 by omega, show slots + 0 ≤ 7302250 by omega⟩ (fun H1 locs1 z1 hI1 hG1 a1 => ?_)
  have hJ1 := hI1.other hG1
  have hS := hJ1.2.1
  refine hm_aload_n hx hb dL_law_1117 rfl l2 ?_
  refine sc_c (j := 1) hx hb hX hbl hbA hS l0 l3 (by omega) hL dL_law_1118 dL_law_1119 dL_law_1120 rfl dL_law_1121 dL_law_1122 ?_
  refine sc_c (j := 2) hx hb hX hbl hbA hS l0 l3 (by omega) hL dL_law_1123 dL_law_1124 dL_law_1125 rfl dL_law_1126 dL_law_1127 ?_
  refine hm_cV2 (As := [.int (xs (i + 1)), .int (xs (i + 2))]) (rest := [.int r]) ⟨hx, hb, hml, hown, hts1⟩ hK hJ1 hI1.1 a1.sym (hAG.rc6 _) rfl rfl (kX6_part l D kA md (xs (i + 1)) (xs (i + 2)) (hm.1, hc1.2) hm1 r e2) (cwV 2 hts1 gL_law_X6_part rfl rfl rfl (by decide +kernel) ⟨Nat.le_of_ble_eq_true rfl, Nat.le_of_ble_eq_true rfl⟩) rfl hl.1 rfl (Nat.le_of_ble_eq_true rfl) dL_law_1128 ⟨show cells + 0 + 0 ≤ 600000 by omega, show slots + 0 + 0 ≤ 7302250 by omega⟩ (fun H2 locs2 z2 hI2 hG2 a2 => ?_)
  refine lv_icmp_eq (tgt := 1202) hx hb dL_law_1131 (by decide) (fun _ => ?_) (fun z => absurd rfl z)
  exact W.widen (show cells + 0 + 0 ≤ cells + 6 by omega) (show slots + 0 + 0 ≤ slots + 4105 by omega) (kk (hc1.1, hm1.2) hm1 H2 locs2 ⟨hI2.other hG2, hI2.1, a2.sym, A1.grow z2 hm1.2⟩)
theorem law_draw {p : Program} {l : Launch} {e : Env} {s : State} {m : MethodId} {below : List Frame} {meth : Method} {c : Code} {H : Heap} {locs : List Loc} {cells slots : Nat} {Q : State → Prop} {ls : Array Slot} {D : va_G} {kA : Nat → ClassId} {b L i bd md : Nat} {xs : Nat → Int32} {hc hm : hm_H} {lv : List (Nat × Value)} (C0 : lw_At p s m meth c b L xs) (hK : va_K D vwCl (hm_ty kA) s) (hi : i + 11 ≤ L) (hL : L ≤ 5632) (hl : lv_has ls 4 lv) (l0 : ls[0]? = some (.val (.ref b))) (l1 : ls[1]? = some (.val (va_rf (some bd)))) (l2 : ls[2]? = some (.val (va_rf (some md)))) (l3 : ls[3]? = some (.val (.int (nI i)))) (S : LWS D kA s bd md hc hm H locs) (h1 : cells + 6 ≤ 600000) (h2 : slots + 4105 ≤ 7302250)
    (kk : ∀ (hc hm : hm_H) (H : Heap) (locs : List Loc), LWS D kA s bd md hc hm H locs → W p l e room_1 s m #[Value.ref b] below meth c H locs (cells + 6) (slots + 4105) Q (F0 m 1202 ls [])) : W p l e room_1 s m #[Value.ref b] below meth c H locs cells slots Q (F0 m 1136 ls []) := by
  obtain ⟨hx, hb, -, hml, hown, hts, hX, hbl, -, -⟩ := C0
  obtain ⟨hI, hG, ha, hAG⟩ := S
  have hbA : ¬ (fun q : Nat => s.heap.size ≤ q) b := Nat.not_le.mpr hbl
  have hts1 : ∀ w ∈ wsL_law, w.before #[Value.ref b] s = true := fun w h => hts w (wsL_law_in w h)
  obtain ⟨r, hc1, hm1, e1, e2, A1⟩ := (ag_draw bd md (xs (i + 1)) (xs (i + 2)) (xs (i + 3)) (xs (i + 4))).two hAG
  have hS := hI.2.1
  refine hm_aload_n hx hb dL_law_1136 rfl l1 ?_
  refine sc_c (j := 1) hx hb hX hbl hbA hS l0 l3 (by omega) hL dL_law_1137 dL_law_1138 dL_law_1139 rfl dL_law_1140 dL_law_1141 ?_
  refine sc_c (j := 2) hx hb hX hbl hbA hS l0 l3 (by omega) hL dL_law_1142 dL_law_1143 dL_law_1144 rfl dL_law_1145 dL_law_1146 ?_
  refine sc_c (j := 3) hx hb hX hbl hbA hS l0 l3 (by omega) hL dL_law_1147 dL_law_1148 dL_law_1149 rfl dL_law_1150 dL_law_1151 ?_
  refine sc_c (j := 4) hx hb hX hbl hbA hS l0 l3 (by omega) hL dL_law_1152 dL_law_1153 dL_law_1154 rfl dL_law_1155 dL_law_1156 ?_
  refine hm_cV2 (As := [.int (xs (i + 1)), .int (xs (i + 2)), .int (xs (i + 3)), .int (xs (i + 4))]) (rest := []) ⟨hx, hb, hml, hown, hts1⟩ hK hI hG ha hAG.rc5 rfl rfl (kX5_draw l D kA bd (xs (i + 1)) (xs (i + 2)) (xs (i + 3)) (xs (i + 4)) hc hc1 r e1) (cwV 4 hts1 gL_law_X5_draw rfl rfl rfl (by decide +kernel) ⟨Nat.le_of_ble_eq_true rfl, Nat.le_of_ble_eq_true rfl⟩) rfl hl.1 rfl (Nat.le_of_ble_eq_true rfl) dL_law_1157 ⟨show cells + 0 ≤ 600000 by omega, show slots + 0 ≤ 7302250 by omega⟩ (fun H1 locs1 z1 hI1 hG1 a1 => ?_)
  have hJ1 := hI1.other hG1
  have hS := hJ1.2.1
  refine hm_aload_n hx hb dL_law_1160 rfl l2 ?_
  refine sc_c (j := 1) hx hb hX hbl hbA hS l0 l3 (by omega) hL dL_law_1161 dL_law_1162 dL_law_1163 rfl dL_law_1164 dL_law_1165 ?_
  refine sc_c (j := 2) hx hb hX hbl hbA hS l0 l3 (by omega) hL dL_law_1166 dL_law_1167 dL_law_1168 rfl dL_law_1169 dL_law_1170 ?_
  refine sc_c (j := 3) hx hb hX hbl hbA hS l0 l3 (by omega) hL dL_law_1171 dL_law_1172 dL_law_1173 rfl dL_law_1174 dL_law_1175 ?_
  refine sc_c (j := 4) hx hb hX hbl hbA hS l0 l3 (by omega) hL dL_law_1176 dL_law_1177 dL_law_1178 rfl dL_law_1179 dL_law_1180 ?_
  refine hm_cV2 (As := [.int (xs (i + 1)), .int (xs (i + 2)), .int (xs (i + 3)), .int (xs (i + 4))]) (rest := [.int r]) ⟨hx, hb, hml, hown, hts1⟩ hK hJ1 hI1.1 a1.sym (hAG.rc6 _) rfl rfl (kX6_draw l D kA md (xs (i + 1)) (xs (i + 2)) (xs (i + 3)) (xs (i + 4)) (hm.1, hc1.2) hm1 r e2) (cwV 4 hts1 gL_law_X6_draw rfl rfl rfl (by decide +kernel) ⟨Nat.le_of_ble_eq_true rfl, Nat.le_of_ble_eq_true rfl⟩) rfl hl.1 rfl (Nat.le_of_ble_eq_true rfl) dL_law_1181 ⟨show cells + 0 + 0 ≤ 600000 by omega, show slots + 0 + 0 ≤ 7302250 by omega⟩ (fun H2 locs2 z2 hI2 hG2 a2 => ?_)
  refine lv_icmp_eq (tgt := 1202) hx hb dL_law_1184 (by decide) (fun _ => ?_) (fun z => absurd rfl z)
  exact W.widen (show cells + 0 + 0 ≤ cells + 6 by omega) (show slots + 0 + 0 ≤ slots + 4105 by omega) (kk (hc1.1, hm1.2) hm1 H2 locs2 ⟨hI2.other hG2, hI2.1, a2.sym, A1.grow z2 hm1.2⟩)
theorem law_check {p : Program} {l : Launch} {e : Env} {s : State} {m : MethodId} {below : List Frame} {meth : Method} {c : Code} {H : Heap} {locs : List Loc} {cells slots : Nat} {Q : State → Prop} {ls : Array Slot} {D : va_G} {kA : Nat → ClassId} {b L i bd md : Nat} {xs : Nat → Int32} {hc hm : hm_H} {lv : List (Nat × Value)} (C0 : lw_At p s m meth c b L xs) (hK : va_K D vwCl (hm_ty kA) s) (hi : i + 11 ≤ L) (hL : L ≤ 5632) (hl : lv_has ls 4 lv) (l0 : ls[0]? = some (.val (.ref b))) (l1 : ls[1]? = some (.val (va_rf (some bd)))) (l2 : ls[2]? = some (.val (va_rf (some md)))) (l3 : ls[3]? = some (.val (.int (nI i)))) (S : LWS D kA s bd md hc hm H locs) (h1 : cells + 6 ≤ 600000) (h2 : slots + 4105 ≤ 7302250)
    (kk : ∀ (hc hm : hm_H) (H : Heap) (locs : List Loc), LWS D kA s bd md hc hm H locs → W p l e room_1 s m #[Value.ref b] below meth c H locs (cells + 6) (slots + 4105) Q (F0 m 1202 ls [])) : W p l e room_1 s m #[Value.ref b] below meth c H locs cells slots Q (F0 m 1189 ls []) := by
  obtain ⟨hx, hb, -, hml, hown, hts, hX, hbl, -, -⟩ := C0
  obtain ⟨hI, hG, ha, hAG⟩ := S
  have hbA : ¬ (fun q : Nat => s.heap.size ≤ q) b := Nat.not_le.mpr hbl
  have hts1 : ∀ w ∈ wsL_law, w.before #[Value.ref b] s = true := fun w h => hts w (wsL_law_in w h)
  obtain ⟨r, hc1, hm1, e1, e2, A1⟩ := (ag_check bd md ).two hAG
  have hS := hI.2.1
  refine hm_aload_n hx hb dL_law_1189 rfl l1 ?_
  refine hm_cV2 (As := []) (rest := []) ⟨hx, hb, hml, hown, hts1⟩ hK hI hG ha hAG.rc5 rfl rfl (kX5_check l D kA bd  hc hc1 r e1) (cwV 0 hts1 gL_law_X5_check rfl rfl rfl (by decide +kernel) ⟨Nat.le_of_ble_eq_true rfl, Nat.le_of_ble_eq_true rfl⟩) rfl hl.1 rfl (Nat.le_of_ble_eq_true rfl) dL_law_1190 ⟨show cells + 0 ≤ 600000 by omega, show slots + 0 ≤ 7302250 by omega⟩ (fun H1 locs1 z1 hI1 hG1 a1 => ?_)
  have hJ1 := hI1.other hG1
  have hS := hJ1.2.1
  refine hm_aload_n hx hb dL_law_1193 rfl l2 ?_
  refine hm_cV2 (As := []) (rest := [.int r]) ⟨hx, hb, hml, hown, hts1⟩ hK hJ1 hI1.1 a1.sym (hAG.rc6 _) rfl rfl (kX6_check l D kA md  (hm.1, hc1.2) hm1 r e2) (cwV 0 hts1 gL_law_X6_check rfl rfl rfl (by decide +kernel) ⟨Nat.le_of_ble_eq_true rfl, Nat.le_of_ble_eq_true rfl⟩) rfl hl.1 rfl (Nat.le_of_ble_eq_true rfl) dL_law_1194 ⟨show cells + 0 + 0 ≤ 600000 by omega, show slots + 0 + 0 ≤ 7302250 by omega⟩ (fun H2 locs2 z2 hI2 hG2 a2 => ?_)
  refine lv_icmp_eq (tgt := 1202) hx hb dL_law_1197 (by decide) (fun _ => ?_) (fun z => absurd rfl z)
  exact W.widen (show cells + 0 + 0 ≤ cells + 6 by omega) (show slots + 0 + 0 ≤ slots + 4105 by omega) (kk (hc1.1, hm1.2) hm1 H2 locs2 ⟨hI2.other hG2, hI2.1, a2.sym, A1.grow z2 hm1.2⟩)
