/-! ===== the law: a call of the class, the same call of the model, the answers held together (printed by wip/whole/gen3.py) ===== -/
theorem RC.up {iv iv2 : Nat → Nat → Int32} {p : Nat → Option Nat} {cs : CS} {hs : List CS} {t : List Nat} (h : RC iv p cs hs t) (F : FM iv2 iv) : RC iv2 p cs hs t := h.keep (fun c hc => F c (by omega))
theorem RM.up {iv iv2 : Nat → Nat → Int32} {cs : CS} {hs : List CS} {t : List Nat} (h : RM iv cs hs t) (F : FC iv2 iv) : RM iv2 cs hs t := by
  obtain ⟨h1, h2, ⟨h3, h4, h5⟩, h6, h7, h8⟩ := h
  refine ⟨by rw [F 92 (by omega)]; exact h1, h2, ⟨by rw [F 91 (by omega)]; exact h3, h4, ?_⟩, by rw [F 91 (by omega)]; exact h6, h7, ?_⟩
  · rw [F 94 (by omega)]; exact h5
  · rw [F 95 (by omega)]; exact h8
def Lw (sc : Nat × (Nat → Int32)) (i pc : Nat) (p : Nat → Option Nat) (iv : Nat → Nat → Int32) : Prop := ∃ iv2 p2 cs2 hs2 t2, RC iv2 p2 cs2 hs2 t2 ∧ RM iv2 cs2 hs2 t2 ∧ ∀ Q : Option Value → zA → Prop, zEv sc 152 819 [.ref 0, .ref 1, .ref 91, .int (nI i)] [] (zst p2 iv2) Q → zEv sc 152 pc [.ref 0, .ref 1, .ref 91, .int (nI i)] [] (zst p iv) Q
theorem zl_o9 : zO 1 9 := zO_of (a := 1) (by omega) (by omega)
theorem zl_o10 : zO 91 10 := zO_of (a := 91) (by omega) (by omega)
theorem zl_q1 (i : Nat) : nI i + 1 = nI (i + 1) := nI_add i 1
theorem zl_q2 (i : Nat) : nI i + 2 = nI (i + 2) := nI_add i 2
theorem zl_q3 (i : Nat) : nI i + 3 = nI (i + 3) := nI_add i 3
theorem zl_q4 (i : Nat) : nI i + 4 = nI (i + 4) := nI_add i 4
section ZL
variable {sc : Nat × (Nat → Int32)} {Q : Option Value → zA → Prop} {p : Nat → Option Nat} {iv : Nat → Nat → Int32} {cs : CS} {hs : List CS} {t : List Nat} {i : Nat}
theorem L_0 (R : RC iv p cs hs t) (M : RM iv cs hs t) (hi : i + 4 ≤ sc.1) (hL : sc.1 ≤ 2048) : Lw sc i 140 p iv := by
  obtain ⟨iv1, p1, R1, F1, e1⟩ := k_fields (sc := sc) (x := sc.2 (i + 1)) (v := .null) R
  obtain ⟨iv2, M2, F2, e2⟩ := M_fields (sc := sc) (p := p1) (x := sc.2 (i + 1)) (M.up F1)
  have v1 : vp_in (nI (i + 1)) sc.1 := vp_in_nI (by omega) (by omega)
  have c1 : (nI (i + 1)).toNatClampNeg = i + 1 := nI_clamp (by omega)
  refine ⟨iv2, p1, _, _, _, R1.up F2, M2, fun Q hQ => ?_⟩
  simp only [u152_140, u152_141, u152_142, u152_143, u152_144, u152_145, u152_146, zl_o9, v1, zl_q1, c1]
  refine e1 _ ?_
  simp only [Option.toList_some, Option.toList_none, List.cons_append, List.nil_append, zRef_some, true_and, and_true, true_or, or_true, i10, i01, u152_149, u152_150, u152_151, u152_152, u152_153, u152_154, u152_155, zl_o10, v1, zl_q1, c1]
  refine e2 _ ?_
  simp only [Option.toList_some, Option.toList_none, List.cons_append, List.nil_append, zRef_some, true_and, and_true, true_or, or_true, i10, i01]
  rw [u152_158, if_pos rfl]
  exact hQ
theorem L_1 (R : RC iv p cs hs t) (M : RM iv cs hs t) (hi : i + 4 ≤ sc.1) (hL : sc.1 ≤ 2048) : Lw sc i 163 p iv := by
  obtain ⟨iv1, p1, R1, F1, e1⟩ := k_value (sc := sc) (x := sc.2 (i + 1)) (y := sc.2 (i + 2)) (v := .null) R
  obtain ⟨iv2, M2, F2, e2⟩ := M_value (sc := sc) (p := p1) (x := sc.2 (i + 1)) (y := sc.2 (i + 2)) (M.up F1)
  have v1 : vp_in (nI (i + 1)) sc.1 := vp_in_nI (by omega) (by omega)
  have c1 : (nI (i + 1)).toNatClampNeg = i + 1 := nI_clamp (by omega)
  have v2 : vp_in (nI (i + 2)) sc.1 := vp_in_nI (by omega) (by omega)
  have c2 : (nI (i + 2)).toNatClampNeg = i + 2 := nI_clamp (by omega)
  refine ⟨iv2, p1, _, _, _, R1.up F2, M2, fun Q hQ => ?_⟩
  simp only [u152_163, u152_164, u152_165, u152_166, u152_167, u152_168, u152_169, u152_170, u152_171, u152_172, u152_173, u152_174, zl_o9, v1, zl_q1, c1, v2, zl_q2, c2]
  refine e1 _ ?_
  simp only [Option.toList_some, Option.toList_none, List.cons_append, List.nil_append, zRef_some, true_and, and_true, true_or, or_true, i10, i01, u152_177, u152_178, u152_179, u152_180, u152_181, u152_182, u152_183, u152_184, u152_185, u152_186, u152_187, u152_188, zl_o10, v1, zl_q1, c1, v2, zl_q2, c2]
  refine e2 _ ?_
  simp only [Option.toList_some, Option.toList_none, List.cons_append, List.nil_append, zRef_some, true_and, and_true, true_or, or_true, i10, i01]
  rw [u152_191, if_pos rfl]
  exact hQ
theorem L_2 (R : RC iv p cs hs t) (M : RM iv cs hs t) (hi : i + 4 ≤ sc.1) (hL : sc.1 ≤ 2048) : Lw sc i 196 p iv := by
  obtain ⟨iv1, p1, R1, F1, e1⟩ := k_res (sc := sc) (x := sc.2 (i + 1)) (y := sc.2 (i + 2)) (v := .null) R
  obtain ⟨iv2, M2, F2, e2⟩ := M_res (sc := sc) (p := p1) (x := sc.2 (i + 1)) (y := sc.2 (i + 2)) (M.up F1)
  have v1 : vp_in (nI (i + 1)) sc.1 := vp_in_nI (by omega) (by omega)
  have c1 : (nI (i + 1)).toNatClampNeg = i + 1 := nI_clamp (by omega)
  have v2 : vp_in (nI (i + 2)) sc.1 := vp_in_nI (by omega) (by omega)
  have c2 : (nI (i + 2)).toNatClampNeg = i + 2 := nI_clamp (by omega)
  refine ⟨iv2, p1, _, _, _, R1.up F2, M2, fun Q hQ => ?_⟩
  simp only [u152_196, u152_197, u152_198, u152_199, u152_200, u152_201, u152_202, u152_203, u152_204, u152_205, u152_206, u152_207, zl_o9, v1, zl_q1, c1, v2, zl_q2, c2]
  refine e1 _ ?_
  simp only [Option.toList_some, Option.toList_none, List.cons_append, List.nil_append, zRef_some, true_and, and_true, true_or, or_true, i10, i01, u152_210, u152_211, u152_212, u152_213, u152_214, u152_215, u152_216, u152_217, u152_218, u152_219, u152_220, u152_221, zl_o10, v1, zl_q1, c1, v2, zl_q2, c2]
  refine e2 _ ?_
  simp only [Option.toList_some, Option.toList_none, List.cons_append, List.nil_append, zRef_some, true_and, and_true, true_or, or_true, i10, i01]
  rw [u152_224, if_pos rfl]
  exact hQ
theorem L_3 (R : RC iv p cs hs t) (M : RM iv cs hs t) (hi : i + 4 ≤ sc.1) (hL : sc.1 ≤ 2048) : Lw sc i 229 p iv := by
  obtain ⟨iv1, p1, R1, F1, e1⟩ := k_bound (sc := sc) (x := sc.2 (i + 1)) (y := sc.2 (i + 2)) (z := sc.2 (i + 3)) (v := .null) R
  obtain ⟨iv2, M2, F2, e2⟩ := M_bound (sc := sc) (p := p1) (x := sc.2 (i + 1)) (y := sc.2 (i + 2)) (z := sc.2 (i + 3)) (M.up F1)
  have v1 : vp_in (nI (i + 1)) sc.1 := vp_in_nI (by omega) (by omega)
  have c1 : (nI (i + 1)).toNatClampNeg = i + 1 := nI_clamp (by omega)
  have v2 : vp_in (nI (i + 2)) sc.1 := vp_in_nI (by omega) (by omega)
  have c2 : (nI (i + 2)).toNatClampNeg = i + 2 := nI_clamp (by omega)
  have v3 : vp_in (nI (i + 3)) sc.1 := vp_in_nI (by omega) (by omega)
  have c3 : (nI (i + 3)).toNatClampNeg = i + 3 := nI_clamp (by omega)
  refine ⟨iv2, p1, _, _, _, R1.up F2, M2, fun Q hQ => ?_⟩
  simp only [u152_229, u152_230, u152_231, u152_232, u152_233, u152_234, u152_235, u152_236, u152_237, u152_238, u152_239, u152_240, u152_241, u152_242, u152_243, u152_244, u152_245, zl_o9, v1, zl_q1, c1, v2, zl_q2, c2, v3, zl_q3, c3]
  refine e1 _ ?_
  simp only [Option.toList_some, Option.toList_none, List.cons_append, List.nil_append, zRef_some, true_and, and_true, true_or, or_true, i10, i01, u152_248, u152_249, u152_250, u152_251, u152_252, u152_253, u152_254, u152_255, u152_256, u152_257, u152_258, u152_259, u152_260, u152_261, u152_262, u152_263, u152_264, zl_o10, v1, zl_q1, c1, v2, zl_q2, c2, v3, zl_q3, c3]
  refine e2 _ ?_
  simp only [Option.toList_some, Option.toList_none, List.cons_append, List.nil_append, zRef_some, true_and, and_true, true_or, or_true, i10, i01]
  rw [u152_267, if_pos rfl]
  exact hQ
theorem L_4 (R : RC iv p cs hs t) (M : RM iv cs hs t) (hi : i + 4 ≤ sc.1) (hL : sc.1 ≤ 2048) : Lw sc i 272 p iv := by
  obtain ⟨iv1, p1, R1, F1, e1⟩ := k_tie (sc := sc) (x := sc.2 (i + 1)) (v := .null) R
  obtain ⟨iv2, M2, F2, e2⟩ := M_tie (sc := sc) (p := p1) (x := sc.2 (i + 1)) (M.up F1)
  have v1 : vp_in (nI (i + 1)) sc.1 := vp_in_nI (by omega) (by omega)
  have c1 : (nI (i + 1)).toNatClampNeg = i + 1 := nI_clamp (by omega)
  refine ⟨iv2, p1, _, _, _, R1.up F2, M2, fun Q hQ => ?_⟩
  simp only [u152_272, u152_273, u152_274, u152_275, u152_276, u152_277, u152_278, zl_o9, v1, zl_q1, c1]
  refine e1 _ ?_
  simp only [Option.toList_some, Option.toList_none, List.cons_append, List.nil_append, zRef_some, true_and, and_true, true_or, or_true, i10, i01, u152_281, u152_282, u152_283, u152_284, u152_285, u152_286, u152_287, zl_o10, v1, zl_q1, c1]
  refine e2 _ ?_
  simp only [Option.toList_some, Option.toList_none, List.cons_append, List.nil_append, zRef_some, true_and, and_true, true_or, or_true, i10, i01]
  rw [u152_290, if_pos rfl]
  exact hQ
theorem L_5 (R : RC iv p cs hs t) (M : RM iv cs hs t) (hi : i + 4 ≤ sc.1) (hL : sc.1 ≤ 2048) : Lw sc i 295 p iv := by
  obtain ⟨iv1, p1, R1, F1, e1⟩ := k_alloc (sc := sc) (x := sc.2 (i + 1)) (y := sc.2 (i + 2)) (v := .null) R
  obtain ⟨iv2, M2, F2, e2⟩ := M_alloc (sc := sc) (p := p1) (x := sc.2 (i + 1)) (y := sc.2 (i + 2)) (M.up F1)
  have v1 : vp_in (nI (i + 1)) sc.1 := vp_in_nI (by omega) (by omega)
  have c1 : (nI (i + 1)).toNatClampNeg = i + 1 := nI_clamp (by omega)
  have v2 : vp_in (nI (i + 2)) sc.1 := vp_in_nI (by omega) (by omega)
  have c2 : (nI (i + 2)).toNatClampNeg = i + 2 := nI_clamp (by omega)
  refine ⟨iv2, p1, _, _, _, R1.up F2, M2, fun Q hQ => ?_⟩
  simp only [u152_295, u152_296, u152_297, u152_298, u152_299, u152_300, u152_301, u152_302, u152_303, u152_304, u152_305, u152_306, zl_o9, v1, zl_q1, c1, v2, zl_q2, c2]
  refine e1 _ ?_
  simp only [Option.toList_some, Option.toList_none, List.cons_append, List.nil_append, zRef_some, true_and, and_true, true_or, or_true, i10, i01, u152_309, u152_310, u152_311, u152_312, u152_313, u152_314, u152_315, u152_316, u152_317, u152_318, u152_319, u152_320, zl_o10, v1, zl_q1, c1, v2, zl_q2, c2]
  refine e2 _ ?_
  simp only [Option.toList_some, Option.toList_none, List.cons_append, List.nil_append, zRef_some, true_and, and_true, true_or, or_true, i10, i01]
  rw [u152_323, if_pos rfl]
  exact hQ
theorem L_6 (R : RC iv p cs hs t) (M : RM iv cs hs t) (hi : i + 4 ≤ sc.1) (hL : sc.1 ≤ 2048) : Lw sc i 328 p iv := by
  obtain ⟨iv1, p1, R1, F1, e1⟩ := k_gains (sc := sc) (x := sc.2 (i + 1)) (y := sc.2 (i + 2)) (v := .null) R
  obtain ⟨iv2, M2, F2, e2⟩ := M_gains (sc := sc) (p := p1) (x := sc.2 (i + 1)) (y := sc.2 (i + 2)) (M.up F1)
  have v1 : vp_in (nI (i + 1)) sc.1 := vp_in_nI (by omega) (by omega)
  have c1 : (nI (i + 1)).toNatClampNeg = i + 1 := nI_clamp (by omega)
  have v2 : vp_in (nI (i + 2)) sc.1 := vp_in_nI (by omega) (by omega)
  have c2 : (nI (i + 2)).toNatClampNeg = i + 2 := nI_clamp (by omega)
  refine ⟨iv2, p1, _, _, _, R1.up F2, M2, fun Q hQ => ?_⟩
  simp only [u152_328, u152_329, u152_330, u152_331, u152_332, u152_333, u152_334, u152_335, u152_336, u152_337, u152_338, u152_339, zl_o9, v1, zl_q1, c1, v2, zl_q2, c2]
  refine e1 _ ?_
  simp only [Option.toList_some, Option.toList_none, List.cons_append, List.nil_append, zRef_some, true_and, and_true, true_or, or_true, i10, i01, u152_342, u152_343, u152_344, u152_345, u152_346, u152_347, u152_348, u152_349, u152_350, u152_351, u152_352, u152_353, zl_o10, v1, zl_q1, c1, v2, zl_q2, c2]
  refine e2 _ ?_
  simp only [Option.toList_some, Option.toList_none, List.cons_append, List.nil_append, zRef_some, true_and, and_true, true_or, or_true, i10, i01]
  rw [u152_356, if_pos rfl]
  exact hQ
theorem L_7 (R : RC iv p cs hs t) (M : RM iv cs hs t) (hi : i + 4 ≤ sc.1) (hL : sc.1 ≤ 2048) : Lw sc i 361 p iv := by
  obtain ⟨iv1, p1, R1, F1, e1⟩ := k_better (sc := sc) (x := sc.2 (i + 1)) (y := sc.2 (i + 2)) (v3 := .null) (v4 := .null) (v5 := .null) R
  obtain ⟨iv2, M2, F2, e2⟩ := M_better (sc := sc) (p := p1) (x := sc.2 (i + 1)) (y := sc.2 (i + 2)) (v3 := .null) (M.up F1)
  have v1 : vp_in (nI (i + 1)) sc.1 := vp_in_nI (by omega) (by omega)
  have c1 : (nI (i + 1)).toNatClampNeg = i + 1 := nI_clamp (by omega)
  have v2 : vp_in (nI (i + 2)) sc.1 := vp_in_nI (by omega) (by omega)
  have c2 : (nI (i + 2)).toNatClampNeg = i + 2 := nI_clamp (by omega)
  refine ⟨iv2, p1, _, _, _, R1.up F2, M2, fun Q hQ => ?_⟩
  simp only [u152_361, u152_362, u152_363, u152_364, u152_365, u152_366, u152_367, u152_368, u152_369, u152_370, u152_371, u152_372, zl_o9, v1, zl_q1, c1, v2, zl_q2, c2]
  refine e1 _ ?_
  simp only [Option.toList_some, Option.toList_none, List.cons_append, List.nil_append, zRef_some, true_and, and_true, true_or, or_true, i10, i01, u152_375, u152_376, u152_377, u152_378, u152_379, u152_380, u152_381, u152_382, u152_383, u152_384, u152_385, u152_386, zl_o10, v1, zl_q1, c1, v2, zl_q2, c2]
  refine e2 _ ?_
  simp only [Option.toList_some, Option.toList_none, List.cons_append, List.nil_append, zRef_some, true_and, and_true, true_or, or_true, i10, i01]
  rw [u152_389, if_pos rfl]
  exact hQ
theorem L_8 (R : RC iv p cs hs t) (M : RM iv cs hs t) (hi : i + 4 ≤ sc.1) (hL : sc.1 ≤ 2048) : Lw sc i 394 p iv := by
  obtain ⟨iv1, p1, R1, F1, e1⟩ := k_put (sc := sc) (x := sc.2 (i + 1)) (y := sc.2 (i + 2)) (z := sc.2 (i + 3)) (v4 := .null) (v5 := .null) R
  obtain ⟨iv2, M2, F2, e2⟩ := M_put (sc := sc) (p := p1) (x := sc.2 (i + 1)) (y := sc.2 (i + 2)) (z := sc.2 (i + 3)) (M.up F1)
  have v1 : vp_in (nI (i + 1)) sc.1 := vp_in_nI (by omega) (by omega)
  have c1 : (nI (i + 1)).toNatClampNeg = i + 1 := nI_clamp (by omega)
  have v2 : vp_in (nI (i + 2)) sc.1 := vp_in_nI (by omega) (by omega)
  have c2 : (nI (i + 2)).toNatClampNeg = i + 2 := nI_clamp (by omega)
  have v3 : vp_in (nI (i + 3)) sc.1 := vp_in_nI (by omega) (by omega)
  have c3 : (nI (i + 3)).toNatClampNeg = i + 3 := nI_clamp (by omega)
  refine ⟨iv2, p1, _, _, _, R1.up F2, M2, fun Q hQ => ?_⟩
  simp only [u152_394, u152_395, u152_396, u152_397, u152_398, u152_399, u152_400, u152_401, u152_402, u152_403, u152_404, u152_405, u152_406, u152_407, u152_408, u152_409, u152_410, zl_o9, v1, zl_q1, c1, v2, zl_q2, c2, v3, zl_q3, c3]
  refine e1 _ ?_
  simp only [Option.toList_some, Option.toList_none, List.cons_append, List.nil_append, zRef_some, true_and, and_true, true_or, or_true, i10, i01, u152_413, u152_414, u152_415, u152_416, u152_417, u152_418, u152_419, u152_420, u152_421, u152_422, u152_423, u152_424, u152_425, u152_426, u152_427, u152_428, u152_429, zl_o10, v1, zl_q1, c1, v2, zl_q2, c2, v3, zl_q3, c3]
  refine e2 _ ?_
  simp only [Option.toList_some, Option.toList_none, List.cons_append, List.nil_append, zRef_some, true_and, and_true, true_or, or_true, i10, i01]
  rw [u152_432, if_pos rfl]
  exact hQ
theorem L_9 (R : RC iv p cs hs t) (M : RM iv cs hs t) (hi : i + 4 ≤ sc.1) (hL : sc.1 ≤ 2048) : Lw sc i 437 p iv := by
  obtain ⟨iv1, p1, R1, F1, e1⟩ := k_take (sc := sc) (x := sc.2 (i + 1)) (y := sc.2 (i + 2)) (v3 := .null) (v4 := .null) R
  obtain ⟨iv2, M2, F2, e2⟩ := M_take (sc := sc) (p := p1) (x := sc.2 (i + 1)) (y := sc.2 (i + 2)) (v3 := .null) (M.up F1)
  have v1 : vp_in (nI (i + 1)) sc.1 := vp_in_nI (by omega) (by omega)
  have c1 : (nI (i + 1)).toNatClampNeg = i + 1 := nI_clamp (by omega)
  have v2 : vp_in (nI (i + 2)) sc.1 := vp_in_nI (by omega) (by omega)
  have c2 : (nI (i + 2)).toNatClampNeg = i + 2 := nI_clamp (by omega)
  refine ⟨iv2, p1, _, _, _, R1.up F2, M2, fun Q hQ => ?_⟩
  simp only [u152_437, u152_438, u152_439, u152_440, u152_441, u152_442, u152_443, u152_444, u152_445, u152_446, u152_447, u152_448, zl_o9, v1, zl_q1, c1, v2, zl_q2, c2]
  refine e1 _ ?_
  simp only [Option.toList_some, Option.toList_none, List.cons_append, List.nil_append, zRef_some, true_and, and_true, true_or, or_true, i10, i01, u152_451, u152_452, u152_453, u152_454, u152_455, u152_456, u152_457, u152_458, u152_459, u152_460, u152_461, u152_462, zl_o10, v1, zl_q1, c1, v2, zl_q2, c2]
  refine e2 _ ?_
  simp only [Option.toList_some, Option.toList_none, List.cons_append, List.nil_append, zRef_some, true_and, and_true, true_or, or_true, i10, i01]
  rw [u152_465, if_pos rfl]
  exact hQ
theorem L_10 (R : RC iv p cs hs t) (M : RM iv cs hs t) (hi : i + 4 ≤ sc.1) (hL : sc.1 ≤ 2048) : Lw sc i 470 p iv := by
  obtain ⟨iv1, p1, R1, F1, e1⟩ := k_round (sc := sc) (x := sc.2 (i + 1)) (v2 := .null) (v3 := .null) (v4 := .null) R
  obtain ⟨iv2, M2, F2, e2⟩ := M_round (sc := sc) (p := p1) (x := sc.2 (i + 1)) (M.up F1)
  have v1 : vp_in (nI (i + 1)) sc.1 := vp_in_nI (by omega) (by omega)
  have c1 : (nI (i + 1)).toNatClampNeg = i + 1 := nI_clamp (by omega)
  refine ⟨iv2, p1, _, _, _, R1.up F2, M2, fun Q hQ => ?_⟩
  simp only [u152_470, u152_471, u152_472, u152_473, u152_474, u152_475, u152_476, zl_o9, v1, zl_q1, c1]
  refine e1 _ ?_
  simp only [Option.toList_some, Option.toList_none, List.cons_append, List.nil_append, zRef_some, true_and, and_true, true_or, or_true, i10, i01, u152_479, u152_480, u152_481, u152_482, u152_483, u152_484, u152_485, zl_o10, v1, zl_q1, c1]
  refine e2 _ ?_
  simp only [Option.toList_some, Option.toList_none, List.cons_append, List.nil_append, zRef_some, true_and, and_true, true_or, or_true, i10, i01]
  rw [u152_488, if_pos rfl]
  exact hQ
theorem L_11 (R : RC iv p cs hs t) (M : RM iv cs hs t) (hi : i + 4 ≤ sc.1) (hL : sc.1 ≤ 2048) : Lw sc i 493 p iv := by
  obtain ⟨iv1, p1, R1, F1, e1⟩ := k_mixOf (sc := sc) (x := sc.2 (i + 1)) (y := sc.2 (i + 2)) (w := sc.2 (i + 3)) (v := .null) R
  obtain ⟨iv2, M2, F2, e2⟩ := M_mixOf (sc := sc) (p := p1) (x := sc.2 (i + 1)) (y := sc.2 (i + 2)) (w := sc.2 (i + 3)) (M.up F1)
  have v1 : vp_in (nI (i + 1)) sc.1 := vp_in_nI (by omega) (by omega)
  have c1 : (nI (i + 1)).toNatClampNeg = i + 1 := nI_clamp (by omega)
  have v2 : vp_in (nI (i + 2)) sc.1 := vp_in_nI (by omega) (by omega)
  have c2 : (nI (i + 2)).toNatClampNeg = i + 2 := nI_clamp (by omega)
  have v3 : vp_in (nI (i + 3)) sc.1 := vp_in_nI (by omega) (by omega)
  have c3 : (nI (i + 3)).toNatClampNeg = i + 3 := nI_clamp (by omega)
  refine ⟨iv2, p1, _, _, _, R1.up F2, M2, fun Q hQ => ?_⟩
  simp only [u152_493, u152_494, u152_495, u152_496, u152_497, u152_498, u152_499, u152_500, u152_501, u152_502, u152_503, u152_504, u152_505, u152_506, u152_507, u152_508, u152_509, zl_o9, v1, zl_q1, c1, v2, zl_q2, c2, v3, zl_q3, c3]
  refine e1 _ ?_
  simp only [Option.toList_some, Option.toList_none, List.cons_append, List.nil_append, zRef_some, true_and, and_true, true_or, or_true, i10, i01, u152_512, u152_513, u152_514, u152_515, u152_516, u152_517, u152_518, u152_519, u152_520, u152_521, u152_522, u152_523, u152_524, u152_525, u152_526, u152_527, u152_528, zl_o10, v1, zl_q1, c1, v2, zl_q2, c2, v3, zl_q3, c3]
  refine e2 _ ?_
  simp only [Option.toList_some, Option.toList_none, List.cons_append, List.nil_append, zRef_some, true_and, and_true, true_or, or_true, i10, i01]
  rw [u152_531, if_pos rfl]
  exact hQ
theorem L_12 (R : RC iv p cs hs t) (M : RM iv cs hs t) (hi : i + 4 ≤ sc.1) (hL : sc.1 ≤ 2048) : Lw sc i 536 p iv := by
  obtain ⟨iv1, p1, R1, F1, e1⟩ := k_marg (sc := sc) (x := sc.2 (i + 1)) (y := sc.2 (i + 2)) (z := sc.2 (i + 3)) (v4 := .null) (v5 := .null) (v6 := .null) R
  obtain ⟨iv2, M2, F2, e2⟩ := M_marg (sc := sc) (p := p1) (x := sc.2 (i + 1)) (y := sc.2 (i + 2)) (z := sc.2 (i + 3)) (v4 := .null) (v5 := .null) (M.up F1)
  have v1 : vp_in (nI (i + 1)) sc.1 := vp_in_nI (by omega) (by omega)
  have c1 : (nI (i + 1)).toNatClampNeg = i + 1 := nI_clamp (by omega)
  have v2 : vp_in (nI (i + 2)) sc.1 := vp_in_nI (by omega) (by omega)
  have c2 : (nI (i + 2)).toNatClampNeg = i + 2 := nI_clamp (by omega)
  have v3 : vp_in (nI (i + 3)) sc.1 := vp_in_nI (by omega) (by omega)
  have c3 : (nI (i + 3)).toNatClampNeg = i + 3 := nI_clamp (by omega)
  refine ⟨iv2, p1, _, _, _, R1.up F2, M2, fun Q hQ => ?_⟩
  simp only [u152_536, u152_537, u152_538, u152_539, u152_540, u152_541, u152_542, u152_543, u152_544, u152_545, u152_546, u152_547, u152_548, u152_549, u152_550, u152_551, u152_552, zl_o9, v1, zl_q1, c1, v2, zl_q2, c2, v3, zl_q3, c3]
  refine e1 _ ?_
  simp only [Option.toList_some, Option.toList_none, List.cons_append, List.nil_append, zRef_some, true_and, and_true, true_or, or_true, i10, i01, u152_555, u152_556, u152_557, u152_558, u152_559, u152_560, u152_561, u152_562, u152_563, u152_564, u152_565, u152_566, u152_567, u152_568, u152_569, u152_570, u152_571, zl_o10, v1, zl_q1, c1, v2, zl_q2, c2, v3, zl_q3, c3]
  refine e2 _ ?_
  simp only [Option.toList_some, Option.toList_none, List.cons_append, List.nil_append, zRef_some, true_and, and_true, true_or, or_true, i10, i01]
  rw [u152_574, if_pos rfl]
  exact hQ
theorem L_13 (R : RC iv p cs hs t) (M : RM iv cs hs t) (hi : i + 4 ≤ sc.1) (hL : sc.1 ≤ 2048) : Lw sc i 579 p iv := by
  obtain ⟨iv1, p1, R1, F1, e1⟩ := k_mean (sc := sc) (x := sc.2 (i + 1)) (y := sc.2 (i + 2)) (z := sc.2 (i + 3)) (v4 := .null) (v5 := .null) (v6 := .null) R
  obtain ⟨iv2, M2, F2, e2⟩ := M_mean (sc := sc) (p := p1) (x := sc.2 (i + 1)) (y := sc.2 (i + 2)) (z := sc.2 (i + 3)) (v4 := .null) (v5 := .null) (M.up F1)
  have v1 : vp_in (nI (i + 1)) sc.1 := vp_in_nI (by omega) (by omega)
  have c1 : (nI (i + 1)).toNatClampNeg = i + 1 := nI_clamp (by omega)
  have v2 : vp_in (nI (i + 2)) sc.1 := vp_in_nI (by omega) (by omega)
  have c2 : (nI (i + 2)).toNatClampNeg = i + 2 := nI_clamp (by omega)
  have v3 : vp_in (nI (i + 3)) sc.1 := vp_in_nI (by omega) (by omega)
  have c3 : (nI (i + 3)).toNatClampNeg = i + 3 := nI_clamp (by omega)
  refine ⟨iv2, p1, _, _, _, R1.up F2, M2, fun Q hQ => ?_⟩
  simp only [u152_579, u152_580, u152_581, u152_582, u152_583, u152_584, u152_585, u152_586, u152_587, u152_588, u152_589, u152_590, u152_591, u152_592, u152_593, u152_594, u152_595, zl_o9, v1, zl_q1, c1, v2, zl_q2, c2, v3, zl_q3, c3]
  refine e1 _ ?_
  simp only [Option.toList_some, Option.toList_none, List.cons_append, List.nil_append, zRef_some, true_and, and_true, true_or, or_true, i10, i01, u152_598, u152_599, u152_600, u152_601, u152_602, u152_603, u152_604, u152_605, u152_606, u152_607, u152_608, u152_609, u152_610, u152_611, u152_612, u152_613, u152_614, zl_o10, v1, zl_q1, c1, v2, zl_q2, c2, v3, zl_q3, c3]
  refine e2 _ ?_
  simp only [Option.toList_some, Option.toList_none, List.cons_append, List.nil_append, zRef_some, true_and, and_true, true_or, or_true, i10, i01]
  rw [u152_617, if_pos rfl]
  exact hQ
theorem L_14 (R : RC iv p cs hs t) (M : RM iv cs hs t) (hi : i + 4 ≤ sc.1) (hL : sc.1 ≤ 2048) : Lw sc i 622 p iv := by
  obtain ⟨iv1, p1, R1, F1, e1⟩ := k_exp (sc := sc) (x := sc.2 (i + 1)) (v := .null) R
  obtain ⟨iv2, M2, F2, e2⟩ := M_exp (sc := sc) (p := p1) (x := sc.2 (i + 1)) (M.up F1)
  have v1 : vp_in (nI (i + 1)) sc.1 := vp_in_nI (by omega) (by omega)
  have c1 : (nI (i + 1)).toNatClampNeg = i + 1 := nI_clamp (by omega)
  refine ⟨iv2, p1, _, _, _, R1.up F2, M2, fun Q hQ => ?_⟩
  simp only [u152_622, u152_623, u152_624, u152_625, u152_626, u152_627, u152_628, zl_o9, v1, zl_q1, c1]
  refine e1 _ ?_
  simp only [Option.toList_some, Option.toList_none, List.cons_append, List.nil_append, zRef_some, true_and, and_true, true_or, or_true, i10, i01, u152_631, u152_632, u152_633, u152_634, u152_635, u152_636, u152_637, zl_o10, v1, zl_q1, c1]
  refine e2 _ ?_
  simp only [Option.toList_some, Option.toList_none, List.cons_append, List.nil_append, zRef_some, true_and, and_true, true_or, or_true, i10, i01]
  rw [u152_640, if_pos rfl]
  exact hQ
theorem L_15 (R : RC iv p cs hs t) (M : RM iv cs hs t) (hi : i + 4 ≤ sc.1) (hL : sc.1 ≤ 2048) : Lw sc i 645 p iv := by
  obtain ⟨iv1, p1, R1, F1, e1⟩ := k_reply (sc := sc) (x := sc.2 (i + 1)) (w := sc.2 (i + 2)) R
  obtain ⟨iv2, M2, F2, e2⟩ := M_reply (sc := sc) (p := p1) (x := sc.2 (i + 1)) (w := sc.2 (i + 2)) (v3 := .null) (M.up F1)
  have v1 : vp_in (nI (i + 1)) sc.1 := vp_in_nI (by omega) (by omega)
  have c1 : (nI (i + 1)).toNatClampNeg = i + 1 := nI_clamp (by omega)
  have v2 : vp_in (nI (i + 2)) sc.1 := vp_in_nI (by omega) (by omega)
  have c2 : (nI (i + 2)).toNatClampNeg = i + 2 := nI_clamp (by omega)
  refine ⟨iv2, p1, _, _, _, R1.up F2, M2, fun Q hQ => ?_⟩
  simp only [u152_645, u152_646, u152_647, u152_648, u152_649, u152_650, u152_651, u152_652, u152_653, u152_654, u152_655, u152_656, zl_o9, v1, zl_q1, c1, v2, zl_q2, c2]
  refine e1 _ ?_
  simp only [Option.toList_some, Option.toList_none, List.cons_append, List.nil_append, zRef_some, true_and, and_true, true_or, or_true, i10, i01, u152_659, u152_660, u152_661, u152_662, u152_663, u152_664, u152_665, u152_666, u152_667, u152_668, u152_669, u152_670, zl_o10, v1, zl_q1, c1, v2, zl_q2, c2]
  refine e2 _ ?_
  simp only [Option.toList_some, Option.toList_none, List.cons_append, List.nil_append, zRef_some, true_and, and_true, true_or, or_true, i10, i01]
  rw [u152_673, if_pos rfl]
  exact hQ
theorem L_16 (R : RC iv p cs hs t) (M : RM iv cs hs t) (hi : i + 4 ≤ sc.1) (hL : sc.1 ≤ 2048) : Lw sc i 678 p iv := by
  obtain ⟨iv1, p1, R1, F1, e1⟩ := k_could (sc := sc) (x := sc.2 (i + 1)) (z := sc.2 (i + 2)) (v3 := .null) (v4 := .null) (v5 := .null) R
  obtain ⟨iv2, M2, F2, e2⟩ := M_could (sc := sc) (p := p1) (x := sc.2 (i + 1)) (z := sc.2 (i + 2)) (v3 := .null) (v4 := .null) (M.up F1)
  have v1 : vp_in (nI (i + 1)) sc.1 := vp_in_nI (by omega) (by omega)
  have c1 : (nI (i + 1)).toNatClampNeg = i + 1 := nI_clamp (by omega)
  have v2 : vp_in (nI (i + 2)) sc.1 := vp_in_nI (by omega) (by omega)
  have c2 : (nI (i + 2)).toNatClampNeg = i + 2 := nI_clamp (by omega)
  refine ⟨iv2, p1, _, _, _, R1.up F2, M2, fun Q hQ => ?_⟩
  simp only [u152_678, u152_679, u152_680, u152_681, u152_682, u152_683, u152_684, u152_685, u152_686, u152_687, u152_688, u152_689, zl_o9, v1, zl_q1, c1, v2, zl_q2, c2]
  refine e1 _ ?_
  simp only [Option.toList_some, Option.toList_none, List.cons_append, List.nil_append, zRef_some, true_and, and_true, true_or, or_true, i10, i01, u152_692, u152_693, u152_694, u152_695, u152_696, u152_697, u152_698, u152_699, u152_700, u152_701, u152_702, u152_703, zl_o10, v1, zl_q1, c1, v2, zl_q2, c2]
  refine e2 _ ?_
  simp only [Option.toList_some, Option.toList_none, List.cons_append, List.nil_append, zRef_some, true_and, and_true, true_or, or_true, i10, i01]
  rw [u152_706, if_pos rfl]
  exact hQ
theorem L_17 (R : RC iv p cs hs t) (M : RM iv cs hs t) (hi : i + 4 ≤ sc.1) (hL : sc.1 ≤ 2048) : Lw sc i 711 p iv := by
  obtain ⟨iv1, p1, R1, F1, e1⟩ := k_count (sc := sc) (x := sc.2 (i + 1)) R
  obtain ⟨iv2, M2, F2, e2⟩ := M_count (sc := sc) (p := p1) (x := sc.2 (i + 1)) (v2 := .null) (M.up F1)
  have v1 : vp_in (nI (i + 1)) sc.1 := vp_in_nI (by omega) (by omega)
  have c1 : (nI (i + 1)).toNatClampNeg = i + 1 := nI_clamp (by omega)
  refine ⟨iv2, p1, _, _, _, R1.up F2, M2, fun Q hQ => ?_⟩
  simp only [u152_711, u152_712, u152_713, u152_714, u152_715, u152_716, u152_717, zl_o9, v1, zl_q1, c1]
  refine e1 _ ?_
  simp only [Option.toList_some, Option.toList_none, List.cons_append, List.nil_append, zRef_some, true_and, and_true, true_or, or_true, i10, i01, u152_720, u152_721, u152_722, u152_723, u152_724, u152_725, u152_726, zl_o10, v1, zl_q1, c1]
  refine e2 _ ?_
  simp only [Option.toList_some, Option.toList_none, List.cons_append, List.nil_append, zRef_some, true_and, and_true, true_or, or_true, i10, i01]
  rw [u152_729, if_pos rfl]
  exact hQ
theorem L_18 (R : RC iv p cs hs t) (M : RM iv cs hs t) (hi : i + 4 ≤ sc.1) (hL : sc.1 ≤ 2048) : Lw sc i 734 p iv := by
  obtain ⟨iv1, p1, R1, F1, e1⟩ := k_undo (sc := sc)  R
  obtain ⟨iv2, M2, F2, e2⟩ := M_undo (sc := sc) (p := p1) (v1 := .null) (M.up F1)
  refine ⟨iv2, p1, _, _, _, R1.up F2, M2, fun Q hQ => ?_⟩
  simp only [u152_734, u152_735, zl_o9]
  refine e1 _ ?_
  simp only [Option.toList_some, Option.toList_none, List.cons_append, List.nil_append, zRef_some, true_and, and_true, true_or, or_true, i10, i01, u152_738, u152_739, zl_o10]
  refine e2 _ ?_
  simp only [Option.toList_some, Option.toList_none, List.cons_append, List.nil_append, zRef_some, true_and, and_true, true_or, or_true, i10, i01]
  rw [u152_742, if_pos rfl]
  exact hQ
theorem L_19 (R : RC iv p cs hs t) (M : RM iv cs hs t) (hi : i + 4 ≤ sc.1) (hL : sc.1 ≤ 2048) : Lw sc i 747 p iv := by
  obtain ⟨iv1, p1, R1, F1, e1⟩ := k_type (sc := sc) (x := sc.2 (i + 1)) R
  obtain ⟨iv2, M2, F2, e2⟩ := M_type (sc := sc) (p := p1) (x := sc.2 (i + 1)) (M.up F1)
  have v1 : vp_in (nI (i + 1)) sc.1 := vp_in_nI (by omega) (by omega)
  have c1 : (nI (i + 1)).toNatClampNeg = i + 1 := nI_clamp (by omega)
  refine ⟨iv2, p1, _, _, _, R1.up F2, M2, fun Q hQ => ?_⟩
  simp only [u152_747, u152_748, u152_749, u152_750, u152_751, u152_752, u152_753, zl_o9, v1, zl_q1, c1]
  refine e1 _ ?_
  simp only [Option.toList_some, Option.toList_none, List.cons_append, List.nil_append, zRef_some, true_and, and_true, true_or, or_true, i10, i01, u152_756, u152_757, u152_758, u152_759, u152_760, u152_761, u152_762, zl_o10, v1, zl_q1, c1]
  refine e2 _ ?_
  simp only [Option.toList_some, Option.toList_none, List.cons_append, List.nil_append, zRef_some, true_and, and_true, true_or, or_true, i10, i01]
  rw [u152_765, if_pos rfl]
  exact hQ
theorem L_20 (R : RC iv p cs hs t) (M : RM iv cs hs t) (hi : i + 4 ≤ sc.1) (hL : sc.1 ≤ 2048) : Lw sc i 770 p iv := by
  obtain ⟨iv1, p1, R1, F1, e1⟩ := k_clear (sc := sc) (v := .null) R
  obtain ⟨iv2, M2, F2, e2⟩ := M_clear (sc := sc) (p := p1) (v1 := .null) (M.up F1)
  refine ⟨iv2, p1, _, _, _, R1.up F2, M2, fun Q hQ => ?_⟩
  simp only [u152_770, u152_771, zl_o9]
  refine e1 _ ?_
  simp only [Option.toList_some, Option.toList_none, List.cons_append, List.nil_append, zRef_some, true_and, and_true, true_or, or_true, i10, i01, u152_774, u152_775, zl_o10]
  refine e2 _ ?_
  simp only [Option.toList_some, Option.toList_none, List.cons_append, List.nil_append, zRef_some, true_and, and_true, true_or, or_true, i10, i01]
  rw [u152_778, if_pos rfl]
  exact hQ
theorem L_21 (R : RC iv p cs hs t) (M : RM iv cs hs t) (hi : i + 4 ≤ sc.1) (hL : sc.1 ≤ 2048) : Lw sc i 783 p iv := by
  obtain ⟨iv1, p1, R1, F1, e1⟩ := k_fault (sc := sc) (x := sc.2 (i + 1)) R
  obtain ⟨iv2, M2, F2, e2⟩ := M_fault (sc := sc) (p := p1) (x := sc.2 (i + 1)) (v2 := .null) (v3 := .null) (M.up F1)
  have v1 : vp_in (nI (i + 1)) sc.1 := vp_in_nI (by omega) (by omega)
  have c1 : (nI (i + 1)).toNatClampNeg = i + 1 := nI_clamp (by omega)
  refine ⟨iv2, p1, _, _, _, R1.up F2, M2, fun Q hQ => ?_⟩
  simp only [u152_783, u152_784, u152_785, u152_786, u152_787, u152_788, u152_789, zl_o9, v1, zl_q1, c1]
  refine e1 _ ?_
  simp only [Option.toList_some, Option.toList_none, List.cons_append, List.nil_append, zRef_some, true_and, and_true, true_or, or_true, i10, i01, u152_792, u152_793, u152_794, u152_795, u152_796, u152_797, u152_798, zl_o10, v1, zl_q1, c1]
  refine e2 _ ?_
  simp only [Option.toList_some, Option.toList_none, List.cons_append, List.nil_append, zRef_some, true_and, and_true, true_or, or_true, i10, i01]
  rw [u152_801, if_pos rfl]
  exact hQ
theorem L_22 (R : RC iv p cs hs t) (M : RM iv cs hs t) (hi : i + 4 ≤ sc.1) (hL : sc.1 ≤ 2048) : Lw sc i 806 p iv := by
  obtain ⟨iv1, p1, R1, F1, e1⟩ := k_read (sc := sc)  R
  obtain ⟨iv2, M2, F2, e2⟩ := M_read (sc := sc) (p := p1)  (M.up F1)
  refine ⟨iv2, p1, _, _, _, R1.up F2, M2, fun Q hQ => ?_⟩
  simp only [u152_806, u152_807, zl_o9]
  refine e1 _ ?_
  simp only [Option.toList_some, Option.toList_none, List.cons_append, List.nil_append, zRef_some, true_and, and_true, true_or, or_true, i10, i01, u152_810, u152_811, zl_o10]
  refine e2 _ ?_
  simp only [Option.toList_some, Option.toList_none, List.cons_append, List.nil_append, zRef_some, true_and, and_true, true_or, or_true, i10, i01]
  rw [u152_814, if_pos rfl]
  exact hQ
theorem zl_31 (x : Int32) : ∃ v, v < 32 ∧ x &&& 31 = nI v := by
  refine ⟨x.toBitVec.toNat % 32, Nat.mod_lt _ (by omega), ?_⟩
  apply Int32.toBitVec_inj.mp
  apply BitVec.eq_of_toNat_eq
  have e1 : (x &&& 31).toBitVec = x.toBitVec &&& 31#32 := rfl
  have e2 : (nI (x.toBitVec.toNat % 32)).toBitVec = BitVec.ofNat 32 (x.toBitVec.toNat % 32) := rfl
  rw [e1, e2, BitVec.toNat_and, BitVec.toNat_ofNat, BitVec.toNat_ofNat]
  have e3 : x.toBitVec.toNat &&& (2 ^ 5 - 1) = x.toBitVec.toNat % 2 ^ 5 := Nat.and_two_pow_sub_one_eq_mod _ 5
  have e4 : x.toBitVec.toNat % 32 < 32 := Nat.mod_lt _ (by omega)
  have e5 : (31 : Nat) % 2 ^ 32 = 2 ^ 5 - 1 := by decide
  rw [e5, e3]
  show x.toBitVec.toNat % 32 = x.toBitVec.toNat % 32 % 2 ^ 32
  omega
theorem L_all (R : RC iv p cs hs t) (M : RM iv cs hs t) (hi : i + 4 ≤ sc.1) (hL : sc.1 ≤ 2048) : ∃ iv2 p2 cs2 hs2 t2, RC iv2 p2 cs2 hs2 t2 ∧ RM iv2 cs2 hs2 t2 ∧ ∀ Q : Option Value → zA → Prop, zEv sc 152 819 [.ref 0, .ref 1, .ref 91, .int (nI i)] [] (zst p2 iv2) Q → zEv sc 152 26 [.ref 0, .ref 1, .ref 91, .int (nI i)] [] (zst p iv) Q := by
  have v0 : vp_in (nI i) sc.1 := vp_in_nI (by omega) (by omega)
  have c0 : (nI i).toNatClampNeg = i := nI_clamp (by omega)
  obtain ⟨v, hv, ev⟩ := zl_31 (sc.2 i)
  have head : ∀ Q, zEv sc 152 32 [.ref 0, .ref 1, .ref 91, .int (nI i)] [.int (nI v)] (zst p iv) Q → zEv sc 152 26 [.ref 0, .ref 1, .ref 91, .int (nI i)] [] (zst p iv) Q := by
    intro Q hQ
    rw [u152_26, u152_27, u152_28 v0, u152_29, u152_31, c0, ev]
    exact hQ
  by_cases g : v < 23
  · have key : ∀ pc, (∀ Q, zEv sc 152 32 [.ref 0, .ref 1, .ref 91, .int (nI i)] [.int (nI v)] (zst p iv) Q ↔ zEv sc 152 pc [.ref 0, .ref 1, .ref 91, .int (nI i)] [] (zst p iv) Q) → Lw sc i pc p iv → ∃ iv2 p2 cs2 hs2 t2, RC iv2 p2 cs2 hs2 t2 ∧ RM iv2 cs2 hs2 t2 ∧ ∀ Q : Option Value → zA → Prop, zEv sc 152 819 [.ref 0, .ref 1, .ref 91, .int (nI i)] [] (zst p2 iv2) Q → zEv sc 152 26 [.ref 0, .ref 1, .ref 91, .int (nI i)] [] (zst p iv) Q := by
      intro pc e l
      obtain ⟨iv2, p2, cs2, hs2, t2, a1, a2, a3⟩ := l
      exact ⟨iv2, p2, cs2, hs2, t2, a1, a2, fun Q hQ => head Q ((e Q).mpr (a3 Q hQ))⟩
    rcases (show v = 0 ∨ v = 1 ∨ v = 2 ∨ v = 3 ∨ v = 4 ∨ v = 5 ∨ v = 6 ∨ v = 7 ∨ v = 8 ∨ v = 9 ∨ v = 10 ∨ v = 11 ∨ v = 12 ∨ v = 13 ∨ v = 14 ∨ v = 15 ∨ v = 16 ∨ v = 17 ∨ v = 18 ∨ v = 19 ∨ v = 20 ∨ v = 21 ∨ v = 22 by omega) with rfl | rfl | rfl | rfl | rfl | rfl | rfl | rfl | rfl | rfl | rfl | rfl | rfl | rfl | rfl | rfl | rfl | rfl | rfl | rfl | rfl | rfl | rfl
    · exact key _ (fun Q => u152_32_0) (L_0 R M hi hL)
    · exact key _ (fun Q => u152_32_1) (L_1 R M hi hL)
    · exact key _ (fun Q => u152_32_2) (L_2 R M hi hL)
    · exact key _ (fun Q => u152_32_3) (L_3 R M hi hL)
    · exact key _ (fun Q => u152_32_4) (L_4 R M hi hL)
    · exact key _ (fun Q => u152_32_5) (L_5 R M hi hL)
    · exact key _ (fun Q => u152_32_6) (L_6 R M hi hL)
    · exact key _ (fun Q => u152_32_7) (L_7 R M hi hL)
    · exact key _ (fun Q => u152_32_8) (L_8 R M hi hL)
    · exact key _ (fun Q => u152_32_9) (L_9 R M hi hL)
    · exact key _ (fun Q => u152_32_10) (L_10 R M hi hL)
    · exact key _ (fun Q => u152_32_11) (L_11 R M hi hL)
    · exact key _ (fun Q => u152_32_12) (L_12 R M hi hL)
    · exact key _ (fun Q => u152_32_13) (L_13 R M hi hL)
    · exact key _ (fun Q => u152_32_14) (L_14 R M hi hL)
    · exact key _ (fun Q => u152_32_15) (L_15 R M hi hL)
    · exact key _ (fun Q => u152_32_16) (L_16 R M hi hL)
    · exact key _ (fun Q => u152_32_17) (L_17 R M hi hL)
    · exact key _ (fun Q => u152_32_18) (L_18 R M hi hL)
    · exact key _ (fun Q => u152_32_19) (L_19 R M hi hL)
    · exact key _ (fun Q => u152_32_20) (L_20 R M hi hL)
    · exact key _ (fun Q => u152_32_21) (L_21 R M hi hL)
    · exact key _ (fun Q => u152_32_22) (L_22 R M hi hL)
  · refine ⟨iv, p, cs, hs, t, R, M, fun Q hQ => head Q ?_⟩
    rw [u152_32_d (Or.inr (by rw [nI_toInt (by omega)]; omega))]
    exact hQ
def lQ : Option Value → zA → Prop := fun r h => r = some (.int 1) ∧ h.1 ≤ 600000 ∧ h.2.1 ≤ 7302250
theorem zl_end {L i : Nat} (hL : L ≤ 2048) (hi : i ≤ 2048) : (Int32.ofNat L - 4 < nI i) ↔ L < i + 4 := by
  rw [Int32.lt_iff_toInt_lt, show Int32.ofNat L - 4 = nI L - nI 4 from rfl, pk_sub_toInt (by omega) (by omega), nI_toInt (by omega)]
  omega
theorem law_loop (hL : sc.1 ≤ 2048) : ∀ d i (p : Nat → Option Nat) (iv : Nat → Nat → Int32) (cs : CS) (hs : List CS) (t : List Nat), sc.1 - i ≤ d → i ≤ sc.1 → RC iv p cs hs t → RM iv cs hs t → zEv sc 152 18 [.ref 0, .ref 1, .ref 91, .int (nI i)] [] (zst p iv) lQ := by
  intro d
  induction d with
  | zero =>
    intro i p iv cs hs t hd hi R M
    rw [u152_18, u152_19, u152_20, u152_21, u152_22, u152_23, if_pos ((zl_end hL (by omega)).mpr (by omega)), u152_825, u152_826]
    refine ⟨Or.inr rfl, rfl, ?_, ?_⟩
    · show 97 ≤ 600000
      omega
    · exact Nat.le_trans zc_ok.2.2.2.2.1 (by omega)
  | succ d ih =>
    intro i p iv cs hs t hd hi R M
    rw [u152_18, u152_19, u152_20, u152_21, u152_22, u152_23]
    by_cases g : sc.1 < i + 4
    · rw [if_pos ((zl_end hL (by omega)).mpr g), u152_825, u152_826]
      refine ⟨Or.inr rfl, rfl, ?_, ?_⟩
      · show 97 ≤ 600000
        omega
      · exact Nat.le_trans zc_ok.2.2.2.2.1 (by omega)
    · rw [if_neg (fun z => g ((zl_end hL (by omega)).mp z))]
      obtain ⟨iv2, p2, cs2, hs2, t2, a1, a2, a3⟩ := L_all (sc := sc) (i := i) R M (by omega) hL
      refine a3 _ ?_
      rw [u152_819, u152_822, zl_q4]
      exact ih (i + 4) p2 iv2 cs2 hs2 t2 (by omega) (by omega) a1 a2
end ZL
theorem law_runs {sc : Nat × (Nat → Int32)} (hL : sc.1 ≤ 2048) : zEv sc 152 0 [.ref 0, .null, .null, .null] [] z_h0 lQ := z_begin (law_loop hL sc.1 0 p0 iv0 cs0 [] [] (by omega) (by omega) RC0 RM0)
/-- YOUR PART: from the entry, for every script of at most 2048 ints, the law comes to its end with true -/
theorem whole_start {p : Program} {e : Env} {s : State} {m : MethodId} {below : List Frame} {meth : Method} {c : Code} (l : Launch) (hflags : l.flags = flags0) {b L : Nat} {xs : Nat → Int32} (hL : L ≤ 2048) (C0 : lw_At p s m meth c b L xs) : W p l e room_1 s m #[Value.ref b] below meth c s.heap [] 0 0 (lw_Z below #[Value.ref b] s) (entryFrame m ([Value.ref b] : List Value).toArray 4) := by
  obtain ⟨n, ⟨r, h9⟩, hrun, e1, e2, e3⟩ := law_runs (sc := (L, xs)) hL
  have e1 : r = some (.int 1) := e1
  subst e1
  exact z_start l C0 hrun e2 e3
