/-! ===== the law's 'acts': each act ===== -/
theorem c_ia : eIA < 0 := by decide
theorem c_np : eNP < 0 := by decide
theorem c_lr : eLR < 0 := by decide
theorem n_ia : ¬ (0 : Int32) ≤ eIA := by decide
theorem n_np : ¬ (0 : Int32) ≤ eNP := by decide
theorem n_lr : ¬ (0 : Int32) ≤ eLR := by decide
theorem a2 (p : Nat) : 2 + nI p = nI (2 + p) := nI_add 2 p
theorem a1 (p : Nat) : 1 + nI p = nI (1 + p) := nI_add 1 p
theorem e_2 {P : Nat} (h : P < 1000) : (nI P = 2) ↔ P = 2 := nI_eq (b := 2) (by omega) (by omega)
section ZAC
variable {sc : Nat × (Nat → Int32)} {cs : CS} {hs : List CS} {t : List Nat} {y : Int32} {l1 l3 l8 l9 l10 : Value} {P q n a : Nat}
/-- from here the act comes to its end with true, and nothing but rNext is left of it -/
def ZA (sc : Nat × (Nat → Int32)) (pc : Nat) (L S : List Value) (cs : CS) (hs : List CS) (t : List Nat) : Prop := ∃ cs' hs' t', rNext cs hs cs' hs' ∧ ZR sc 92 pc L S cs hs t (.int 1, cs', hs', t')
theorem act_put (hsk : sOk cs) (hP : P < 3) (hq2 : q < 2) (hq : P < 2 → q = P) (ha : a < 9000) (hn : n ≠ 0 → alw (cN cs) (cB cs q) a (cR cs q) = true) : ZA sc 68 [.ref 1, l1, .int y, l3, .int (nI P), .int (nI q), .int (nI n), .int (nI a), l8, l9, l10] [] cs hs t := by
  have hw : loN (y >>> (8 &&& 31)) 101 < 101 := lo_lt (by omega)
  have m0 := hsk.2 q hq2
  have head : ∀ E, ZR sc 92 99 [.ref 1, l1, .int y, l3, .int (nI P), .int (nI q), .int (nI n), .int (nI a), .int (nI (loN (y >>> (8 &&& 31)) 101)), .int (nI (cM cs q).length), l10] [.int (sPut cs (nI P) (nI a) (nI (loN (y >>> (8 &&& 31)) 101))).1] (nC cs (sPut cs (nI P) (nI a) (nI (loN (y >>> (8 &&& 31)) 101)))) (nH cs hs (sPut cs (nI P) (nI a) (nI (loN (y >>> (8 &&& 31)) 101)))) t E → ZR sc 92 68 [.ref 1, l1, .int y, l3, .int (nI P), .int (nI q), .int (nI n), .int (nI a), l8, l9, l10] [] cs hs t E := by
    intro E hE
    rw [v92_68, v92_69, v92_71, v92_72, v92_74 nz_101, lo_101, v92_77, v92_79, v92_80, v92_81, v92_83]
    refine v92_84 ?_
    rw [cnt_5q hsk.1 hq2, v92_87, v92_89, v92_90, v92_92, v92_94]
    exact v92_96 hE
  generalize loN (y >>> (8 &&& 31)) 101 = w at hw head
  have fin : ∀ {l1 l2 l3 l4 l5 l6 l7 l8 l9 l10 : Value} {c : CS} {h : List CS}, ZR sc 92 150 [.ref 1, l1, l2, l3, l4, l5, l6, l7, l8, l9, l10] [] c h t (.int 1, c, h, t) := by
    intro l1 l2 l3 l4 l5 l6 l7 l8 l9 l10 c h
    rw [v92_150, v92_151]
    exact v92_187 (Or.inr rfl)
  rcases put_cases hsk hP hq ha hw hn with ⟨e, hc⟩ | ⟨hP2, e, hl⟩ | ⟨hP2, had, c', e, hh, hl⟩
  · rw [e] at head
    refine ⟨cs, hs, t, Or.inl ⟨rfl, rfl⟩, head _ ?_⟩
    show ZR sc 92 99 _ [.int eIA] cs hs t _
    rw [v92_99, v92_101, v92_103, if_neg n_ia, v92_106, v92_108, v92_110, if_neg (fun z => z rfl), v92_113, v92_115, v92_116]
    by_cases c1 : nI P = 2
    · rw [if_pos c1]
      exact fin
    · rw [if_neg c1, v92_119, v92_121]
      by_cases c2 : nI w = 0
      · rw [if_pos c2]
        exact fin
      · rw [if_neg c2, v92_124, v92_126, v92_128]
        by_cases c3 : nI w = 100
        · rw [if_pos c3]
          exact fin
        · rw [if_neg c3, v92_131, v92_133, if_pos]
          · exact fin
          · rcases hc with rfl | rfl | rfl | rfl
            · exact absurd rfl c1
            · exact absurd rfl c2
            · exact absurd rfl c3
            · rfl
  · have hq := hq hP2
    subst hq
    rw [e] at head
    refine ⟨cs, hs, t, Or.inl ⟨rfl, rfl⟩, head _ ?_⟩
    show ZR sc 92 99 _ [.int eLR] cs hs t _
    rw [v92_99, v92_101, v92_103, if_neg n_lr, v92_106, v92_108, v92_110, if_pos (by decide), v92_136, v92_138, v92_140, if_neg (fun z => z rfl), v92_143, v92_145, v92_147, if_neg (fun z => z (by rw [hl]; rfl))]
    exact fin
  · have hq := hq hP2
    subst hq
    rw [e] at head
    refine ⟨c', hRec hs cs, t, Or.inr rfl, head _ ?_⟩
    show ZR sc 92 99 _ [.int (nI had)] c' (hRec hs cs) t _
    refine ZR_of fun hsk' _ _ => ?_
    rw [v92_99, v92_101, v92_103, if_pos (nI_pos' (by omega)), v92_158, v92_159, v92_160, v92_162]
    refine v92_163 ?_
    rw [cnt_5q hsk'.1 hP2, hl, v92_166, v92_168, v92_170]
    have e0 : (nI had = 0) ↔ had = 0 := nI_eq (b := 0) (by omega) (by omega)
    by_cases c : had = 0
    · rw [if_neg (fun z => z (e0.mpr c)), v92_173, v92_174, v92_178, if_pos c, v92_179, if_neg (fun z => z (nI_1 _).symm), v92_182, v92_183]
      exact v92_187 (Or.inr rfl)
    · rw [if_pos (fun z => c (e0.mp z)), v92_177, v92_178, if_neg c, v92_179, if_neg (fun z => z (nI_add _ 0).symm), v92_182, v92_183]
      exact v92_187 (Or.inr rfl)
theorem act_take (hsk : sOk cs) (hP : P < 3) (hq2 : q < 2) (hq : P < 2 → q = P) (ha : a < 9000) (hn : n ≠ 0 → alw (cN cs) (cB cs q) a (cR cs q) = true) : ZA sc 194 [.ref 1, l1, .int y, l3, .int (nI P), .int (nI q), .int (nI n), .int (nI a), l8, l9, l10] [] cs hs t := by
  have m0 := hsk.2 q hq2
  have hl0 := m0.1
  have head : ∀ E, ZR sc 92 212 [.ref 1, l1, .int y, l3, .int (nI P), .int (nI q), .int (nI n), .int (nI a), .int (nI (cM cs q).length), l9, l10] [.int (sTake cs (nI P) (nI a)).1] (nC cs (sTake cs (nI P) (nI a))) (nH cs hs (sTake cs (nI P) (nI a))) t E → ZR sc 92 194 [.ref 1, l1, .int y, l3, .int (nI P), .int (nI q), .int (nI n), .int (nI a), l8, l9, l10] [] cs hs t E := by
    intro E hE
    rw [v92_194, v92_195, v92_196, v92_198]
    refine v92_199 ?_
    rw [cnt_5q hsk.1 hq2, v92_202, v92_204, v92_205, v92_207]
    exact v92_209 hE
  have fin : ∀ {l1 l2 l3 l4 l5 l6 l7 l8 l9 l10 : Value} {c : CS} {h : List CS}, ZR sc 92 244 [.ref 1, l1, l2, l3, l4, l5, l6, l7, l8, l9, l10] [] c h t (.int 1, c, h, t) := by
    intro l1 l2 l3 l4 l5 l6 l7 l8 l9 l10 c h
    rw [v92_244, v92_245]
    exact v92_277 (Or.inr rfl)
  rcases take_cases hsk hP hq ha hn with ⟨e, hc⟩ | e | ⟨hP2, had, c', e, h0, hh, hl, hl2⟩
  · rw [e] at head
    refine ⟨cs, hs, t, Or.inl ⟨rfl, rfl⟩, head _ ?_⟩
    show ZR sc 92 212 _ [.int eIA] cs hs t _
    rw [v92_212, v92_214, v92_216, if_neg n_ia, v92_219, v92_221, v92_223, if_neg (fun z => z rfl), v92_226, v92_228, v92_229]
    by_cases c1 : nI P = 2
    · rw [if_pos c1]
      exact fin
    · rw [if_neg c1, v92_232, v92_234, if_pos]
      · exact fin
      · rcases hc with rfl | rfl
        · exact absurd rfl c1
        · rfl
  · rw [e] at head
    refine ⟨cs, hs, t, Or.inl ⟨rfl, rfl⟩, head _ ?_⟩
    show ZR sc 92 212 _ [.int eNP] cs hs t _
    rw [v92_212, v92_214, v92_216, if_neg n_np, v92_219, v92_221, v92_223, if_pos (by decide), v92_237, v92_239, v92_241, if_neg (fun z => z rfl)]
    exact fin
  · have hq := hq hP2
    subst hq
    rw [e] at head
    refine ⟨c', hRec hs cs, t, Or.inr rfl, head _ ?_⟩
    show ZR sc 92 212 _ [.int (nI had)] c' (hRec hs cs) t _
    refine ZR_of fun hsk' _ _ => ?_
    rw [v92_212, v92_214, v92_216, if_pos (nI_pos' (by omega)), v92_252, v92_254, if_neg (nI_nle h0 (by omega)), v92_257, v92_258, v92_259, v92_261]
    refine v92_262 ?_
    have em : nI (cM cs q).length - 1 = nI ((cM cs q).length - 1) := by rw [show (1 : Int32) = nI 1 from rfl, pk_sub (by omega)]
    rw [cnt_5q hsk'.1 hP2, hl2, v92_265, v92_267, v92_268, em, v92_269, if_neg (fun z => z rfl), v92_272, v92_273]
    exact v92_277 (Or.inr rfl)
theorem act_round (hsk : sOk cs) {l4 l5 l6 l7 : Value} : ZA sc 284 [.ref 1, l1, .int y, l3, l4, l5, l6, l7, l8, l9, l10] [] cs hs t := by
  have m0 := hsk.2 0 (by omega)
  have hs0 := (mSum_ok m0).1
  have key : ∀ m, m ≤ 21 → ZA sc 312 [.ref 1, l1, .int y, l3, l4, l5, l6, l7, l8, l9, l10] [.int (nI m)] cs hs t := by
    intro m hm
    have head : ∀ E, ZR sc 92 328 [.ref 1, l1, .int y, l3, l4, l5, l6, l7, .int (nI m), .int (nI (mSum (cM cs 0))), l10] [.int (sRound cs (nI m)).1] (nC cs (sRound cs (nI m))) (nH cs hs (sRound cs (nI m))) t E → ZR sc 92 312 [.ref 1, l1, .int y, l3, l4, l5, l6, l7, l8, l9, l10] [.int (nI m)] cs hs t E := by
      intro E hE
      rw [v92_312, v92_314, v92_315]
      refine v92_317 ?_
      rw [cnt_7 hsk.1, v92_320, v92_322, v92_323]
      exact v92_325 hE
    have e0 : (nI m = 0) ↔ m = 0 := nI_eq (b := 0) (by omega) (by omega)
    have e21 : (nI m = 21) ↔ m = 21 := nI_eq (b := 21) (by omega) (by omega)
    rcases round_cases (cs := cs) hm with ⟨hc, e⟩ | ⟨h0, h21, hc⟩
    · rw [e] at head
      refine ⟨cs, hs, t, Or.inl ⟨rfl, rfl⟩, head _ ?_⟩
      show ZR sc 92 328 _ [.int eIA] cs hs t _
      have f2 : ZR sc 92 342 [.ref 1, l1, .int y, l3, l4, l5, l6, l7, .int (nI m), .int (nI (mSum (cM cs 0))), .int eIA] [] cs hs t (.int 1, cs, hs, t) := by
        rw [v92_342, v92_344, v92_346, if_neg (fun z => z rfl), v92_349, v92_350]
        exact v92_420 (Or.inr rfl)
      rw [v92_328, v92_330, v92_332]
      by_cases c : m = 0
      · rw [if_pos (e0.mpr c)]
        exact f2
      · rw [if_neg (fun z => c (e0.mp z)), v92_335, v92_337, v92_339, if_neg (fun z => z (e21.mpr (hc.resolve_left c)))]
        exact f2
    · have pre : ∀ {v : Int32} {c : CS} {h : List CS} {E}, ZR sc 92 357 [.ref 1, l1, .int y, l3, l4, l5, l6, l7, .int (nI m), .int (nI (mSum (cM cs 0))), .int v] [] c h t E → ZR sc 92 328 [.ref 1, l1, .int y, l3, l4, l5, l6, l7, .int (nI m), .int (nI (mSum (cM cs 0))), l10] [.int v] c h t E := by
        intro v c h E hE
        rw [v92_328, v92_330, v92_332, if_neg (fun z => h0 (e0.mp z)), v92_335, v92_337, v92_339, if_pos (fun z => h21 (e21.mp z))]
        exact hE
      rcases hc with e | e | ⟨d, e, hd⟩
      · rw [e] at head
        refine ⟨cs, hs, t, Or.inl ⟨rfl, rfl⟩, head _ (pre ?_)⟩
        show ZR sc 92 357 [.ref 1, l1, .int y, l3, l4, l5, l6, l7, .int (nI m), .int (nI (mSum (cM cs 0))), .int eNP] [] cs hs t _
        rw [v92_357, v92_359, if_neg n_np, v92_362, v92_364, v92_366, if_pos (show eNP = -1000002 from rfl), v92_376, v92_377]
        exact v92_420 (Or.inr rfl)
      · rw [e] at head
        refine ⟨cs, hs, t, Or.inl ⟨rfl, rfl⟩, head _ (pre ?_)⟩
        show ZR sc 92 357 [.ref 1, l1, .int y, l3, l4, l5, l6, l7, .int (nI m), .int (nI (mSum (cM cs 0))), .int eLR] [] cs hs t _
        rw [v92_357, v92_359, if_neg n_lr, v92_362, v92_364, v92_366, if_neg (by decide), v92_369, v92_371, v92_373, if_neg (fun z => z rfl), v92_376, v92_377]
        exact v92_420 (Or.inr rfl)
      · rw [e] at head
        refine ⟨d, hRec hs cs, t, Or.inr rfl, head _ (pre ?_)⟩
        show ZR sc 92 357 [.ref 1, l1, .int y, l3, l4, l5, l6, l7, .int (nI m), .int (nI (mSum (cM cs 0))), .int (szM d)] [] d (hRec hs cs) t _
        refine ZR_of fun hsk' _ _ => ?_
        have k0 := (hsk'.2 0 (by omega)).1
        have k1 := (hsk'.2 1 (by omega)).1
        have es : szM d = nI ((cM d 0).length + (cM d 1).length) := rfl
        rw [v92_357, v92_359, es, if_pos (nI_pos' (by omega)), v92_384, v92_385]
        refine v92_387 ?_
        rw [cnt_7 hsk'.1, hd, v92_390, v92_392, v92_394, nI_add, v92_395, if_neg (fun z => z rfl), v92_398, v92_400, v92_401]
        refine v92_402 ?_
        rw [cnt_5 hsk'.1, v92_405, v92_406]
        refine v92_408 ?_
        rw [cnt_6 hsk'.1, v92_411, nI_add, v92_412, if_neg (fun z => z rfl), v92_415, v92_416]
        exact v92_420 (Or.inr rfl)
  by_cases c : nI (loN y 4) = 0
  · have hb := lo_lt (x := y >>> (2 &&& 31)) (show 0 < 22 by omega)
    obtain ⟨c', h', t', r, g⟩ := key (loN (y >>> (2 &&& 31)) 22) (by omega)
    refine ⟨c', h', t', r, ?_⟩
    rw [v92_284, v92_285, v92_286 nz_4, lo_4, v92_289, if_neg (fun z => z c), v92_292, v92_293, v92_294, v92_295, v92_297 nz_22, lo_22, v92_300]
    exact g
  · have hb := lo_lt (x := y >>> (2 &&& 31)) (show 0 < 3 by omega)
    obtain ⟨c', h', t', r, g⟩ := key (1 + loN (y >>> (2 &&& 31)) 3) (by omega)
    refine ⟨c', h', t', r, ?_⟩
    rw [v92_284, v92_285, v92_286 nz_4, lo_4, v92_289, if_pos c, v92_303, v92_304, v92_305, v92_306, v92_307, v92_308 nz_3, lo_3, v92_311, a1]
    exact g
theorem act_value (hsk : sOk cs) {l4 l5 l6 l7 : Value} : ZA sc 427 [.ref 1, l1, .int y, l3, l4, l5, l6, l7, l8, l9, l10] [] cs hs t := by
  have ho := hsk.1
  have hN := ho.2.1
  have hN2 := ho.1
  have hf := lo_lt (x := y) (show 0 < 5 by omega)
  have hv := lo_lt (x := y >>> (3 &&& 31)) (show 0 < 11 by omega)
  have h1 : ∀ E, ZR sc 92 444 [.ref 1, l1, .int y, l3, l4, l5, l6, l7, .int (nI (loN y 5)), .int (nI (loN (y >>> (3 &&& 31)) 11)), l10] [] cs hs t E → ZR sc 92 427 [.ref 1, l1, .int y, l3, l4, l5, l6, l7, l8, l9, l10] [] cs hs t E := by
    intro E hE
    rw [v92_427, v92_428, v92_429 nz_5, lo_5, v92_432, v92_434, v92_435, v92_436, v92_437, v92_439 nz_11, lo_11, v92_442]
    exact hE
  generalize loN y 5 = f at hf h1
  generalize loN (y >>> (3 &&& 31)) 11 = v at hv h1
  have fin : ∀ {l1 l2 l3 l4 l5 l6 l7 l8 l9 l10 : Value} {x : Int32} {c : CS} {h : List CS}, ZR sc 92 506 [.ref 1, l1, l2, l3, l4, l5, l6, l7, l8, l9, l10] [.int x, .int x] c h t (.int 1, c, h, t) := by
    intro l1 l2 l3 l4 l5 l6 l7 l8 l9 l10 x c h
    rw [v92_506, if_neg (fun z => z rfl), v92_509, v92_510]
    exact v92_514 (Or.inr rfl)
  by_cases c : f < cN cs
  · have h2 : ∀ E, ZR sc 92 477 [.ref 1, l1, .int y, l3, l4, l5, l6, l7, .int (nI f), .int (nI v), .int (nI (cV cs f))] [.int (sValue cs (nI f) (nI v)).1] (nC cs (sValue cs (nI f) (nI v))) (nH cs hs (sValue cs (nI f) (nI v))) t E → ZR sc 92 444 [.ref 1, l1, .int y, l3, l4, l5, l6, l7, .int (nI f), .int (nI v), l10] [] cs hs t E := by
      intro E hE
      rw [v92_444, v92_445, v92_447, v92_449, v92_450]
      refine v92_451 ?_
      rw [cnt_0 ho, v92_454, if_neg (nI_ge c (by omega)), v92_457, v92_459, v92_463]
      refine v92_464 ?_
      rw [cnt_20 ho c, v92_467, v92_469, v92_470, v92_472]
      exact v92_474 hE
    by_cases c1 : v = 0 ∨ v = 10
    · rw [value_no2 c1] at h2
      refine ⟨cs, hs, t, Or.inl ⟨rfl, rfl⟩, h1 _ (h2 _ ?_)⟩
      show ZR sc 92 477 _ [.int eIA] cs hs t _
      rw [v92_477, v92_479, v92_480]
      refine v92_481 ?_
      rw [cnt_0 ho, v92_484, if_neg (nI_ge c (by omega)), v92_487, v92_489]
      by_cases c2 : nI v = 0
      · rw [if_pos c2, v92_499, v92_501]
        exact fin
      · have e10 : nI v = 10 := by
          rcases c1 with rfl | rfl
          · exact absurd rfl c2
          · rfl
        rw [if_neg c2, v92_492, v92_494, v92_496, if_neg (fun z => z e10), v92_499, v92_501]
        exact fin
    · have e0 : ¬ nI v = 0 := fun z => c1 (Or.inl ((nI_eq (b := 0) (by omega) (by omega)).mp z))
      have e10 : ¬ nI v = 10 := fun z => c1 (Or.inr ((nI_eq (b := 10) (by omega) (by omega)).mp z))
      rw [value_ok ho c (by omega) (by omega)] at h2
      refine ⟨setV cs f v, hRec hs cs, t, Or.inr rfl, h1 _ (h2 _ ?_)⟩
      show ZR sc 92 477 _ [.int (nI (cV cs f))] (setV cs f v) (hRec hs cs) t _
      refine ZR_of fun hsk' _ _ => ?_
      rw [v92_477, v92_479, v92_480]
      refine v92_481 ?_
      have eN : cN (setV cs f v) = cN cs := rfl
      rw [cnt_0 hsk'.1, eN, v92_484, if_neg (nI_ge c (by omega)), v92_487, v92_489, if_neg e0, v92_492, v92_494, v92_496, if_pos e10, v92_504]
      exact fin
  · have hge : nI (cN cs) ≤ nI f := nI_le (by omega) (by omega)
    have h2 : ∀ E, ZR sc 92 477 [.ref 1, l1, .int y, l3, l4, l5, l6, l7, .int (nI f), .int (nI v), .int (nI (cV cs 0))] [.int (sValue cs (nI f) (nI v)).1] (nC cs (sValue cs (nI f) (nI v))) (nH cs hs (sValue cs (nI f) (nI v))) t E → ZR sc 92 444 [.ref 1, l1, .int y, l3, l4, l5, l6, l7, .int (nI f), .int (nI v), l10] [] cs hs t E := by
      intro E hE
      rw [v92_444, v92_445, v92_447, v92_449, v92_450]
      refine v92_451 ?_
      rw [cnt_0 ho, v92_454, if_pos hge, v92_462, v92_463]
      refine v92_464 ?_
      rw [show (20 : Int32) + 0 = 20 + nI 0 from rfl, cnt_20 ho (by omega), v92_467, v92_469, v92_470, v92_472]
      exact v92_474 hE
    rw [value_no ho (by omega) (by omega)] at h2
    refine ⟨cs, hs, t, Or.inl ⟨rfl, rfl⟩, h1 _ (h2 _ ?_)⟩
    show ZR sc 92 477 _ [.int eIA] cs hs t _
    rw [v92_477, v92_479, v92_480]
    refine v92_481 ?_
    rw [cnt_0 ho, v92_484, if_pos hge, v92_499, v92_501]
    exact fin
theorem act_res (hsk : sOk cs) (hP : P < 3) (hq2 : q < 2) (hq : P < 2 → q = P) {l6 l7 : Value} : ZA sc 521 [.ref 1, l1, .int y, l3, .int (nI P), .int (nI q), l6, l7, l8, l9, l10] [] cs hs t := by
  have hr := lo_lt (x := y) (show 0 < 10 by omega)
  have hl0 := (hsk.2 q hq2).1
  have head : ∀ E, ZR sc 92 543 [.ref 1, l1, .int y, l3, .int (nI P), .int (nI q), l6, l7, .int (nI (cM cs q).length), l9, l10] [.int (sRes cs (nI P) (nI (loN y 10))).1] (nC cs (sRes cs (nI P) (nI (loN y 10)))) (nH cs hs (sRes cs (nI P) (nI (loN y 10)))) t E → ZR sc 92 521 [.ref 1, l1, .int y, l3, .int (nI P), .int (nI q), l6, l7, l8, l9, l10] [] cs hs t E := by
    intro E hE
    rw [v92_521, v92_522, v92_523, v92_525]
    refine v92_526 ?_
    rw [cnt_5q hsk.1 hq2, v92_529, v92_531, v92_532, v92_534, v92_535, v92_537 nz_10, lo_10]
    exact v92_540 hE
  by_cases c : P = 2 ∨ loN y 10 = 9
  · rw [res_no hP hr c] at head
    refine ⟨cs, hs, t, Or.inl ⟨rfl, rfl⟩, head _ ?_⟩
    show ZR sc 92 543 _ [.int eIA] cs hs t _
    rw [v92_543, v92_545, v92_547, if_neg n_ia, v92_550, v92_552, v92_554, if_neg (fun z => z rfl), v92_557, v92_559, v92_560]
    by_cases c1 : nI P = 2
    · rw [if_pos c1, v92_574, v92_575]
      exact v92_607 (Or.inr rfl)
    · have e9 : nI (loN y 10) = 9 := by
        rcases c with rfl | c
        · exact absurd rfl c1
        · rw [c]; rfl
      rw [if_neg c1, v92_563, v92_564, v92_566 nz_10, lo_10, v92_569, v92_571, if_neg (fun z => z e9), v92_574, v92_575]
      exact v92_607 (Or.inr rfl)
  · have hP2 : P < 2 := by omega
    have hq := hq hP2
    subst hq
    obtain ⟨c', e, hl⟩ := res_ok (cs := cs) hP2 (show loN y 10 ≤ 8 by omega)
    rw [e] at head
    refine ⟨c', hRec hs cs, t, Or.inr rfl, head _ ?_⟩
    show ZR sc 92 543 _ [.int (nI (cM c' q).length)] c' (hRec hs cs) t _
    refine ZR_of fun hsk' _ _ => ?_
    rw [v92_543, v92_545, v92_547, if_pos (nI_pos' (by omega)), v92_582, v92_584, v92_586, if_neg (nI_nlt hl (by omega)), v92_589, v92_591, v92_592, v92_593, v92_595]
    refine v92_596 ?_
    rw [cnt_5q hsk'.1 hP2, v92_599, if_neg (fun z => z rfl), v92_602, v92_603]
    exact v92_607 (Or.inr rfl)
theorem act_bound (hsk : sOk cs) (hP : P < 3) {l5 l6 l7 : Value} : ZA sc 614 [.ref 1, l1, .int y, l3, .int (nI P), l5, l6, l7, l8, l9, l10] [] cs hs t := by
  have ho := hsk.1
  have hN := ho.2.1
  have hf := lo_lt (x := y) (show 0 < 5 by omega)
  have hb := lo_lt (x := y >>> (3 &&& 31)) (show 0 < 8 by omega)
  have head : ∀ E, ZR sc 92 643 [.ref 1, l1, .int y, l3, .int (nI P), l5, l6, l7, .int (nI (loN y 5)), .int (nI (2 + loN (y >>> (3 &&& 31)) 8)), l10] [.int (sBound cs (nI P) (nI (loN y 5)) (nI (2 + loN (y >>> (3 &&& 31)) 8))).1] (nC cs (sBound cs (nI P) (nI (loN y 5)) (nI (2 + loN (y >>> (3 &&& 31)) 8)))) (nH cs hs (sBound cs (nI P) (nI (loN y 5)) (nI (2 + loN (y >>> (3 &&& 31)) 8)))) t E → ZR sc 92 614 [.ref 1, l1, .int y, l3, .int (nI P), l5, l6, l7, l8, l9, l10] [] cs hs t E := by
    intro E hE
    rw [v92_614, v92_615, v92_616 nz_5, lo_5, v92_619, v92_621, v92_622, v92_623, v92_624, v92_625, v92_627 nz_8, lo_8, v92_630, a2, v92_631, v92_633, v92_634, v92_636, v92_638]
    exact v92_640 hE
  generalize loN y 5 = f at hf head
  generalize loN (y >>> (3 &&& 31)) 8 = b0 at hb head
  by_cases c : P = 2 ∨ cN cs ≤ f ∨ 2 + b0 = 9
  · rw [bound_no ho (by omega) c] at head
    refine ⟨cs, hs, t, Or.inl ⟨rfl, rfl⟩, head _ ?_⟩
    show ZR sc 92 643 _ [.int eIA] cs hs t _
    rw [v92_643, v92_645, v92_647, if_neg n_ia, v92_650, v92_652, v92_654, if_neg (fun z => z rfl), v92_657, v92_659, v92_660]
    by_cases c1 : nI P = 2
    · rw [if_pos c1, v92_680, v92_681]
      exact v92_726 (Or.inr rfl)
    · rw [if_neg c1, v92_663, v92_665, v92_666]
      refine v92_667 ?_
      rw [cnt_0 ho, v92_670]
      by_cases c2 : nI (cN cs) ≤ nI f
      · rw [if_pos c2, v92_680, v92_681]
        exact v92_726 (Or.inr rfl)
      · have e9 : nI (2 + b0) = 9 := by
          rcases c with rfl | c | c
          · exact absurd rfl c1
          · exact absurd (nI_le c (by omega)) c2
          · rw [c]; rfl
        rw [if_neg c2, v92_673, v92_675, v92_677, if_neg (fun z => z e9), v92_680, v92_681]
        exact v92_726 (Or.inr rfl)
  · have hP2 : P < 2 := by omega
    obtain ⟨c', e, hB, hN'⟩ := bound_ok ho hP2 (show f < cN cs by omega) (show 2 + b0 ≤ 8 by omega)
    rw [e] at head
    refine ⟨c', hRec hs cs, t, Or.inr rfl, head _ ?_⟩
    show ZR sc 92 643 _ [.int (nI (cM c' P).length)] c' (hRec hs cs) t _
    refine ZR_of fun hsk' _ _ => ?_
    have k0 := (hsk'.2 P hP2).1
    rw [v92_643, v92_645, v92_647, if_pos (nI_pos' (by omega)), v92_688, v92_690, v92_691, v92_692, v92_694]
    refine v92_695 ?_
    rw [cnt_5q hsk'.1 hP2, v92_698, if_neg (fun z => z rfl), v92_701, v92_702, v92_704, v92_706, v92_708, v92_709, v92_710, v92_712]
    refine v92_713 ?_
    rw [cnt_30 hsk'.1 hP2 (by omega), hB, v92_716, v92_718, if_neg (fun z => z rfl), v92_721, v92_722]
    exact v92_726 (Or.inr rfl)
theorem act_tie (hsk : sOk cs) {l4 l5 l6 l7 : Value} : ZA sc 733 [.ref 1, l1, .int y, l3, l4, l5, l6, l7, l8, l9, l10] [] cs hs t := by
  have hr := lo_lt (x := y) (show 0 < 4 by omega)
  have head : ∀ E, ZR sc 92 753 [.ref 1, l1, .int y, l3, l4, l5, l6, l7, .int (nI (cT cs)), .int (nI (loN y 4)), l10] [.int (sTie cs (nI (loN y 4))).1] (nC cs (sTie cs (nI (loN y 4)))) (nH cs hs (sTie cs (nI (loN y 4)))) t E → ZR sc 92 733 [.ref 1, l1, .int y, l3, l4, l5, l6, l7, l8, l9, l10] [] cs hs t E := by
    intro E hE
    rw [v92_733, v92_734]
    refine v92_735 ?_
    rw [cnt_2 hsk.1, v92_738, v92_740, v92_741, v92_742 nz_4, lo_4, v92_745, v92_747, v92_748]
    exact v92_750 hE
  generalize loN y 4 = r at hr head
  by_cases c : r = 3
  · subst c
    rw [tie_no] at head
    refine ⟨cs, hs, t, Or.inl ⟨rfl, rfl⟩, head _ ?_⟩
    show ZR sc 92 753 _ [.int eIA] cs hs t _
    rw [v92_753, v92_755, v92_756, if_neg (fun z => z rfl), v92_759, v92_761, v92_766, if_neg (fun z => z rfl), v92_769, v92_770]
    exact v92_774 (Or.inr rfl)
  · have e3 : ¬ nI r = 3 := fun z => c ((nI_eq (b := 3) (by omega) (by omega)).mp z)
    rw [tie_ok (show r ≤ 2 by omega)] at head
    refine ⟨setT cs r, hRec hs cs, t, Or.inr rfl, head _ ?_⟩
    show ZR sc 92 753 _ [.int (nI (cT cs))] (setT cs r) (hRec hs cs) t _
    rw [v92_753, v92_755, v92_756, if_pos e3, v92_764, v92_766, if_neg (fun z => z rfl), v92_769, v92_770]
    exact v92_774 (Or.inr rfl)
theorem act_fields (hsk : sOk cs) {l4 l5 l6 l7 : Value} : ZA sc 789 [.ref 1, l1, .int y, l3, l4, l5, l6, l7, l8, l9, l10] [] cs hs t := by
  have hm := lo_lt (x := y >>> (2 &&& 31)) (show 0 < 5 by omega)
  have head : ∀ E, ZR sc 92 813 [.ref 1, l1, .int y, l3, l4, l5, l6, l7, .int (nI (cN cs)), .int (nI (1 + loN (y >>> (2 &&& 31)) 5)), l10] [.int (sFields cs (nI (1 + loN (y >>> (2 &&& 31)) 5))).1] (nC cs (sFields cs (nI (1 + loN (y >>> (2 &&& 31)) 5)))) (nH cs hs (sFields cs (nI (1 + loN (y >>> (2 &&& 31)) 5)))) t E → ZR sc 92 789 [.ref 1, l1, .int y, l3, l4, l5, l6, l7, l8, l9, l10] [] cs hs t E := by
    intro E hE
    rw [v92_789, v92_790]
    refine v92_791 ?_
    rw [cnt_0 hsk.1, v92_794, v92_796, v92_797, v92_798, v92_799, v92_800, v92_801 nz_5, lo_5, v92_804, a1, v92_805, v92_807, v92_808]
    exact v92_810 hE
  generalize hk : 1 + loN (y >>> (2 &&& 31)) 5 = m at head
  have e1 : (nI m = 1) ↔ m = 1 := nI_eq (b := 1) (by omega) (by omega)
  have e5 : (nI m = 5) ↔ m = 5 := nI_eq (b := 5) (by omega) (by omega)
  by_cases c : m = 1 ∨ m = 5
  · rw [fields_no c] at head
    refine ⟨cs, hs, t, Or.inl ⟨rfl, rfl⟩, head _ ?_⟩
    show ZR sc 92 813 _ [.int eIA] cs hs t _
    have f2 : ZR sc 92 827 [.ref 1, l1, .int y, l3, l4, l5, l6, l7, .int (nI (cN cs)), .int (nI m), .int eIA] [] cs hs t (.int 1, cs, hs, t) := by
      rw [v92_827, v92_829, v92_831, if_neg (fun z => z rfl), v92_834, v92_835]
      exact v92_874 (Or.inr rfl)
    rw [v92_813, v92_815, v92_817, v92_818]
    by_cases c1 : m = 1
    · rw [if_pos (e1.mpr c1)]
      exact f2
    · rw [if_neg (fun z => c1 (e1.mp z)), v92_821, v92_823, v92_824, if_neg (fun z => z (e5.mpr (c.resolve_left c1)))]
      exact f2
  · rw [fields_ok (show 2 ≤ m by omega) (show m ≤ 4 by omega)] at head
    refine ⟨cFields cs m, hRec hs cs, t, Or.inr rfl, head _ ?_⟩
    show ZR sc 92 813 _ [.int (nI (cN cs))] (cFields cs m) (hRec hs cs) t _
    refine ZR_of fun hsk' _ _ => ?_
    rw [v92_813, v92_815, v92_817, v92_818, if_neg (fun z => c (Or.inl (e1.mp z))), v92_821, v92_823, v92_824, if_pos (fun z => c (Or.inr (e5.mp z))), v92_842, v92_844, v92_846, if_neg (fun z => z rfl), v92_849, v92_850]
    refine v92_851 ?_
    have eN : cN (cFields cs m) = m := rfl
    have eV : vSum (cV (cFields cs m)) (cN (cFields cs m)) = m := vSum_1 m
    rw [cnt_0 hsk'.1, eN, v92_854, v92_856, if_neg (fun z => z rfl), v92_859, v92_860]
    refine v92_861 ?_
    rw [cnt_1 hsk'.1, eV, v92_864, v92_866, if_neg (fun z => z rfl), v92_869, v92_870]
    exact v92_874 (Or.inr rfl)
theorem act_text (hsk : sOk cs) (hl : t.length ≤ 80) {l4 l5 l6 l7 : Value} : ZA sc 875 [.ref 1, l1, .int y, l3, l4, l5, l6, l7, l8, l9, l10] [] cs hs t := by
  obtain ⟨t1, h1, g1⟩ := types_1 (sc := sc) (x := y) (hs := hs) hsk hl
  by_cases hl1 : t1.length ≤ 80
  · obtain ⟨c', h', r, g2⟩ := reads_1 (sc := sc) (hs := hs) hsk hl1 h1
    refine ⟨c', h', t1, r, ?_⟩
    rw [v92_875, v92_876]
    refine v92_877 g1 ?_
    rw [v92_880, if_neg (by decide), v92_883]
    refine v92_884 g2 ?_
    rw [v92_887, if_neg (by decide), v92_890, v92_891]
    exact v92_895 (Or.inr rfl)
  · refine ⟨cs, hs, t1, Or.inl ⟨rfl, rfl⟩, ?_⟩
    rw [v92_875, v92_876]
    exact v92_877 g1 (ZR_of fun _ _ z => absurd z hl1)
theorem acts_1 {x : Int32} (hsk : sOk cs) (hl : t.length ≤ 80) : ZA sc 0 [.ref 1, .int x, .int y, .null, .null, .null, .null, .null, .null, .null, .null] [] cs hs t := by
  have ho := hsk.1
  have hP := lo_lt (x := x >>> (4 &&& 31)) (show 0 < 3 by omega)
  have hhow := lo_lt (x := x) (show 0 < 16 by omega)
  have pre : ∃ q n a, q < 2 ∧ (loN (x >>> (4 &&& 31)) 3 < 2 → q = loN (x >>> (4 &&& 31)) 3) ∧ a < 9000 ∧ (n ≠ 0 → alw (cN cs) (cB cs q) a (cR cs q) = true) ∧ ∀ E, ZR sc 92 62 [.ref 1, .int x, .int y, .int (nI (loN x 16)), .int (nI (loN (x >>> (4 &&& 31)) 3)), .int (nI q), .int (nI n), .int (nI a), .null, .null, .null] [] cs hs t E → ZR sc 92 0 [.ref 1, .int x, .int y, .null, .null, .null, .null, .null, .null, .null, .null] [] cs hs t E := by
    have p28 : ∀ q, q < 2 → ∃ n a, a < 9000 ∧ (n ≠ 0 → alw (cN cs) (cB cs q) a (cR cs q) = true) ∧ ∀ E, ZR sc 92 62 [.ref 1, .int x, .int y, .int (nI (loN x 16)), .int (nI (loN (x >>> (4 &&& 31)) 3)), .int (nI q), .int (nI n), .int (nI a), .null, .null, .null] [] cs hs t E → ZR sc 92 28 [.ref 1, .int x, .int y, .int (nI (loN x 16)), .int (nI (loN (x >>> (4 &&& 31)) 3)), .null, .null, .null, .null, .null, .null] [.int (nI q)] cs hs t E := by
      intro q hq
      have hA := alL_len ho hq
      by_cases c : (alL cs q).length = 0
      · refine ⟨0, 0, by omega, fun z => absurd rfl z, fun E hE => ?_⟩
        rw [v92_28, v92_30, v92_31, v92_33]
        refine v92_34 ?_
        rw [all_m1 hq, c, v92_37, v92_39, v92_41, if_neg (fun z => z rfl), v92_44, v92_45, v92_60]
        exact hE
      · have c0 : 0 < (alL cs q).length := by omega
        have hz : ¬ nI (alL cs q).length = 0 := nI_ne0 c0 (by omega)
        have hk := lo_lt (x := y) c0
        have hat := alL_at hk
        refine ⟨(alL cs q).length, (alL cs q).getD (loN y (alL cs q).length) 0, hat.1, fun _ => hat.2, fun E hE => ?_⟩
        rw [v92_28, v92_30, v92_31, v92_33]
        refine v92_34 ?_
        rw [all_m1 hq, v92_37, v92_39, v92_41, if_pos hz, v92_48, v92_49, v92_51, v92_52, v92_54 hz, lo_n c0 (by omega)]
        refine v92_57 ?_
        rw [all_k ho hq hk, v92_60]
        exact hE
    by_cases c : loN (x >>> (4 &&& 31)) 3 ≤ 1
    · obtain ⟨n, a, h1, h2, h3⟩ := p28 (loN (x >>> (4 &&& 31)) 3) (by omega)
      refine ⟨_, n, a, by omega, fun _ => rfl, h1, h2, fun E hE => ?_⟩
      rw [v92_0, v92_1, v92_3 nz_16, lo_16, v92_6, v92_7, v92_8, v92_9, v92_10, v92_11 nz_3, lo_3, v92_14, v92_16, v92_18, v92_19, if_pos (show nI (loN (x >>> (4 &&& 31)) 3) ≤ 1 from nI_le (b := 1) c (by omega)), v92_26]
      exact h3 E hE
    · obtain ⟨n, a, h1, h2, h3⟩ := p28 1 (by omega)
      refine ⟨1, n, a, by omega, fun z => by omega, h1, h2, fun E hE => ?_⟩
      rw [v92_0, v92_1, v92_3 nz_16, lo_16, v92_6, v92_7, v92_8, v92_9, v92_10, v92_11 nz_3, lo_3, v92_14, v92_16, v92_18, v92_19, if_neg (show ¬ nI (loN (x >>> (4 &&& 31)) 3) ≤ 1 from nI_ge (a := 1) (by omega) (by omega)), v92_22, v92_23]
      exact h3 E hE
  obtain ⟨q, n, a, hq2, hq, ha, hn, pre⟩ := pre
  generalize loN (x >>> (4 &&& 31)) 3 = P at hP hq pre
  generalize loN x 16 = how at hhow pre
  have ge : ∀ k, k < 1000 → ((nI k ≤ nI how) ↔ k ≤ how) := fun k hk => nI_leI (by omega) (by omega)
  have eq : ∀ k, k < 1000 → ((nI how = nI k) ↔ how = k) := fun k hk => nI_eq (by omega) (by omega)
  have go : ∀ {pc : Nat} {S : List Value}, (∀ E, ZR sc 92 pc [.ref 1, .int x, .int y, .int (nI how), .int (nI P), .int (nI q), .int (nI n), .int (nI a), .null, .null, .null] S cs hs t E → ZR sc 92 62 [.ref 1, .int x, .int y, .int (nI how), .int (nI P), .int (nI q), .int (nI n), .int (nI a), .null, .null, .null] [] cs hs t E) → ZA sc pc [.ref 1, .int x, .int y, .int (nI how), .int (nI P), .int (nI q), .int (nI n), .int (nI a), .null, .null, .null] S cs hs t → ZA sc 0 [.ref 1, .int x, .int y, .null, .null, .null, .null, .null, .null, .null, .null] [] cs hs t := by
    intro pc S h1 h2
    obtain ⟨c', h', t', r, g⟩ := h2
    exact ⟨c', h', t', r, pre _ (h1 _ g)⟩
  have i6 : ((6 : Int32) ≤ nI how) ↔ 6 ≤ how := ge 6 (by omega)
  have i9 : ((9 : Int32) ≤ nI how) ↔ 9 ≤ how := ge 9 (by omega)
  have j6 : (nI how = 6) ↔ how = 6 := eq 6 (by omega)
  have j9 : (nI how = 9) ↔ how = 9 := eq 9 (by omega)
  have j10 : (nI how = 10) ↔ how = 10 := eq 10 (by omega)
  have j11 : (nI how = 11) ↔ how = 11 := eq 11 (by omega)
  have j12 : (nI how = 12) ↔ how = 12 := eq 12 (by omega)
  have j13 : (nI how = 13) ↔ how = 13 := eq 13 (by omega)
  by_cases c6 : 6 ≤ how
  · have g188 : ∀ E, ZR sc 92 188 [.ref 1, .int x, .int y, .int (nI how), .int (nI P), .int (nI q), .int (nI n), .int (nI a), .null, .null, .null] [] cs hs t E → ZR sc 92 62 [.ref 1, .int x, .int y, .int (nI how), .int (nI P), .int (nI q), .int (nI n), .int (nI a), .null, .null, .null] [] cs hs t E := fun E hE => by
      rw [v92_62, v92_63, v92_65, if_pos (i6.mpr c6)]
      exact hE
    by_cases d6 : how = 6
    · refine go (fun E hE => g188 E ?_) (act_take hsk hP hq2 hq ha hn)
      rw [v92_188, v92_189, v92_191, if_neg (fun z => z (j6.mpr d6))]
      exact hE
    · have g278 : ∀ E, ZR sc 92 278 [.ref 1, .int x, .int y, .int (nI how), .int (nI P), .int (nI q), .int (nI n), .int (nI a), .null, .null, .null] [] cs hs t E → ZR sc 92 62 [.ref 1, .int x, .int y, .int (nI how), .int (nI P), .int (nI q), .int (nI n), .int (nI a), .null, .null, .null] [] cs hs t E := fun E hE => g188 E (by
        rw [v92_188, v92_189, v92_191, if_pos (fun z => d6 (j6.mp z))]
        exact hE)
      by_cases c9 : 9 ≤ how
      · have g421 : ∀ E, ZR sc 92 421 [.ref 1, .int x, .int y, .int (nI how), .int (nI P), .int (nI q), .int (nI n), .int (nI a), .null, .null, .null] [] cs hs t E → ZR sc 92 62 [.ref 1, .int x, .int y, .int (nI how), .int (nI P), .int (nI q), .int (nI n), .int (nI a), .null, .null, .null] [] cs hs t E := fun E hE => g278 E (by
          rw [v92_278, v92_279, v92_281, if_pos (i9.mpr c9)]
          exact hE)
        by_cases d9 : how = 9
        · refine go (fun E hE => g421 E ?_) (act_value hsk)
          rw [v92_421, v92_422, v92_424, if_neg (fun z => z (j9.mpr d9))]
          exact hE
        · have g515 : ∀ E, ZR sc 92 515 [.ref 1, .int x, .int y, .int (nI how), .int (nI P), .int (nI q), .int (nI n), .int (nI a), .null, .null, .null] [] cs hs t E → ZR sc 92 62 [.ref 1, .int x, .int y, .int (nI how), .int (nI P), .int (nI q), .int (nI n), .int (nI a), .null, .null, .null] [] cs hs t E := fun E hE => g421 E (by
            rw [v92_421, v92_422, v92_424, if_pos (fun z => d9 (j9.mp z))]
            exact hE)
          by_cases d10 : how = 10
          · refine go (fun E hE => g515 E ?_) (act_res hsk hP hq2 hq)
            rw [v92_515, v92_516, v92_518, if_neg (fun z => z (j10.mpr d10))]
            exact hE
          · have g608 : ∀ E, ZR sc 92 608 [.ref 1, .int x, .int y, .int (nI how), .int (nI P), .int (nI q), .int (nI n), .int (nI a), .null, .null, .null] [] cs hs t E → ZR sc 92 62 [.ref 1, .int x, .int y, .int (nI how), .int (nI P), .int (nI q), .int (nI n), .int (nI a), .null, .null, .null] [] cs hs t E := fun E hE => g515 E (by
              rw [v92_515, v92_516, v92_518, if_pos (fun z => d10 (j10.mp z))]
              exact hE)
            by_cases d11 : how = 11
            · refine go (fun E hE => g608 E ?_) (act_bound hsk hP)
              rw [v92_608, v92_609, v92_611, if_neg (fun z => z (j11.mpr d11))]
              exact hE
            · have g727 : ∀ E, ZR sc 92 727 [.ref 1, .int x, .int y, .int (nI how), .int (nI P), .int (nI q), .int (nI n), .int (nI a), .null, .null, .null] [] cs hs t E → ZR sc 92 62 [.ref 1, .int x, .int y, .int (nI how), .int (nI P), .int (nI q), .int (nI n), .int (nI a), .null, .null, .null] [] cs hs t E := fun E hE => g608 E (by
                rw [v92_608, v92_609, v92_611, if_pos (fun z => d11 (j11.mp z))]
                exact hE)
              by_cases d12 : how = 12
              · refine go (fun E hE => g727 E ?_) (act_tie hsk)
                rw [v92_727, v92_728, v92_730, if_neg (fun z => z (j12.mpr d12))]
                exact hE
              · have g775 : ∀ E, ZR sc 92 775 [.ref 1, .int x, .int y, .int (nI how), .int (nI P), .int (nI q), .int (nI n), .int (nI a), .null, .null, .null] [] cs hs t E → ZR sc 92 62 [.ref 1, .int x, .int y, .int (nI how), .int (nI P), .int (nI q), .int (nI n), .int (nI a), .null, .null, .null] [] cs hs t E := fun E hE => g727 E (by
                  rw [v92_727, v92_728, v92_730, if_pos (fun z => d12 (j12.mp z))]
                  exact hE)
                by_cases d13 : how = 13
                · by_cases d : nI (loN y 4) = 0
                  · refine go (fun E hE => g775 E ?_) (act_fields hsk)
                    rw [v92_775, v92_776, v92_778, if_neg (fun z => z (j13.mpr d13)), v92_781, v92_782, v92_783 nz_4, lo_4, v92_786, if_neg (fun z => z d)]
                    exact hE
                  · refine go (fun E hE => g775 E ?_) (act_text hsk hl)
                    rw [v92_775, v92_776, v92_778, if_neg (fun z => z (j13.mpr d13)), v92_781, v92_782, v92_783 nz_4, lo_4, v92_786, if_pos d]
                    exact hE
                · refine go (fun E hE => g775 E ?_) (act_text hsk hl)
                  rw [v92_775, v92_776, v92_778, if_pos (fun z => d13 (j13.mp z))]
                  exact hE
      · refine go (fun E hE => g278 E ?_) (act_round hsk)
        rw [v92_278, v92_279, v92_281, if_neg (fun z => c9 (i9.mp z))]
        exact hE
  · refine go (fun E hE => ?_) (act_put hsk hP hq2 hq ha hn)
    rw [v92_62, v92_63, v92_65, if_neg (fun z => c6 (i6.mp z))]
    exact hE
end ZAC
