/-! ===== the law's 'holds': of every state ===== -/
theorem i_m1 (x : Int32) : x + (-1) = x - 1 := (Int32.sub_eq_add_neg x 1).symm
theorem i_rem10 {r : Nat} (h : r < 2 ^ 31) : nI r - nI r / 10 * 10 = nI (r % 10) := pk_rem (d := 10) h (by omega) (by omega)
theorem i_div10 {r : Nat} (h : r < 2 ^ 31) : nI r / 10 = nI (r / 10) := pk_div (d := 10) h (by omega) (by omega)
theorem i_rem10b {r : Nat} (h : r < 2 ^ 31) : nI r - nI (r / 10) * 10 = nI (r % 10) := by
  rw [← i_div10 h]
  exact i_rem10 h
theorem mix_00 {cs : CS} {q : Nat} (hq : q < 2) (hk : 0 < (cM cs q).length) : sMixOf cs (nI q) 0 0 = nI (mA (cM cs q) 0) := mix_0 (k := 0) hq hk (by omega)
theorem i_1q {q : Nat} (hq : q < 2) : 1 - nI q = nI (1 - q) := by
  rw [show (1 : Int32) = nI 1 from rfl, pk_sub (by omega)]
theorem iI_nI (n : Nat) : nI n = iI (n : Int) := nI_iI n
theorem g_lo {V : Nat} {g : Int} (hV : V ≤ 36) (h1 : -(V : Int) ≤ g) (h2 : g ≤ V) : ¬ iI (1000 + g) < 1000 - nI V := by
  rw [show (1000 : Int32) = iI 1000 from rfl, nI_iI, iI_sub, iI_lt (by omega) (by omega)]
  omega
theorem g_hi {V : Nat} {g : Int} (hV : V ≤ 36) (h1 : -(V : Int) ≤ g) (h2 : g ≤ V) : ¬ 1000 + nI V < iI (1000 + g) := by
  rw [show (1000 : Int32) = iI 1000 from rfl, nI_iI, iI_add, iI_lt (by omega) (by omega)]
  omega
section ZHO
variable {sc : Nat × (Nat → Int32)} {cs : CS} {hs : List CS} {t : List Nat} {E : Value × CS × List CS × List Nat} {l1 l4 l5 l6 l7 l11 : Value} {x : Int32} {q : Nat}
theorem hold_t {G b : Int32} {n : Nat} (ho : cOk cs) (hq : q < 2) (h1 : ¬ G < 1000 - nI (vSum (cV cs) (cN cs))) (h2 : ¬ 1000 + nI (vSum (cV cs) (cN cs)) < G) (hb : (b < 0 ∧ sExp cs 1 = eNP) ∨ (¬ b < 0 ∧ ∃ m, 0 < m ∧ m < 2 ^ 31 ∧ sExp cs 1 = nI m)) (hn0 : 0 < n) (hn : n < 2 ^ 31) : ZR sc 89 250 [.ref 1, l1, .int (nI q), .int (nI n), l4, l5, l6, l7, .int (nI (cR cs q)), .int (nI 0), .int b, l11] [.int G] cs hs t (.int 1, cs, hs, t) := by
  rw [v89_250, v89_252, v89_253, if_neg (nI_nle hn0 hn), v89_256, v89_258, if_neg (fun z => z nI_0)]
  simp only [v89_261, v89_263, v89_264, v89_265, v89_266]
  refine v89_267 ?_
  rw [cnt_3q ho hq, v89_270, if_neg (fun z => z rfl)]
  simp only [v89_273, v89_275, v89_278, v89_279]
  refine v89_280 ?_
  rw [cnt_1 ho, v89_283, v89_284, if_neg h1]
  simp only [v89_287, v89_289, v89_292, v89_293]
  refine v89_294 ?_
  rw [cnt_1 ho, v89_297, v89_298, if_neg h2, v89_301, v89_303]
  rcases hb with ⟨hb, he⟩ | ⟨hb, m, hm0, hm, he⟩
  · rw [if_pos hb, v89_310, v89_311, v89_312]
    refine v89_313 ?_
    rw [he, v89_316, if_pos (by decide), v89_323, v89_324, if_neg (fun z => z rfl), v89_327, v89_328]
    exact v89_332 (Or.inr rfl)
  · rw [if_neg hb, v89_306, v89_307, v89_311, v89_312]
    refine v89_313 ?_
    rw [he, v89_316, if_neg (nI_nle hm0 hm), v89_319, v89_320, v89_324, if_neg (fun z => z rfl), v89_327, v89_328]
    exact v89_332 (Or.inr rfl)
theorem hold_b {k n : Nat} (hsk : sOk cs) (hq : q < 2) (hk : k < (cM cs q).length) (hn0 : 0 < n) (hn : n < 2 ^ 31) : ZR sc 89 189 [.ref 1, l1, .int (nI q), .int (nI n), l4, l5, l6, .int (nI (mA (cM cs q) k)), .int (nI (cR cs q)), .int (nI 0), .int (nI 0 - 1), l11] [] cs hs t (.int 1, cs, hs, t) := by
  have ho := hsk.1
  have hV := vSum_le ho
  have m0 := hsk.2 q hq
  have hl := m0.1
  have ha := mA_lt m0 hk
  have hw := (ho.2.2.2.2 q hq).2.2 k hk
  have m1 := hsk.2 (1 - q) (by omega)
  have hl1 := m1.1
  simp only [v89_189, v89_190, v89_192, v89_193]
  refine v89_194 ?_
  rw [cnt_6q ho hq, v89_197]
  by_cases c : (cM cs (1 - q)).length = 0
  · rw [c, if_neg (fun z => z nI_0), v89_200, v89_202, v89_214, v89_216, v89_218, if_neg (by decide), v89_221, v89_224]
    refine hold_t ho hq ?_ ?_ (Or.inl ⟨by decide, exp_no ?_⟩) hn0 hn
    · exact g_lo (g := 0) hV (by omega) (by omega)
    · exact g_hi (g := 0) hV (by omega) (by omega)
    · rcases q01 hq with rfl | rfl
      · exact Or.inr c
      · exact Or.inl c
  · have c0 : 0 < (cM cs (1 - q)).length := by omega
    have hb := mA_lt m1 c0
    have hw1 := (ho.2.2.2.2 (1 - q) (by omega)).2.2 0 c0
    rw [if_pos (nI_ne0 c0 (by omega))]
    simp only [v89_205, v89_206, v89_207, v89_208, v89_209, v89_210, i_1q hq]
    refine v89_211 ?_
    rw [mix_00 (by omega) c0, v89_214, v89_216, v89_218, if_pos (nI_pos' (by omega)), v89_227, v89_228]
    have hexp : ∃ m, 0 < m ∧ m < 2 ^ 31 ∧ sExp cs 1 = nI m := by
      rcases q01 hq with rfl | rfl
      · exact exp_pos hsk (by omega) c0
      · exact exp_pos hsk c0 (by omega)
    rcases q01 hq with rfl | rfl
    · obtain ⟨g, e, g1, g2⟩ := gains_ok ho ha hb hw hw1
      rw [if_neg (fun z => z nI_0)]
      simp only [v89_231, v89_232, v89_234]
      refine v89_236 ?_
      rw [e, v89_239]
      exact hold_t ho hq (g_lo hV g1 g2) (g_hi hV g1 g2) (Or.inr ⟨nI_pos (by omega), hexp⟩) hn0 hn
    · obtain ⟨g, e, g1, g2⟩ := gains_ok ho hb ha hw1 hw
      rw [if_pos (nI_ne0 (by omega) (by omega))]
      simp only [v89_242, v89_243, v89_245]
      refine v89_247 ?_
      rw [e]
      exact hold_t ho hq (g_lo hV g1 g2) (g_hi hV g1 g2) (Or.inr ⟨nI_pos (by omega), hexp⟩) hn0 hn
theorem hold_l {k : Nat} {v3 : Value} (hsk : sOk cs) (hq : q < 2) (hk : k < (cM cs q).length) (g : ∀ l11 : Value, ZR sc 89 189 [.ref 1, l1, .int (nI q), v3, l4, l5, .int (nI k), .int (nI (mA (cM cs q) k)), .int (nI (cR cs q)), .int (nI 0), .int (nI 0 - 1), l11] [] cs hs t E) :
    ∀ m s r (l11 : Value), m ≤ cN cs → alw m (cB cs q) r (cR cs q - s) = true → s ≤ cR cs q → r = mA (cM cs q) k / 10 ^ (cN cs - m) → ZR sc 89 116 [.ref 1, l1, .int (nI q), v3, l4, l5, .int (nI k), .int (nI (mA (cM cs q) k)), .int (nI s), .int (nI r), .int (nI m - 1), l11] [] cs hs t E := by
  have ho := hsk.1
  have hN := ho.2.1
  have m0 := hsk.2 q hq
  have hl := m0.1
  have ha := mA_lt m0 hk
  have hR := (ho.2.2.2.2 q hq).1
  intro m
  induction m with
  | zero =>
    intro s r l11 hm hw hs1 hr
    have h2 := of_decide_eq_true hw
    have e1 : s = cR cs q := by omega
    have e2 : r = 0 := h2.2
    rw [e1, e2, v89_116, v89_118, if_pos (by decide)]
    exact g l11
  | succ m ih =>
    intro s r l11 hm hw hs1 hr
    have hrl : r ≤ mA (cM cs q) k := by
      rw [hr]
      exact Nat.div_le_self _ _
    unfold alw at hw
    split at hw
    next => cases hw
    next hc =>
      have hB := (ho.2.2.2.2 q hq).2.1 m (by omega)
      have g2 := ih (s + r % 10) (r / 10) (.int (nI (r % 10))) (by omega) (by rw [← Nat.sub_sub]; exact hw) (by omega) (by
        rw [hr, Nat.div_div_eq_div_mul, ← Nat.pow_succ]
        congr 2
        omega)
      have hd : dg (cN cs) (mA (cM cs q) k) m = r % 10 := by
        unfold dg
        rw [hr]
        congr 3
        omega
      rw [nI_pred, v89_116, v89_118, if_neg (nI_pos (by omega))]
      simp only [v89_121, v89_123, v89_125, v89_126, v89_128, v89_130, v89_132, v89_133, v89_135, v89_137, v89_139, v89_140, v89_142, v89_144, v89_145, v89_147, v89_149, v89_150, v89_151, v89_152, v89_154, nz_10, not_false_eq_true, i_rem10 (show r < 2 ^ 31 by omega), i_rem10b (show r < 2 ^ 31 by omega), i_div10 (show r < 2 ^ 31 by omega), nI_add]
      refine v89_155 ?_
      rw [cnt_30 ho hq (by omega), v89_158, if_neg (nI_nlt (by omega) (by omega))]
      simp only [v89_161, v89_162, v89_163, v89_165]
      refine v89_167 ?_
      rw [marg_q ho hq (by omega) (by omega)]
      simp only [v89_170, v89_171, v89_172, v89_174]
      refine v89_175 ?_
      have h3 := mrg_ge hd (cM cs q).length hk
      have h4 := mrg_le m0 (cN cs) m (r % 10) (cM cs q).length (Nat.le_refl _)
      rw [mix_1 hq hk (by omega), v89_178, if_pos (nI_le h3 (by omega)), v89_183, v89_186, i_m1]
      exact g2
theorem holds_1 : ZR sc 89 0 [.ref 1, .int x, .null, .null, .null, .null, .null, .null, .null, .null, .null, .null] [] cs hs t (.int 1, cs, hs, t) := by
  refine ZR_of fun hsk _ _ => ?_
  have ho := hsk.1
  simp only [v89_0, v89_1, v89_2 nz_2, lo_2, v89_5, v89_6, v89_7, v89_8]
  have hq : loN x 2 < 2 := lo_lt (by omega)
  generalize loN x 2 = q at hq
  have m0 := hsk.2 q hq
  have hl := m0.1
  have hA := alL_len ho hq
  refine v89_9 ?_
  rw [all_m1 hq]
  simp only [v89_12, v89_13, v89_14, v89_15, v89_16]
  refine v89_17 ?_
  rw [cnt_5q ho hq]
  simp only [v89_20, v89_22, v89_23]
  refine v89_24 ?_
  rw [cnt_0 ho]
  simp only [v89_27, v89_29, v89_31]
  by_cases c : (cM cs q).length = 0
  · have e1 : mSum (cM cs q) = 0 := by
      rw [List.length_eq_zero_iff.mp c]
      rfl
    rw [c, if_neg (fun z => z nI_0)]
    simp only [v89_34, v89_35, v89_46, v89_48, v89_49, v89_50, v89_52]
    refine v89_53 ?_
    rw [mix_no hq c]
    rw [v89_56, v89_58, v89_60, if_neg (fun z => z nI_0), v89_63, v89_65, v89_67, if_neg (fun z => z rfl)]
    simp only [v89_70, v89_71, v89_73, v89_74]
    refine v89_75 ?_
    rw [cnt_7q ho hq, e1, v89_78, if_neg (fun z => z nI_0)]
    simp only [v89_81, v89_82, v89_83, v89_84]
    refine v89_85 ?_
    rw [mean_no hq ho c, v89_88, v89_90, if_neg (fun z => z rfl), v89_93, v89_94, if_neg (nI_pos (by omega)), v89_97, v89_98]
    exact v89_102 (Or.inr rfl)
  · have c0 : 0 < (cM cs q).length := by omega
    have hz := nI_ne0 c0 (show (cM cs q).length < 2 ^ 31 by omega)
    rw [if_pos hz]
    simp only [v89_38, v89_39, v89_40, v89_41, v89_43 hz, lo_n c0 (show (cM cs q).length < 2 ^ 31 by omega), v89_46, v89_48, v89_49, v89_50, v89_52]
    have hk : loN (x >>> (1 &&& 31)) (cM cs q).length < (cM cs q).length := lo_lt c0
    generalize loN (x >>> (1 &&& 31)) (cM cs q).length = k at hk
    refine v89_53 ?_
    rw [mix_0 hq hk (by omega), v89_56, v89_58, v89_60, if_pos hz]
    simp only [v89_103, v89_104, v89_106, v89_108, v89_110, v89_112, v89_113, v89_114]
    have hw := (ho.2.2.2.2 q hq).2.2 k hk
    have hn0 : 0 < (alL cs q).length := List.length_pos_of_mem ((als_mem ho.1 ho.2.1 (ho.2.2.2.2 q hq).1).mpr hw)
    refine hold_l hsk hq hk (fun l11 => hold_b hsk hq hk hn0 (by omega)) (cN cs) 0 (mA (cM cs q) k) .null (Nat.le_refl _) hw (Nat.zero_le _) ?_
    rw [Nat.sub_self, Nat.pow_zero, Nat.div_one]
end ZHO
