/-! ===== the law's loop ===== -/
theorem cmp_self (d : Int64) : lg_cmp d d = 0 := by simp [lg_cmp]
theorem hRec_len (hs : List CS) (cs : CS) : (hRec hs cs).length = if hs.length = 4 then 4 else hs.length + 1 := by
  unfold hRec
  rw [List.length_append, List.length_singleton]
  by_cases h : hs.length = 4
  · rw [if_pos h, if_pos h, List.length_drop, h]
  · rw [if_neg h, if_neg h]
theorem undo_hRec {hs : List CS} {cs c' : CS} (h : ¬ hs.length = 4) : sUndo c' (hRec hs cs) = (nI hs.length, cs, hs) := by
  unfold hRec
  rw [if_neg h]
  unfold sUndo
  rw [List.getLast?_concat, List.dropLast_concat, List.length_append, List.length_singleton]
  rfl
theorem undo_1 (cs : CS) (hs : List CS) : (sUndo cs hs).1 = if hs.length = 0 then eNP else nI (hs.length - 1) := by
  unfold sUndo
  rcases List.eq_nil_or_concat hs with e | ⟨hs', d, e⟩
  · subst e
    rfl
  · rw [List.concat_eq_append] at e
    subst e
    rw [List.getLast?_concat, if_neg (by simp)]
section ZLW
variable {sc : Nat × (Nat → Int32)} {cs : CS} {hs : List CS} {t : List Nat} {n : Nat} {l4 l5 l6 l7 l8 l9 l10 : Value}
theorem law_tail (hn : n < 26) (g : ∀ cs hs t (l10 : Value), ZP sc 33 [.ref 0, .ref 1, .int 1, .int (nI (n + 1)), l4, l5, l6, l7, l8, l9, l10] [] cs hs t) : ZP sc 218 [.ref 0, .ref 1, .int 1, .int (nI n), l4, l5, l6, l7, l8, l9, l10] [] cs hs t := by
  refine ZP_of fun hsk hh _ => ?_
  have en : nI n - nI n / 5 * 5 = nI (n % 5) := pk_rem (d := 5) (by omega) (by omega) (by omega)
  have fin : ∀ cs hs t (l10 : Value), ZP sc 264 [.ref 0, .ref 1, .int 1, .int (nI n), l4, l5, l6, l7, l8, l9, l10] [] cs hs t := by
    intro cs hs t l10
    rw [p93_264, p93_267, nI_1]
    exact g cs hs t l10
  rw [p93_218, p93_219, if_neg (by decide), p93_222, p93_223, p93_224 nz_5, en, p93_225, p93_226]
  by_cases c : nI (n % 5) = 4
  · rw [if_neg (fun z => z c), p93_229, p93_230]
    refine p93_232 ?_
    rw [cnt_9 hsk.1, p93_235, p93_237]
    refine p93_238 ?_
    rw [undo_1, p93_241, p93_243]
    have e0 : (nI hs.length = 0) ↔ hs.length = 0 := nI_eq (b := 0) (by omega) (by omega)
    by_cases c2 : hs.length = 0
    · rw [if_neg (fun z => z (e0.mpr c2)), p93_246, p93_248, if_pos c2, p93_255, if_neg (fun z => z rfl), p93_258, p93_259, p93_263]
      exact fin _ _ _ _
    · have em : nI hs.length - 1 = nI (hs.length - 1) := by rw [show (1 : Int32) = nI 1 from rfl, pk_sub (by omega)]
      rw [if_pos (fun z => c2 (e0.mp z)), p93_251, p93_253, p93_254, if_neg c2, em, p93_255, if_neg (fun z => z rfl), p93_258, p93_259, p93_263]
      exact fin _ _ _ _
  · rw [if_pos c]
    exact fin _ _ _ _
/-- behind an act and its check: the count of states, the undo -/
theorem law_mid {cs' : CS} {hs' : List CS} {t' : List Nat} {y : Int32} (hn : n < 26) (hh : hs.length ≤ 4) (r : rNext cs hs cs' hs') (g0 : ∀ csx hsx tx (l9 l10 : Value), ZP sc 33 [.ref 0, .ref 1, .int 1, .int (nI (n + 1)), l4, .int y, .long (dgst cs), .float 0, .int (nI hs.length), l9, l10] [] csx hsx tx) : ZP sc 117 [.ref 0, .ref 1, l5, .int (nI n), l4, .int y, .long (dgst cs), .float 0, .int (nI hs.length), l9, l10] [.int 1] cs' hs' t' := by
  refine ZP_of fun hsk' hh' _ => ?_
  have tail : ∀ csx hsx tx (l9 l10 : Value), ZP sc 218 [.ref 0, .ref 1, .int 1, .int (nI n), l4, .int y, .long (dgst cs), .float 0, .int (nI hs.length), l9, l10] [] csx hsx tx := fun csx hsx tx l9 l10 => law_tail hn (fun c h t l => g0 c h t l9 l)
  have en : (nI hs'.length = nI hs.length) ↔ hs'.length = hs.length := nI_eq (by omega) (by omega)
  have e4 : (nI hs.length = 4) ↔ hs.length = 4 := nI_eq (b := 4) (by omega) (by omega)
  have en1 : (nI hs'.length = nI (hs.length + 1)) ↔ hs'.length = hs.length + 1 := nI_eq (by omega) (by omega)
  rw [p93_117, p93_118, p93_119]
  refine p93_121 ?_
  rw [cnt_9 hsk'.1, p93_124, p93_126, p93_127, if_neg (by decide), p93_130, p93_132, p93_134]
  by_cases c : hs'.length = hs.length
  · -- as many states as before
    have nx : ∀ {l10 : Value}, ZP sc 162 [.ref 0, .ref 1, .int 1, .int (nI n), l4, .int y, .long (dgst cs), .float 0, .int (nI hs.length), .int (nI hs'.length), l10] [] cs' hs' t' := by
      intro l10
      rw [p93_162, p93_163, p93_167, p93_168, p93_169, if_neg (by decide), p93_172, p93_174, p93_176, p93_177, nI_1, p93_178, if_pos (fun z => by have := en1.mp z; omega)]
      exact tail _ _ _ _ _
    rw [if_neg (fun z => z (en.mpr c)), p93_137, p93_139, p93_140]
    by_cases c4 : hs.length = 4
    · rw [if_pos (e4.mpr c4)]
      exact nx
    · rw [if_neg (fun z => c4 (e4.mp z)), p93_143]
      refine p93_144 dig ?_
      have ec : cs' = cs := by
        rcases r with ⟨r, -⟩ | r
        · exact r
        · rw [r, hRec_len, if_neg c4] at c
          omega
      have nx2 := nx (l10 := l10)
      rw [ec] at nx2
      rw [ec, p93_147, p93_149, cmp_self, p93_150, if_pos rfl]
      exact nx2
  · have r : hs' = hRec hs cs := by
      rcases r with ⟨-, r⟩ | r
      · exact absurd (congrArg List.length r) c
      · exact r
    have c4 : ¬ hs.length = 4 := by
      intro z
      rw [r, hRec_len, if_pos z] at c
      omega
    have c1 : hs'.length = hs.length + 1 := by rw [r, hRec_len, if_neg c4]
    rw [if_pos (fun z => c (en.mp z)), p93_153, p93_155, p93_157, p93_158, nI_1, p93_159, if_neg (fun z => z (en1.mpr c1)), p93_162, p93_163, p93_167, p93_168, p93_169, if_neg (by decide), p93_172, p93_174, p93_176, p93_177, nI_1, p93_178, if_neg (fun z => z (en1.mpr c1)), p93_181, p93_183, p93_185, p93_186, p93_187 nz_2, lo_2, p93_190]
    by_cases cu : nI (loN (y >>> (8 &&& 31)) 2) = 0
    · rw [if_neg (fun z => z cu), p93_193]
      refine p93_194 ?_
      rw [r, undo_hRec c4]
      show ZP sc 197 _ [.int (nI hs.length)] cs hs t'
      rw [p93_197, p93_199, if_neg (fun z => z rfl), p93_202]
      refine p93_203 dig ?_
      rw [p93_206, p93_208, cmp_self, p93_209, if_neg (fun z => z rfl), p93_212, p93_213, p93_217]
      exact tail _ _ _ _ _
    · rw [if_pos cu]
      exact tail _ _ _ _ _
theorem law_loop (hL : sc.1 ≤ 2048) : ∀ d n cs hs t (l4 l5 l6 l7 l8 l9 l10 : Value), n + d = 26 → ZP sc 33 [.ref 0, .ref 1, .int 1, .int (nI n), l4, l5, l6, l7, l8, l9, l10] [] cs hs t := by
  intro d
  induction d with
  | zero =>
    intro n cs hs t l4 l5 l6 l7 l8 l9 l10 hn
    obtain rfl : n = 26 := by omega
    rw [p93_33, p93_34, p93_36, if_pos (show (26 : Int32) ≤ nI 26 by decide), p93_270]
    exact p93_271
  | succ d ih =>
    intro n cs hs t l4 l5 l6 l7 l8 l9 l10 hn
    refine ZP_of fun hsk hh hl => ?_
    have h26 : ¬ (26 : Int32) ≤ nI n := nI_ge (b := 26) (by omega) (by omega)
    have e2 : (2 : Int32) * nI n = nI (2 * n) := pk_mul 2 n
    rw [p93_33, p93_34, p93_36, if_neg h26, p93_39, p93_40, if_neg (by decide), p93_43, p93_44, p93_45, p93_46, e2, p93_47 ⟨nI_pos (by omega), hL⟩, p93_50, p93_52, p93_53, p93_54, p93_55, e2, p93_56, p93_57, nI_1, p93_58 ⟨nI_pos (by omega), hL⟩, p93_61, p93_63]
    generalize z_lt sc (nI (2 * n)) = x
    generalize z_lt sc (nI (2 * n + 1)) = y
    refine p93_64 dig ?_
    rw [p93_67, p93_69, p93_70]
    refine p93_72 ?_
    rw [cnt_9 hsk.1, p93_75]
    have key : ∀ x' : Int32, ZP sc 93 [.ref 0, .ref 1, .int 1, .int (nI n), .int x, .int y, .long (dgst cs), .float 0, .int (nI hs.length), l9, l10] [.int x', .ref 1] cs hs t := by
      intro x'
      obtain ⟨cs', hs', t', r, ga⟩ := acts_1 (sc := sc) (x := x') (y := y) (hs := hs) hsk hl
      rw [p93_93]
      refine p93_95 ga ?_
      rw [p93_98, if_neg (by decide), p93_101, p93_102, p93_104, p93_105]
      refine p93_106 holds_1 ?_
      rw [p93_109, if_neg (by decide), p93_112, p93_113]
      exact law_mid (by omega) hh r (fun c h t l9 l10 => ih (n + 1) c h t _ _ _ _ _ _ _ (by omega))
    rw [p93_77, p93_78, p93_79, p93_80]
    by_cases c : (4 : Int32) ≤ nI n
    · rw [if_pos c, p93_91]
      exact key x
    · rw [if_neg c, p93_83, p93_85, p93_87, p93_88]
      exact key _
theorem law_all (hL : sc.1 ≤ 2048) : ZP sc 8 [.ref 0, .ref 1, .null, .null, .null, .null, .null, .null, .null, .null, .null] [] cs [] t := by
  rw [p93_8, p93_9]
  refine p93_10 holds_1 ?_
  rw [p93_13, if_neg (by decide), p93_16]
  refine p93_17 ?_
  show ZP sc 20 _ [.int eNP] cs [] t
  rw [p93_20, p93_22, if_neg (fun z => z rfl), p93_25, p93_26, p93_30, p93_31, p93_32]
  exact law_loop hL 26 0 cs [] t _ _ _ _ _ _ _ (by omega)
end ZLW
