/-! ===== the law's 'types': some text comes to stand ===== -/
theorem typ {t : List Nat} {c : Nat} (h1 : 32 ≤ c) (h2 : c ≤ 126) (hl : t.length < 80) : sType t (nI c) = (nI (t.length + 1), t ++ [c]) := by
  unfold sType
  rw [if_pos ⟨nI_le (a := 32) h1 (by omega), nI_le (b := 126) h2 (by omega)⟩, if_neg (by omega), tn_nI (by omega)]
theorem typ_58 {t : List Nat} (hl : t.length < 80) : sType t 58 = (nI (t.length + 1), t ++ [58]) := typ (c := 58) (by omega) (by omega) hl
theorem typ_42 {t : List Nat} (hl : t.length < 80) : sType t 42 = (nI (t.length + 1), t ++ [42]) := typ (c := 42) (by omega) (by omega) hl
theorem typ_59 {t : List Nat} (hl : t.length < 80) : sType t 59 = (nI (t.length + 1), t ++ [59]) := typ (c := 59) (by omega) (by omega) hl
theorem n48 (p : Nat) : 48 + nI p = nI (48 + p) := nI_add 48 p
theorem t_le {t : List Nat} (hl : t.length < 80) : ¬ nI (t.length + 1) ≤ 0 := nI_nle (by omega) (by omega)
theorem sn_len (t : List Nat) (c : Nat) : (t ++ [c]).length = t.length + 1 := by simp
section ZTY
variable {sc : Nat × (Nat → Int32)} {cs : CS} {hs : List CS} {t : List Nat} {x y : Int32} {n k : Nat} {l5 l6 l7 l8 l9 l10 l11 : Value}
/-- from here a text comes to stand, and the answer is true -/
def ZT (sc : Nat × (Nat → Int32)) (pc : Nat) (L S : List Value) (cs : CS) (hs : List CS) (t : List Nat) : Prop := ∃ t', 0 < t'.length ∧ ZR sc 90 pc L S cs hs t (.int 1, cs, hs, t')
theorem ty_end {l9 l10 l11 : Value} (hl : t.length < 80) (ht : 0 < t.length) (g : ∀ t' : List Nat, 0 < t'.length → t'.length ≤ t.length + 1 → ZT sc 31 [.ref 1, .int x, .int (nI n), .int (nI (cN cs)), .int 1, .int (nI k + 1), .int y, l7, l8, l9, l10, l11] [] cs hs t') : ZT sc 273 [.ref 1, .int x, .int (nI n), .int (nI (cN cs)), .int 1, .int (nI k), .int y, l7, l8, l9, l10, l11] [] cs hs t := by
  have fin : ∀ t' : List Nat, 0 < t'.length → t'.length ≤ t.length + 1 → ZT sc 307 [.ref 1, .int x, .int (nI n), .int (nI (cN cs)), .int 1, .int (nI k), .int y, l7, l8, l9, l10, l11] [] cs hs t' := by
    intro t' h1 h2
    obtain ⟨t2, g1, g2⟩ := g t' h1 h2
    refine ⟨t2, g1, ?_⟩
    rw [v90_307, v90_308, v90_312, v90_314, v90_317]
    exact g2
  have put : ZT sc 298 [.ref 1, .int x, .int (nI n), .int (nI (cN cs)), .int 1, .int (nI k), .int y, l7, l8, l9, l10, l11] [] cs hs t := by
    obtain ⟨t2, g1, g2⟩ := fin (t ++ [59]) (by rw [sn_len]; omega) (by rw [sn_len]; omega)
    refine ⟨t2, g1, ?_⟩
    rw [v90_298, v90_299]
    refine v90_301 ?_
    rw [typ_59 hl]
    dsimp only
    rw [v90_304, if_neg (t_le hl)]
    exact g2
  by_cases c1 : nI (loN (x >>> (24 &&& 31)) 7) = 0
  · by_cases c2 : nI k = nI n - 1
    · obtain ⟨t2, g1, g2⟩ := fin t ht (by omega)
      refine ⟨t2, g1, ?_⟩
      rw [v90_273, v90_275, if_neg (by decide), v90_278, v90_279, v90_281, v90_282, v90_284 nz_7, lo_7, v90_287, if_neg (fun z => z c1), v90_290, v90_292, v90_293, v90_294, v90_295, if_pos c2]
      exact g2
    · obtain ⟨t2, g1, g2⟩ := put
      refine ⟨t2, g1, ?_⟩
      rw [v90_273, v90_275, if_neg (by decide), v90_278, v90_279, v90_281, v90_282, v90_284 nz_7, lo_7, v90_287, if_neg (fun z => z c1), v90_290, v90_292, v90_293, v90_294, v90_295, if_neg c2]
      exact g2
  · obtain ⟨t2, g1, g2⟩ := put
    refine ⟨t2, g1, ?_⟩
    rw [v90_273, v90_275, if_neg (by decide), v90_278, v90_279, v90_281, v90_282, v90_284 nz_7, lo_7, v90_287, if_pos c1]
    exact g2
theorem ty_tail (hl : t.length < 78) (ht : 0 < t.length) (g : ∀ t' : List Nat, 0 < t'.length → t'.length ≤ t.length + 3 → ZT sc 31 [.ref 1, .int x, .int (nI n), .int (nI (cN cs)), .int 1, .int (nI k + 1), .int y, l7, l8, l9, l10, l11] [] cs hs t') : ZT sc 222 [.ref 1, .int x, .int (nI n), .int (nI (cN cs)), .int 1, .int (nI k), .int y, l7, l8, l9, l10, l11] [] cs hs t := by
  by_cases c : nI (loN (y >>> (3 &&& 31)) 3) ≤ 0
  · obtain ⟨t2, g1, g2⟩ := ty_end (sc := sc) (l9 := l9) (l10 := l10) (l11 := l11) (show t.length < 80 by omega) ht (fun t' h1 h2 => g t' h1 (by omega))
    refine ⟨t2, g1, ?_⟩
    rw [v90_222, v90_224, v90_225, v90_226, v90_227 nz_3, lo_3, v90_230, if_pos c]
    exact g2
  · have hd := lo_lt (x := y >>> (2 &&& 31)) (show 0 < 10 by omega)
    obtain ⟨t2, g1, g2⟩ := ty_end (sc := sc) (x := x) (n := n) (y := y) (k := k) (cs := cs) (hs := hs) (l7 := l7) (l8 := l8) (l9 := l9) (l10 := l10) (l11 := l11) (t := (t ++ [42]) ++ [48 + loN (y >>> (2 &&& 31)) 10]) (by rw [sn_len, sn_len]; omega) (by rw [sn_len]; omega) (fun t' h1 h2 => g t' h1 (by rw [sn_len, sn_len] at h2; omega))
    refine ⟨t2, g1, ?_⟩
    rw [v90_222, v90_224, v90_225, v90_226, v90_227 nz_3, lo_3, v90_230, if_neg c, v90_233, v90_235, if_neg (by decide), v90_238, v90_239]
    refine v90_241 ?_
    rw [typ_42 (by omega)]
    dsimp only
    rw [v90_244, if_neg (t_le (by omega)), v90_247, v90_248, v90_250, v90_252, v90_253, v90_254, v90_256 nz_10, lo_10, v90_259, n48]
    refine v90_260 ?_
    rw [typ (by omega) (by omega) (by rw [sn_len]; omega)]
    dsimp only
    rw [v90_263, if_neg (t_le (by rw [sn_len]; omega)), v90_266, v90_267, v90_271]
    exact g2
theorem ty_in {a : Nat} (hN : cN cs ≤ 4) (ha : a < 2 ^ 31) : ∀ d f u (t : List Nat), f + d = cN cs → d ≤ 4 → (0 < d → u = 10 ^ (d - 1)) → t.length + d < 80 → (∀ u' (t' : List Nat), t'.length = t.length + d → ZT sc 222 [.ref 1, .int x, .int (nI n), .int (nI (cN cs)), .int 1, l5, l6, l7, l8, .int (nI a), .int (nI u'), .int (nI (cN cs))] [] cs hs t') →
    ZT sc 173 [.ref 1, .int x, .int (nI n), .int (nI (cN cs)), .int 1, l5, l6, l7, l8, .int (nI a), .int (nI u), .int (nI f)] [] cs hs t := by
  intro d
  induction d with
  | zero =>
    intro f u t hf hd hu hl g
    obtain rfl : f = cN cs := by omega
    obtain ⟨t2, g1, g2⟩ := g u t rfl
    refine ⟨t2, g1, ?_⟩
    rw [v90_173, v90_175, v90_176, if_pos (Int32.le_refl _)]
    exact g2
  | succ d ih =>
    intro f u t hf hd hu hl g
    have hu := hu (by omega)
    rw [Nat.add_sub_cancel] at hu
    have hu0 : 0 < u := by rw [hu]; exact Nat.pow_pos (by omega)
    have hu1 : u ≤ 10000 := by
      rw [hu]
      exact Nat.le_trans (Nat.pow_le_pow_right (by omega) (show d ≤ 4 by omega)) (by decide)
    have had : a / u < 2 ^ 31 := Nat.lt_of_le_of_lt (Nat.div_le_self _ _) ha
    have hz : ¬ nI u = 0 := nI_ne0 hu0 (by omega)
    have hq : a / u % 10 < 10 := Nat.mod_lt _ (by omega)
    obtain ⟨t2, g1, g2⟩ := ih (f + 1) (u / 10) (t ++ [48 + a / u % 10]) (by omega) (by omega) (fun hd0 => by
      obtain ⟨d', rfl⟩ : ∃ d', d = d' + 1 := ⟨d - 1, by omega⟩
      rw [hu, Nat.pow_succ, Nat.mul_div_cancel _ (by omega)]
      rfl) (by rw [sn_len]; omega) (fun u' t' h => g u' t' (by rw [sn_len] at h; omega))
    refine ⟨t2, g1, ?_⟩
    rw [v90_173, v90_175, v90_176, if_neg (nI_ge (by omega) (by omega)), v90_179, v90_181, if_neg (by decide), v90_184, v90_185, v90_187, v90_189, v90_191 hz, pk_div ha hu0 (by omega), v90_192, v90_194 nz_10, i_rem10 had, v90_195, n48]
    refine v90_196 ?_
    rw [typ (by omega) (by omega) (by omega)]
    dsimp only
    rw [v90_199, if_neg (t_le (by omega)), v90_202, v90_203, v90_207, v90_209, v90_211, v90_213 nz_10, i_div10 (show u < 2 ^ 31 by omega), v90_214, v90_216, v90_219, nI_1]
    exact g2
theorem ty_mid {a p : Nat} (hN2 : 2 ≤ cN cs) (hN : cN cs ≤ 4) (ha : a < 10000) (hp : p < 2) (hl : t.length ≤ 70) (g : ∀ l9 l10 l11 (t' : List Nat), t'.length = t.length + 2 + cN cs → ZT sc 222 [.ref 1, .int x, .int (nI n), .int (nI (cN cs)), .int 1, l5, .int y, .int (nI p), l8, l9, l10, l11] [] cs hs t') :
    ZT sc 88 [.ref 1, .int x, .int (nI n), .int (nI (cN cs)), .int 1, l5, .int y, .int (nI p), l8, l9, l10, l11] [.int (nI a)] cs hs t := by
  have key : ∀ a2, a2 ≤ 10000 → ZT sc 112 [.ref 1, .int x, .int (nI n), .int (nI (cN cs)), .int 1, l5, .int y, .int (nI p), l8, .int (nI a2), l10, l11] [] cs hs t := by
    intro a2 ha2
    have lp : ∀ u, u = 10 ^ (cN cs - 1) → ZT sc 173 [.ref 1, .int x, .int (nI n), .int (nI (cN cs)), .int 1, l5, .int y, .int (nI p), l8, .int (nI a2), .int (nI u), .int (nI 0)] [] cs hs ((t ++ [48 + p]) ++ [58]) := fun u hu =>
      ty_in hN (by omega) (cN cs) 0 u _ (by omega) hN (fun _ => hu) (by rw [sn_len, sn_len]; omega) (fun u' t' h => g _ _ _ t' (by rw [sn_len, sn_len] at h; omega))
    have head : ∀ E, ZR sc 90 145 [.ref 1, .int x, .int (nI n), .int (nI (cN cs)), .int 1, l5, .int y, .int (nI p), l8, .int (nI a2), l10, l11] [] cs hs ((t ++ [48 + p]) ++ [58]) E → ZR sc 90 112 [.ref 1, .int x, .int (nI n), .int (nI (cN cs)), .int 1, l5, .int y, .int (nI p), l8, .int (nI a2), l10, l11] [] cs hs t E := by
      intro E hE
      rw [v90_112, v90_114, if_neg (by decide), v90_117, v90_118, v90_120, v90_122, n48]
      refine v90_123 ?_
      rw [typ (by omega) (by omega) (by omega)]
      dsimp only
      rw [v90_126, if_neg (t_le (by omega)), v90_129, v90_130]
      refine v90_132 ?_
      rw [typ_58 (by rw [sn_len]; omega)]
      dsimp only
      rw [v90_135, if_neg (t_le (by rw [sn_len]; omega)), v90_138, v90_139, v90_143]
      exact hE
    by_cases c2 : cN cs = 2
    · obtain ⟨t2, g1, g2⟩ := lp 10 (by rw [c2])
      refine ⟨t2, g1, head _ ?_⟩
      have e : nI (cN cs) = 2 := by rw [c2]; rfl
      rw [v90_145, v90_146, v90_147, if_neg (fun z => z e), v90_150, v90_152, v90_168, v90_170, v90_171]
      exact g2
    · have e : ¬ nI (cN cs) = 2 := fun z => c2 ((nI_eq (b := 2) (by omega) (by omega)).mp z)
      by_cases c3 : cN cs = 3
      · obtain ⟨t2, g1, g2⟩ := lp 100 (by rw [c3])
        refine ⟨t2, g1, head _ ?_⟩
        have e3 : nI (cN cs) = 3 := by rw [c3]; rfl
        rw [v90_145, v90_146, v90_147, if_pos e, v90_155, v90_156, v90_157, if_neg (fun z => z e3), v90_160, v90_162, v90_168, v90_170, v90_171]
        exact g2
      · have c4 : cN cs = 4 := by omega
        obtain ⟨t2, g1, g2⟩ := lp 1000 (by rw [c4])
        refine ⟨t2, g1, head _ ?_⟩
        have e3 : ¬ nI (cN cs) = 3 := fun z => c3 ((nI_eq (b := 3) (by omega) (by omega)).mp z)
        rw [v90_145, v90_146, v90_147, if_pos e, v90_155, v90_156, v90_157, if_pos e3, v90_165, v90_168, v90_170, v90_171]
        exact g2
  by_cases c : nI (loN (y >>> (4 &&& 31)) 15) = 0
  · obtain ⟨t2, g1, g2⟩ := key (a + 1) (by omega)
    refine ⟨t2, g1, ?_⟩
    rw [v90_88, v90_90, v90_92, v90_94, v90_95, v90_96, v90_98 nz_15, lo_15, v90_101, if_neg (fun z => z c), v90_104, v90_105, v90_109, nI_1, v90_110]
    exact g2
  · obtain ⟨t2, g1, g2⟩ := key (a + 0) (by omega)
    refine ⟨t2, g1, ?_⟩
    rw [v90_88, v90_90, v90_92, v90_94, v90_95, v90_96, v90_98 nz_15, lo_15, v90_101, if_pos c, v90_108, v90_109, show nI a + 0 = nI (a + 0) from nI_add a 0, v90_110]
    exact g2
theorem ty_out (hsk : sOk cs) (hn : n ≤ 4) : ∀ d k (t : List Nat) (l6 l7 l8 l9 l10 l11 : Value), k + d = n → t.length ≤ 9 * k → (0 < k → 0 < t.length) → 0 < n → ZT sc 31 [.ref 1, .int x, .int (nI n), .int (nI (cN cs)), .int 1, .int (nI k), l6, l7, l8, l9, l10, l11] [] cs hs t := by
  have ho := hsk.1
  have hN := ho.2.1
  intro d
  induction d with
  | zero =>
    intro k t l6 l7 l8 l9 l10 l11 hk hl ht hn0
    obtain rfl : k = n := by omega
    refine ⟨t, ht hn0, ?_⟩
    rw [v90_31, v90_33, v90_34, if_pos (Int32.le_refl _), v90_320]
    exact v90_322 (Or.inr rfl)
  | succ d ih =>
    intro k t l6 l7 l8 l9 l10 l11 hk hl ht hn0
    generalize hy : x >>> ((2 + 5 * nI k) &&& 31) = y
    have hp : loN y 2 < 2 := lo_lt (by omega)
    have hA := alL_len ho hp
    have mid : ∀ a, a < 10000 → ZT sc 88 [.ref 1, .int x, .int (nI n), .int (nI (cN cs)), .int 1, .int (nI k), .int y, .int (nI (loN y 2)), .int (nI (alL cs (loN y 2)).length), l9, l10, l11] [.int (nI a)] cs hs t := fun a ha =>
      ty_mid ho.1 hN ha hp (by omega) (fun l9 l10 l11 t1 h1 => ty_tail (by omega) (by omega) (fun t2 h2 h3 => by
        rw [nI_1]
        exact ih (k + 1) t2 _ _ _ _ _ _ (by omega) (by omega) (fun _ => h2) hn0))
    have head : ∀ E, ZR sc 90 66 [.ref 1, .int x, .int (nI n), .int (nI (cN cs)), .int 1, .int (nI k), .int y, .int (nI (loN y 2)), .int (nI (alL cs (loN y 2)).length), l9, l10, l11] [.int (nI (alL cs (loN y 2)).length)] cs hs t E → ZR sc 90 31 [.ref 1, .int x, .int (nI n), .int (nI (cN cs)), .int 1, .int (nI k), l6, l7, l8, l9, l10, l11] [] cs hs t E := by
      intro E hE
      rw [v90_31, v90_33, v90_34, if_neg (nI_ge (by omega) (by omega)), v90_37, v90_38, v90_39, v90_40, v90_42, v90_43, v90_44, hy, v90_45, v90_47, v90_49, v90_50 nz_2, lo_2, v90_53, v90_55, v90_56, v90_58]
      refine v90_59 ?_
      rw [all_m1 hp, v90_62, v90_64]
      exact hE
    by_cases c : (alL cs (loN y 2)).length = 0
    · obtain ⟨t2, g1, g2⟩ := mid 0 (by omega)
      refine ⟨t2, g1, head _ ?_⟩
      have e : nI (alL cs (loN y 2)).length = 0 := by rw [c]; rfl
      rw [v90_66, if_neg (fun z => z e), v90_69, v90_70]
      exact g2
    · have c0 : 0 < (alL cs (loN y 2)).length := by omega
      have hz : ¬ nI (alL cs (loN y 2)).length = 0 := nI_ne0 c0 (by omega)
      have hk2 := lo_lt (x := y >>> (1 &&& 31)) c0
      have ha := (alL_at hk2).1
      obtain ⟨t2, g1, g2⟩ := mid _ (show _ < 10000 by exact Nat.lt_trans ha (by omega))
      refine ⟨t2, g1, head _ ?_⟩
      rw [v90_66, if_pos hz, v90_73, v90_74, v90_76, v90_78, v90_79, v90_80, v90_82 hz, lo_n c0 (by omega)]
      refine v90_85 ?_
      rw [all_k ho hp hk2]
      exact g2
theorem types_1 (hsk : sOk cs) (hl : t.length ≤ 80) : ∃ t', 0 < t'.length ∧ ZR sc 90 0 [.ref 1, .int x, .null, .null, .null, .null, .null, .null, .null, .null, .null, .null] [] cs hs t (.int 1, cs, hs, t') := by
  have hn : loN x 4 < 4 := lo_lt (by omega)
  obtain ⟨t', h1, h2⟩ := ty_out (sc := sc) (x := x) (hs := hs) hsk (n := 1 + loN x 4) (by omega) (1 + loN x 4) 0 [] .null .null .null .null .null .null (by omega) (by show 0 ≤ _; omega) (fun z => by omega) (by omega)
  refine ⟨t', h1, ?_⟩
  rw [v90_0, v90_1, v90_2, v90_3 nz_4, lo_4, v90_6, show (1 : Int32) + nI (loN x 4) = nI (1 + loN x 4) from nI_add 1 _, v90_7, v90_8, v90_9]
  refine v90_10 ?_
  rw [cnt_0 hsk.1, v90_13, v90_14]
  refine v90_15 ?_
  rw [v90_18, if_neg (nI_pos (by omega)), v90_21, v90_22, v90_26, v90_28, v90_29]
  exact h2
end ZTY
