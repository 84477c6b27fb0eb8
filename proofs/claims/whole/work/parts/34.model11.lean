/-! ===== FieldMixturesModel: count, better ===== -/
section ZMB
variable {sc : Nat × (Nat → Int32)} {Q : Option Value → zA → Prop} {h : zA} {p : Nat → Option Nat} {iv : Nat → Nat → Int32} {cs d : CS} {hs : List CS} {t : List Nat} {x y z w lo hi : Int32} {q k i : Nat}
theorem M_count {v2 : Value} (R : RM iv cs hs t) : OKm sc 140 [.ref 91, .int x, v2] p iv (sCount cs hs.length t.length x) cs hs t := by
  obtain ⟨V, o⟩ := R.v
  have hN := o.1.2.1
  have hN2 := o.1.1
  have q19 : (19 : Int32) + nI (cN cs) = nI (19 + cN cs) := nI_add 19 (cN cs)
  have q29 : (29 : Int32) + nI (cN cs) = nI (29 + cN cs) := nI_add 29 (cN cs)
  have q39 : (39 : Int32) + nI (cN cs) = nI (39 + cN cs) := nI_add 39 (cN cs)
  refine ⟨iv, R, FM.rf, fun Q hQ => ?_⟩
  unfold sCount at hQ
  rw [q19, q29, q39] at hQ
  by_cases g0 : 0 ≤ x ∧ x ≤ 10
  · have d0 := decide_eq_true g0
    obtain ⟨j, hj, rfl⟩ := in_nI (k := 10) (by omega) g0.1 g0.2
    have n20 : ¬ ((20 : Int32) ≤ nI j ∧ nI j ≤ nI (19 + cN cs)) := fun z => by
      have := (nI_leI (a := 20) (b := j) (by omega) (by omega)).mp z.1
      omega
    have n30 : ¬ ((30 : Int32) ≤ nI j ∧ nI j ≤ nI (29 + cN cs)) := fun z => by
      have := (nI_leI (a := 30) (b := j) (by omega) (by omega)).mp z.1
      omega
    have n40 : ¬ ((40 : Int32) ≤ nI j ∧ nI j ≤ nI (39 + cN cs)) := fun z => by
      have := (nI_leI (a := 40) (b := j) (by omega) (by omega)).mp z.1
      omega
    rw [if_neg n20, if_neg n30, if_neg n40, if_pos g0, tn_nI (by omega)] at hQ
    simp only [u140_0, u140_1, u140_2, u140_4, u140_7, u140_10, u140_11, u140_12, u140_15, Option.toList_some, Option.toList_none, List.cons_append, List.nil_append, zRef_some, true_and, and_true, true_or, or_true, i10, i01, z91.1, m_in, d0, zb_t, if_false, m_counted R hj]
    exact hQ
  · have d0 := decide_eq_false g0
    by_cases g1 : 20 ≤ x ∧ x ≤ 49
    · have d1 := decide_eq_true g1
      obtain ⟨j, hj1, hj2, rfl⟩ := in_nI2 (l := 20) (k := 49) (by omega) (by omega) g1.1 g1.2
      have le : ∀ a b, a < 2 ^ 31 → b < 2 ^ 31 → (nI a ≤ nI b ↔ a ≤ b) := fun a b ha hb => nI_leI ha hb
      have p20 : ((20 : Int32) ≤ nI j ∧ nI j ≤ nI (19 + cN cs)) ↔ 20 ≤ j ∧ j ≤ 19 + cN cs := and_congr (le 20 j (by omega) (by omega)) (le j _ (by omega) (by omega))
      have p30 : ((30 : Int32) ≤ nI j ∧ nI j ≤ nI (29 + cN cs)) ↔ 30 ≤ j ∧ j ≤ 29 + cN cs := and_congr (le 30 j (by omega) (by omega)) (le j _ (by omega) (by omega))
      have p40 : ((40 : Int32) ≤ nI j ∧ nI j ≤ nI (39 + cN cs)) ↔ 40 ≤ j ∧ j ≤ 39 + cN cs := and_congr (le 40 j (by omega) (by omega)) (le j _ (by omega) (by omega))
      have head : zEv sc 140 0 [.ref 91, .int (nI j), v2] [] (zst p iv) Q ↔ (if cN cs ≤ j % 10 then zEv sc 140 44 [.ref 91, .int (nI j), v2] [] (zst p iv) Q else zEv sc 140 40 [.ref 91, .int (nI j), v2] [] (zst p iv) Q) := by
        simp only [u140_0, u140_1, u140_2, u140_4, u140_7, u140_16, u140_17, u140_19, u140_21, u140_24, u140_27, u140_28, u140_30, u140_31, u140_32, u140_35, u140_36, Option.toList_some, Option.toList_none, List.cons_append, List.nil_append, zRef_some, true_and, and_true, true_or, or_true, i10, i01, z91.1, m_in, d0, d1, zb_t, zb_f, if_true, if_false, n10_0, not_false_eq_true, n_d10 (show j < 2 ^ 31 by omega), n_r10 (show j < 2 ^ 31 by omega), z91.2.1, z91r.1, z92l.1, c0, v0, V.1]
        rw [u140_37]
        simp only [nI_leI (show cN cs < 2 ^ 31 by omega) (show j % 10 < 2 ^ 31 by omega)]
      rw [head]
      by_cases g2 : cN cs ≤ j % 10
      · have n20 : ¬ (20 ≤ j ∧ j ≤ 19 + cN cs) := by omega
        have n30 : ¬ (30 ≤ j ∧ j ≤ 29 + cN cs) := by omega
        have n40 : ¬ (40 ≤ j ∧ j ≤ 39 + cN cs) := by omega
        rw [if_neg (fun z => n20 (p20.mp z)), if_neg (fun z => n30 (p30.mp z)), if_neg (fun z => n40 (p40.mp z)), if_neg g0] at hQ
        rw [if_pos g2]
        simp only [u140_45, u140_46, u140_44]
        rw [u140_47, if_neg (fun z => z rfl)]
        simp only [u140_50, u140_52, u140_96]
        exact hQ
      · rw [if_neg g2]
        simp only [u140_40, u140_41, u140_45, u140_46, u140_44]
        rw [u140_47, if_pos (by decide), u140_55, u140_56, u140_58]
        by_cases g3 : j < 30
        · rw [if_pos (p20.mpr (by omega)), tn_nI (by omega)] at hQ
          rw [if_neg (by rw [show (30 : Int32) = nI 30 from rfl, nI_leI (by omega) (by omega)]; omega)]
          have e : nI (2 + j) - 20 = nI (2 + (j - 20)) := by
            rw [show (20 : Int32) = nI 20 from rfl, pk_sub (by omega)]
            congr 1
            omega
          simp only [u140_61, u140_62, u140_65, u140_66, u140_67, u140_68, u140_70, u140_71, u140_72, u140_96, zRef_some, true_and, z91.1, z91.2.1, z91r.1, z92l.1, n2, nI_add, e, okN (show 2 + (j - 20) < 66 by omega), nI_clamp (show 2 + (j - 20) < 2 ^ 31 by omega), V.2.2.1 (j - 20) (by omega)]
          exact hQ
        · rw [if_pos (by rw [show (30 : Int32) = nI 30 from rfl, nI_leI (by omega) (by omega)]; omega)]
          rw [if_neg (fun z => by have := p20.mp z; omega)] at hQ
          have base : ∀ q, q < 2 → j / 10 = 3 + q → (Q (some (.int (nI (cB cs q (j % 10))))) (zst p iv)) → zEv sc 140 75 [.ref 91, .int (nI j), .int (1 : Int32)] [] (zst p iv) Q := by
            intro q hq hjq hz
            have e3 : nI (j / 10) - 3 = nI q := by
              rw [show (3 : Int32) = nI 3 from rfl, pk_sub (by omega)]
              congr 1
              omega
            simp only [u140_75, u140_76, u140_79, u140_81, u140_82, zRef_some, z91.1, z91r.1]
            simp only [u140_83, u140_85, u140_86, u140_87, n10_0, not_false_eq_true, true_and, n_d10 (show j < 2 ^ 31 by omega), e3]
            rw [u140_88, n8, n4, pk_mul, u140_89, nI_add]
            simp only [u140_90, u140_91, u140_93, n10_0, not_false_eq_true, true_and, n_d10 (show j < 2 ^ 31 by omega), n_r10 (show j < 2 ^ 31 by omega)]
            simp only [u140_96, u140_94, u140_95, nI_add, true_and, z91.2.1, z92l.1, okN (show 8 + 4 * q + j % 10 < 66 by omega), nI_clamp (show 8 + 4 * q + j % 10 < 2 ^ 31 by omega), V.2.2.2.2.1 q (j % 10) hq (by omega)]
            exact hz
          by_cases g4 : j < 40
          · rw [if_pos (p30.mpr (by omega)), tn_nI (by omega), show j - 30 = j % 10 by omega] at hQ
            exact base 0 (by omega) (by omega) hQ
          · rw [if_neg (fun z => by have := p30.mp z; omega), if_pos (p40.mpr (by omega)), tn_nI (by omega), show j - 40 = j % 10 by omega] at hQ
            exact base 1 (by omega) (by omega) hQ
    · have d1 := decide_eq_false g1
      have nx : ∀ a b, 20 ≤ a → b ≤ 43 → a < 2 ^ 31 → ¬ (nI a ≤ x ∧ x ≤ nI b) := by
        intro a b ha hb ha2 hz
        obtain ⟨j, hj1, hj2, rfl⟩ := in_nI2 ha2 (by omega) hz.1 hz.2
        exact g1 ⟨(nI_leI (a := 20) (by omega) (by omega)).mpr (by omega), (nI_leI (b := 49) (by omega) (by omega)).mpr (by omega)⟩
      rw [if_neg (show ¬ ((20 : Int32) ≤ x ∧ x ≤ nI (19 + cN cs)) from nx 20 (19 + cN cs) (by omega) (by omega) (by omega)), if_neg (show ¬ ((30 : Int32) ≤ x ∧ x ≤ nI (29 + cN cs)) from nx 30 (29 + cN cs) (by omega) (by omega) (by omega)), if_neg (show ¬ ((40 : Int32) ≤ x ∧ x ≤ nI (39 + cN cs)) from nx 40 (39 + cN cs) (by omega) (by omega) (by omega)), if_neg g0] at hQ
      simp only [u140_0, u140_1, u140_2, u140_4, u140_7, u140_16, u140_17, u140_19, u140_21, u140_24, Option.toList_some, Option.toList_none, List.cons_append, List.nil_append, zRef_some, true_and, and_true, true_or, or_true, i10, i01, m_in, d0, d1, zb_f, if_true]
      simp only [u140_45, u140_46, u140_44]
      rw [u140_47, if_neg (fun z => z rfl)]
      simp only [u140_50, u140_52, u140_96]
      exact hQ
theorem m_isBetter {a b : Nat} {L : List Nat} {v4 v5 v6 v7 v8 : Value} (V : isV (iv 92) cs) (o : vOk cs) (hq : q < 2) (ha : a < 10000) (hb : b < 10000) (hA : isLL iv (1 - q) L) (hlt : ∀ k, k < L.length → L.getD k 0 < 10000) : zEv sc 130 0 [.ref 91, .int (nI q), .int (nI a), .int (nI b), v4, v5, v6, v7, v8] [] (zst p iv) Q ↔ Q (some (.int (zb (betG (fun o => gn (cT cs) q (cV cs) (cN cs) a o - gn (cT cs) q (cV cs) (cN cs) b o) L false)))) (zst p iv) := by
  have hl := hA.2.1
  have ho := o.1
  have stop : ∀ (g : Bool) (i : Nat) (w7 w8 : Value), zEv sc 130 98 [.ref 91, .int (nI q), .int (nI a), .int (nI b), .int 1, .int (zb g), .int (nI i), w7, w8] [] (zst p iv) Q ↔ Q (some (.int (zb g))) (zst p iv) := by
    intro g i w7 w8
    rw [u130_98, u130_100, if_neg (by decide)]
    simp only [u130_103]
    rw [u130_105]
    cases g with
    | true =>
      rw [zb_t, if_neg (by decide)]
      simp only [u130_108, u130_109, u130_113, Option.toList_some, Option.toList_none, List.cons_append, List.nil_append, zRef_some, true_and, and_true, true_or, or_true, i10, i01]
    | false =>
      rw [zb_f, if_pos rfl]
      simp only [u130_113, u130_112, Option.toList_some, Option.toList_none, List.cons_append, List.nil_append, zRef_some, true_and, and_true, true_or, or_true, i10, i01]
  have loop : ∀ d i g (w7 w8 : Value), L.length - i = d → i ≤ L.length → (zEv sc 130 9 [.ref 91, .int (nI q), .int (nI a), .int (nI b), .int 1, .int (zb g), .int (nI i), w7, w8] [] (zst p iv) Q ↔ Q (some (.int (zb (betG (fun o => gn (cT cs) q (cV cs) (cN cs) a o - gn (cT cs) q (cV cs) (cN cs) b o) (L.drop i) g)))) (zst p iv)) := by
    intro d
    induction d with
    | zero =>
      intro i g w7 w8 hd hi
      have : i = L.length := by omega
      subst this
      rw [List.drop_length, u130_9]
      simp only [u130_11, u130_12, u130_15, u130_16, u130_17, u130_18, zRef_some, true_and, z91.1, z91.2.2.2.2.2.2, z91r.2.2.2.2.2, z92l.2.2.2.2.2, e1q hq, vp_in_nI (show 1 - q < 2 by omega) (show (2 : Nat) < 2 ^ 31 by omega), nI_clamp (show 1 - q < 2 ^ 31 by omega), hA.1]
      rw [u130_19, if_pos (Int32.le_refl _), stop]
      exact Iff.rfl
    | succ d ih =>
      intro i g w7 w8 hd hi
      have hi2 : i < L.length := by omega
      rw [drop_getD hi2]
      have hL := hlt i hi2
      have e1 := hA.2.2 i hi2
      have ga := gn_abs ho q a (L.getD i 0)
      have gb := gn_abs ho q b (L.getD i 0)
      unfold betG
      have e2 : iI (gn (cT cs) q (cV cs) (cN cs) a (L.getD i 0)) - iI (gn (cT cs) q (cV cs) (cN cs) b (L.getD i 0)) = iI (gn (cT cs) q (cV cs) (cN cs) a (L.getD i 0) - gn (cT cs) q (cV cs) (cN cs) b (L.getD i 0)) := iI_sub _ _
      have gg : ∀ c, c < 10000 → ∀ Q, zEv sc 99 0 [.ref 91, .int (nI q), .int (nI c), .int (nI (L.getD i 0))] [] (zst p iv) Q ↔ Q (some (.int (iI (gn (cT cs) q (cV cs) (cN cs) c (L.getD i 0))))) (zst p iv) := fun c hc Q => m_gainOf V ho hq hc hL
      obtain ⟨D, hD⟩ : ∃ D : Int, D = gn (cT cs) q (cV cs) (cN cs) a (L.getD i 0) - gn (cT cs) q (cV cs) (cN cs) b (L.getD i 0) := ⟨_, rfl⟩
      have hDa : D.natAbs ≤ 72 := by omega
      rw [← hD] at e2 ⊢
      have hd2 : zEv sc 130 9 [.ref 91, .int (nI q), .int (nI a), .int (nI b), .int 1, .int (zb g), .int (nI i), w7, w8] [] (zst p iv) Q ↔ zEv sc 130 63 [.ref 91, .int (nI q), .int (nI a), .int (nI b), .int 1, .int (zb g), .int (nI i), .int (nI (L.getD i 0)), .int (iI D)] [] (zst p iv) Q := by
        rw [u130_9]
        simp only [u130_11, u130_12, u130_15, u130_16, u130_17, u130_18, zRef_some, true_and, z91.1, z91.2.2.2.2.2.2, z91r.2.2.2.2.2, z92l.2.2.2.2.2, e1q hq, vp_in_nI (show 1 - q < 2 by omega) (show (2 : Nat) < 2 ^ 31 by omega), nI_clamp (show 1 - q < 2 ^ 31 by omega), hA.1]
        rw [u130_19, if_neg (by rw [nI_leI (by omega) (by omega)]; omega), u130_22, u130_24, if_neg (by decide)]
        simp only [u130_27, u130_28, u130_31, u130_34, u130_35, u130_36, u130_37, u130_38, u130_40, u130_41, u130_42, u130_44, u130_45, u130_46, u130_47, u130_49, u130_52, u130_53, u130_54, u130_55, u130_57, u130_60, u130_61, Option.toList_some, Option.toList_none, List.cons_append, List.nil_append, zRef_some, true_and, and_true, true_or, or_true, i10, i01, z91.1, z91.2.2.2.2.2.1, z91r.2.2.2.2.1, z92l.2.2.2.2.1, n170, pk_mul, nI_add, e1q hq, vp_in_nI (show 170 * (1 - q) + i < 340 by omega) (by omega), nI_clamp (show 170 * (1 - q) + i < 2 ^ 31 by omega), e1, gg a ha, gg b hb, e2]
      rw [hd2, u130_63, u130_65]
      have f0 : (iI D < 0) ↔ D < 0 := by rw [show (0 : Int32) = iI 0 from rfl, iI_lt (by omega) (by omega)]
      have f1 : (iI D ≤ 0) ↔ D ≤ 0 := by rw [show (0 : Int32) = iI 0 from rfl, iI_le (by omega) (by omega)]
      -- whether more
      have more : ∀ l : Bool, zEv sc 130 73 [.ref 91, .int (nI q), .int (nI a), .int (nI b), .int 1, .int (zb g), .int (nI i), .int (nI (L.getD i 0)), .int (iI D)] [.int (zb l)] (zst p iv) Q ↔ zEv sc 130 9 [.ref 91, .int (nI q), .int (nI a), .int (nI b), .int (zb l), .int (zb (g || decide (0 < D))), .int (nI (i + 1)), .int (nI (L.getD i 0)), .int (iI D)] [] (zst p iv) Q := by
        intro l
        rw [u130_73, u130_75, u130_77]
        cases g with
        | true =>
          rw [zb_t, if_pos (by decide)]
          simp only [u130_85, u130_86, u130_90, u130_92, u130_95, nI_1]
          rfl
        | false =>
          rw [zb_f, if_neg (fun z => z rfl)]
          simp only [u130_80]
          rw [u130_82]
          by_cases h4 : D ≤ 0
          · rw [if_pos (f1.mpr h4), decide_eq_false (show ¬ 0 < D by omega)]
            simp only [u130_89, u130_90, u130_92, u130_95, nI_1]
            rfl
          · rw [if_neg (fun z => h4 (f1.mp z)), decide_eq_true (show 0 < D by omega)]
            simp only [u130_85, u130_86, u130_90, u130_92, u130_95, nI_1]
            rfl
      by_cases h0 : D < 0
      · rw [if_pos (f0.mpr h0), if_pos h0, u130_72]
        have m0 := more false
        rw [zb_f] at m0
        rw [m0, u130_9]
        simp only [u130_11, u130_12, u130_15, u130_16, u130_17, u130_18, zRef_some, true_and, z91.1, z91.2.2.2.2.2.2, z91r.2.2.2.2.2, z92l.2.2.2.2.2, e1q hq, vp_in_nI (show 1 - q < 2 by omega) (show (2 : Nat) < 2 ^ 31 by omega), nI_clamp (show 1 - q < 2 ^ 31 by omega), hA.1]
        have fin : ∀ (w5 w6 w7 w8 : Value), zEv sc 130 98 [.ref 91, .int (nI q), .int (nI a), .int (nI b), .int 0, w5, w6, w7, w8] [] (zst p iv) Q ↔ Q (some (.int (zb false))) (zst p iv) := by
          intro w5 w6 w7 w8
          rw [u130_98, u130_100, if_pos rfl]
          simp only [u130_113, u130_112, Option.toList_some, Option.toList_none, List.cons_append, List.nil_append, zRef_some, true_and, and_true, true_or, or_true, i10, i01]
          exact Iff.rfl
        rw [u130_19]
        by_cases h1 : nI L.length ≤ nI (i + 1)
        · rw [if_pos h1, fin]
        · rw [if_neg h1, u130_22, u130_24, if_pos rfl, fin]
      · rw [if_neg (fun z => h0 (f0.mp z)), if_neg h0, u130_68, u130_69]
        have m1 := more true
        rw [zb_t] at m1
        rw [m1]
        exact ih (i + 1) _ _ _ (by omega) (by omega)
  have l0 := loop _ 0 false v7 v8 rfl (by omega)
  rw [nI_0, zb_f] at l0
  simp only [u130_0, u130_1, u130_3, u130_4, u130_6, u130_7]
  exact l0
end ZMB
