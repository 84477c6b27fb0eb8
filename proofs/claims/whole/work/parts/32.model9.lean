/-! ===== FieldMixturesModel: mixtures and gains, asked for ===== -/
section ZM9
variable {sc : Nat × (Nat → Int32)} {Q : Option Value → zA → Prop} {h : zA} {p : Nat → Option Nat} {iv : Nat → Nat → Int32} {cs d : CS} {hs : List CS} {t : List Nat} {x y z w lo hi : Int32} {q k i : Nat}
theorem e1q (hq : q < 2) : (1 : Int32) - nI q = nI (1 - q) := by
  rw [show (1 : Int32) = nI 1 from rfl, pk_sub (by omega)]
theorem mx_0 (V : isV (iv 92) cs) : zEv sc 101 0 [.ref 91, .int 0] [] (zst p iv) Q ↔ Q (some (.int (nI (cM cs 0).length))) (zst p iv) := m_mixed (q := 0) V (by omega)
theorem mx_1 (V : isV (iv 92) cs) : zEv sc 101 0 [.ref 91, .int 1] [] (zst p iv) Q ↔ Q (some (.int (nI (cM cs 1).length))) (zst p iv) := m_mixed (q := 1) V (by omega)
theorem wo_0 (V : isV (iv 92) cs) (o : vOk cs) : zEv sc 104 0 [.ref 91, .int 0, .null, .null] [] (zst p iv) Q ↔ Q (some (.int (nI (mSum (cM cs 0))))) (zst p iv) := m_weightOf (q := 0) V o (by omega)
theorem wo_1 (V : isV (iv 92) cs) (o : vOk cs) : zEv sc 104 0 [.ref 91, .int 1, .null, .null] [] (zst p iv) Q ↔ Q (some (.int (nI (mSum (cM cs 1))))) (zst p iv) := m_weightOf (q := 1) V o (by omega)
theorem m_areMixed (V : isV (iv 92) cs) (o : vOk cs) : zEv sc 135 0 [.ref 91] [] (zst p iv) Q ↔ Q (some (.int (zb (decide (¬ ((cM cs 0).length = 0 ∨ (cM cs 1).length = 0)))))) (zst p iv) := by
  have l0 := (o.2 0 (by omega)).1
  have l1 := (o.2 1 (by omega)).1
  have c0 : (nI (cM cs 0).length ≤ 0) ↔ (cM cs 0).length ≤ 0 := by rw [← nI_0]; exact nI_leI (by omega) (by omega)
  have c1 : (nI (cM cs 1).length ≤ 0) ↔ (cM cs 1).length ≤ 0 := by rw [← nI_0]; exact nI_leI (by omega) (by omega)
  simp only [u135_0, u135_1, u135_2, Option.toList_some, Option.toList_none, List.cons_append, List.nil_append, zRef_some, true_and, and_true, true_or, or_true, i10, i01, z91.1, mx_0 V]
  rw [u135_5]
  by_cases e0 : (cM cs 0).length = 0
  · rw [if_pos (c0.mpr (by omega)), decide_eq_false (fun z => z (Or.inl e0))]
    simp only [u135_21, u135_20, Option.toList_some, Option.toList_none, List.cons_append, List.nil_append, zRef_some, true_and, and_true, true_or, or_true, i10, i01]
    exact Iff.rfl
  · rw [if_neg (fun z => e0 (by have := c0.mp z; omega))]
    simp only [u135_8, u135_9, u135_10, Option.toList_some, Option.toList_none, List.cons_append, List.nil_append, zRef_some, true_and, and_true, true_or, or_true, i10, i01, z91.1, mx_1 V]
    rw [u135_13]
    by_cases e1 : (cM cs 1).length = 0
    · rw [if_pos (c1.mpr (by omega)), decide_eq_false (fun z => z (Or.inr e1))]
      simp only [u135_21, u135_20, Option.toList_some, Option.toList_none, List.cons_append, List.nil_append, zRef_some, true_and, and_true, true_or, or_true, i10, i01]
      exact Iff.rfl
    · rw [if_neg (fun z => e1 (by have := c1.mp z; omega)), decide_eq_true (show ¬ ((cM cs 0).length = 0 ∨ (cM cs 1).length = 0) from fun z => z.elim e0 e1)]
      simp only [u135_16, u135_17, u135_21, Option.toList_some, Option.toList_none, List.cons_append, List.nil_append, zRef_some, true_and, and_true, true_or, or_true, i10, i01]
      exact Iff.rfl
theorem M_mixOf (R : RM iv cs hs t) : OKm sc 132 [.ref 91, .int x, .int y, .int w] p iv (sMixOf cs x y w) cs hs t := by
  obtain ⟨V, o⟩ := R.v
  unfold sMixOf
  refine ⟨iv, R, FM.rf, fun Q hQ => ?_⟩
  by_cases g1 : isQ x
  · have d1 := decide_eq_true g1
    by_cases g3 : 0 ≤ w ∧ w ≤ 3
    · have d3 := decide_eq_true g3
      by_cases g2 : 0 ≤ y
      · rw [if_pos ⟨g1, g2, g3⟩] at hQ
        obtain ⟨q, hq, rfl⟩ := isQ_nI g1
        have g2' : ¬ y < 0 := by
          rw [Int32.lt_iff_toInt_lt]
          rw [Int32.le_iff_toInt_le] at g2
          omega
        obtain ⟨i, hi, rfl⟩ := nI_of g2'
        obtain ⟨k, hk, rfl⟩ := in_nI (k := 3) (by omega) g3.1 g3.2
        rw [tn_nI (by omega), tn_nI hi] at hQ
        have hq1 : 1 - q < 2 := by omega
        have hl := (o.2 q hq).1
        have om := o.2 _ hq1
        have hl1 := om.1
        have o2 := mSum_ok om
        have e12 : (2 ≤ nI k) ↔ 2 ≤ k := by
          rw [show (2 : Int32) = nI 2 from rfl]
          exact nI_leI (by omega) (by omega)
        have head : zEv sc 132 0 [.ref 91, .int (nI q), .int (nI i), .int (nI k)] [] (zst p iv) Q ↔ zEv sc 132 23 [.ref 91, .int (nI q), .int (nI i), .int (nI k)] [] (zst p iv) Q := by
          simp only [u132_0, u132_1, u132_4, u132_7, u132_8, u132_9, u132_10, u132_13, u132_16, u132_17, m_isPlayer, m_in, d1, d3, if_pos g2, zb_t, Option.toList_some, Option.toList_none, List.cons_append, List.nil_append, zRef_some, true_and, and_true, true_or, or_true, i10, i01, if_false]
        rw [head, u132_23, u132_24, u132_25]
        have h41 : ∀ (hQ : (if (cM cs q).length ≤ i then Q (some (.int eNF)) (zst p iv) else zEv sc 132 53 [.ref 91, .int (nI q), .int (nI i), .int (nI k)] [] (zst p iv) Q)), zEv sc 132 41 [.ref 91, .int (nI q), .int (nI i), .int (nI k)] [] (zst p iv) Q := by
          intro hQ
          simp only [u132_41, u132_42, u132_43, u132_44, Option.toList_some, Option.toList_none, List.cons_append, List.nil_append, zRef_some, true_and, and_true, true_or, or_true, i10, i01, z91.1, m_mixed V hq]
          rw [u132_47]
          by_cases e : (cM cs q).length ≤ i
          · rw [if_pos e] at hQ
            rw [if_neg (by rw [nI_ltI hi (by omega)]; omega)]
            simp only [u132_50, u132_52]
            exact hQ
          · rw [if_neg e] at hQ
            rw [if_pos (by rw [nI_ltI hi (by omega)]; omega)]
            exact hQ
        have e1k : (nI k ≤ 1) ↔ k ≤ 1 := by
          rw [show (1 : Int32) = nI 1 from rfl]
          exact nI_leI (by omega) (by omega)
        by_cases g4 : 2 ≤ nI k ∧ (oM cs q).length = 0
        · rw [if_pos g4] at hQ
          have g4' : (cM cs (1 - q)).length = 0 := g4.2
          rw [if_neg (by rw [e1k]; have := e12.mp g4.1; omega)]
          simp only [u132_28, u132_29, u132_30, u132_31, u132_32, u132_35, u132_38, u132_40, Option.toList_some, Option.toList_none, List.cons_append, List.nil_append, zRef_some, true_and, and_true, true_or, or_true, i10, i01, z91.1, e1q hq, m_mixed V hq1, g4']
          rw [if_neg (fun z => z (show nI 0 = 0 from rfl))]
          exact hQ
        · rw [if_neg g4] at hQ
          have to41 : zEv sc 132 41 [.ref 91, .int (nI q), .int (nI i), .int (nI k)] [] (zst p iv) Q → (if nI k ≤ 1 then zEv sc 132 41 [.ref 91, .int (nI q), .int (nI i), .int (nI k)] [] (zst p iv) Q else zEv sc 132 28 [.ref 91, .int (nI q), .int (nI i), .int (nI k)] [] (zst p iv) Q) := by
            intro hz
            by_cases e : k ≤ 1
            · rw [if_pos (e1k.mpr e)]; exact hz
            · rw [if_neg (fun z => e (e1k.mp z))]
              have g5 : ¬ (cM cs (1 - q)).length = 0 := fun z => g4 ⟨e12.mpr (by omega), z⟩
              simp only [u132_28, u132_29, u132_30, u132_31, u132_32, Option.toList_some, Option.toList_none, List.cons_append, List.nil_append, zRef_some, true_and, and_true, true_or, or_true, i10, i01, z91.1, e1q hq, m_mixed V hq1]
              rw [u132_35, if_pos (nI_ne0 (by omega) (by omega))]
              exact hz
          refine to41 (h41 ?_)
          by_cases g5 : (cM cs q).length ≤ i
          · rw [if_pos g5] at hQ ⊢
            exact hQ
          · rw [if_neg g5] at hQ ⊢
            have hk2 : i < (cM cs q).length := by omega
            have hA := mA_lt (o.2 q hq) hk2
            rw [u132_53]
            rcases (show k = 0 ∨ k = 1 ∨ 2 ≤ k by omega) with rfl | rfl | hk3
            · rw [if_pos (show nI 0 = 0 from rfl)] at hQ
              rw [show nI 0 = 0 from rfl, u132_54_0]
              simp only [u132_80, u132_81, u132_82, u132_83, u132_86, Option.toList_some, Option.toList_none, List.cons_append, List.nil_append, zRef_some, true_and, and_true, true_or, or_true, i10, i01, z91.1, m_allocAt V o hq hk2]
              exact hQ
            · rw [if_neg (by decide), if_pos (show nI 1 = 1 from rfl)] at hQ
              rw [show nI 1 = 1 from rfl, u132_54_1]
              simp only [u132_87, u132_88, u132_89, u132_90, u132_93, Option.toList_some, Option.toList_none, List.cons_append, List.nil_append, zRef_some, true_and, and_true, true_or, or_true, i10, i01, z91.1, m_weightAt V o hq hk2]
              exact hQ
            · have k0 : ¬ nI k = 0 := nI_ne0 (by omega) (by omega)
              have k1 : ¬ nI k = 1 := by rw [show (1 : Int32) = nI 1 from rfl, nI_eq (by omega) (by omega)]; omega
              rw [if_neg k0, if_neg k1] at hQ
              have hlo : 0 < (cM cs (1 - q)).length := Nat.pos_of_ne_zero (fun z => g4 ⟨e12.mpr hk3, z⟩)
              have hsc := sco_abs o.1 q om (mA (cM cs q) i)
              have o3 : 0 < mSum (oM cs q) ∧ mSum (oM cs q) ≤ 1188 := ⟨o2.2 hlo, o2.1⟩
              have hsc : (sco cs q (oM cs q) (mA (cM cs q) i)).natAbs ≤ 42768 := hsc
              have wo : ∀ Q, zEv sc 104 0 [.ref 91, .int (nI (1 - q)), .null, .null] [] (zst p iv) Q ↔ Q (some (.int (nI (mSum (oM cs q))))) (zst p iv) := fun Q => m_weightOf V o hq1
              rw [u132_54_d k0 k1]
              simp only [u132_94, u132_95, u132_96, u132_97, u132_98, u132_99, u132_102, u132_105, u132_106, u132_107, u132_108, u132_109, u132_112, u132_113, u132_114, u132_115, u132_118, Option.toList_some, Option.toList_none, List.cons_append, List.nil_append, zRef_some, true_and, and_true, true_or, or_true, i10, i01, z91.1, m_allocAt V o hq hk2, m_sumOf V o hq hA, e1q hq, wo, m_part (show (sco cs q (oM cs q) (mA (cM cs q) i)).natAbs < 2 ^ 31 by omega) o3.1 (show mSum (oM cs q) < 2 ^ 31 by omega)]
              exact hQ
      · rw [if_neg (fun z => g2 z.2.1)] at hQ
        simp only [u132_0, u132_1, u132_4, u132_7, u132_8, u132_9, u132_10, u132_13, u132_16, u132_17, u132_20, u132_22, m_isPlayer, m_in, d1, d3, if_neg g2, zb_t, Option.toList_some, Option.toList_none, List.cons_append, List.nil_append, zRef_some, true_and, and_true, true_or, or_true, i10, i01, if_false]
        exact hQ
    · rw [if_neg (fun z => g3 z.2.2)] at hQ
      simp only [u132_0, u132_1, u132_4, u132_7, u132_8, u132_9, u132_10, u132_13, u132_16, u132_17, u132_20, u132_22, m_isPlayer, m_in, d1, decide_eq_false g3, zb_t, zb_f, Option.toList_some, Option.toList_none, List.cons_append, List.nil_append, zRef_some, true_and, and_true, true_or, or_true, i10, i01, if_true, if_false]
      exact hQ
  · rw [if_neg (fun z => g1 z.1)] at hQ
    simp only [u132_0, u132_1, u132_4, u132_7, u132_8, u132_9, u132_10, u132_13, u132_16, u132_17, u132_20, u132_22, m_isPlayer, decide_eq_false g1, zb_f, Option.toList_some, Option.toList_none, List.cons_append, List.nil_append, zRef_some, true_and, and_true, true_or, or_true, i10, i01, if_true]
    exact hQ
theorem M_marg {v4 v5 : Value} (R : RM iv cs hs t) : OKm sc 133 [.ref 91, .int x, .int y, .int z, v4, v5] p iv (sMarg cs x y z) cs hs t := by
  obtain ⟨V, o⟩ := R.v
  unfold sMarg
  refine ⟨iv, R, FM.rf, fun Q hQ => ?_⟩
  by_cases g1 : isQ x
  · have d1 := decide_eq_true g1
    by_cases g2 : isF cs y
    · have d2 : decide (0 ≤ y ∧ y ≤ nI (cN cs) - 1) = true := decide_eq_true g2
      by_cases g3 : 0 ≤ z ∧ z ≤ 8
      · have d3 := decide_eq_true g3
        rw [if_pos ⟨g1, g2, g3⟩] at hQ
        obtain ⟨q, hq, rfl⟩ := isQ_nI g1
        obtain ⟨f, hf, rfl⟩ := isF_nI o.1 g2
        obtain ⟨a, ha, rfl⟩ := in_nI (k := 8) (by omega) g3.1 g3.2
        have hN := o.1.2.1
        rw [tn_nI (by omega), tn_nI (by omega), tn_nI (by omega)] at hQ
        have hl := (o.2 q hq).1
        have loop : ∀ d i, (cM cs q).length - i = d → i ≤ (cM cs q).length → zEv sc 133 34 [.ref 91, .int (nI q), .int (nI f), .int (nI a), .int (nI (mrg (cM cs q) (cN cs) f a i)), .int (nI i)] [] (zst p iv) Q := by
          intro d
          induction d with
          | zero =>
            intro i hd hi
            have : i = (cM cs q).length := by omega
            subst this
            rw [u133_34]
            simp only [u133_36, u133_37, u133_38, Option.toList_some, Option.toList_none, List.cons_append, List.nil_append, zRef_some, true_and, and_true, true_or, or_true, i10, i01, z91.1, m_mixed V hq]
            rw [u133_41, if_pos (Int32.le_refl _)]
            simp only [u133_82, u133_84]
            exact hQ
          | succ d ih =>
            intro i hd hi
            have hk2 : i < (cM cs q).length := by omega
            have hA := mA_lt (o.2 q hq) hk2
            have hdg := dg_lt (cN cs) (mA (cM cs q) i) f
            have ih1 := ih (i + 1) (by omega) (by omega)
            unfold mrg at ih1
            rw [u133_34]
            simp only [u133_36, u133_37, u133_38, Option.toList_some, Option.toList_none, List.cons_append, List.nil_append, zRef_some, true_and, and_true, true_or, or_true, i10, i01, z91.1, m_mixed V hq]
            rw [u133_41, if_neg (by rw [nI_leI (by omega) (by omega)]; omega)]
            simp only [u133_44, u133_46, u133_47, u133_48, u133_49, u133_51, u133_54, u133_55, u133_58, Option.toList_some, Option.toList_none, List.cons_append, List.nil_append, zRef_some, true_and, and_true, true_or, or_true, i10, i01, z91.1, m_allocAt V o hq hk2, m_amount V o.1.w hf hA]
            rw [u133_59]
            by_cases e : dg (cN cs) (mA (cM cs q) i) f = a
            · rw [if_pos e] at ih1
              rw [if_neg (fun z => z (by rw [e]))]
              simp only [u133_62, u133_63, u133_64, u133_66, u133_69, u133_73, u133_74, u133_76, u133_79, u133_72, Option.toList_some, Option.toList_none, List.cons_append, List.nil_append, zRef_some, true_and, and_true, true_or, or_true, i10, i01, z91.1, m_weightAt V o hq hk2, nI_add, nI_1]
              exact ih1
            · rw [if_neg e] at ih1
              rw [if_pos (by rw [nI_eq (by omega) (by omega)]; exact e)]
              simp only [u133_73, u133_74, u133_76, u133_79, u133_72, ← nI_0, nI_add, nI_1]
              exact ih1
        have l0 := loop _ 0 rfl (by omega)
        unfold mrg at l0
        rw [nI_0] at l0
        simp only [u133_0, u133_1, u133_4, u133_7, u133_8, u133_9, u133_12, u133_15, u133_16, u133_17, u133_19, u133_22, u133_28, u133_29, u133_31, u133_32, u133_25, u133_27, Option.toList_some, Option.toList_none, List.cons_append, List.nil_append, zRef_some, true_and, and_true, true_or, or_true, i10, i01, z91.1, m_isPlayer, m_in, m_isField V, d1, d2, d3, zb_t, not_false_eq_true, if_true, if_false]
        exact l0
      · rw [if_neg (fun z => g3 z.2.2)] at hQ
        simp only [u133_0, u133_1, u133_4, u133_7, u133_8, u133_9, u133_12, u133_15, u133_16, u133_17, u133_19, u133_22, u133_25, u133_27, Option.toList_some, Option.toList_none, List.cons_append, List.nil_append, zRef_some, true_and, and_true, true_or, or_true, i10, i01, z91.1, m_isPlayer, m_in, m_isField V, d1, d2, decide_eq_false g3, zb_t, zb_f, not_true_eq_false, if_false]
        exact hQ
    · rw [if_neg (fun z => g2 z.2.1)] at hQ
      have d2 : decide (0 ≤ y ∧ y ≤ nI (cN cs) - 1) = false := decide_eq_false g2
      simp only [u133_0, u133_1, u133_4, u133_7, u133_8, u133_9, u133_12, u133_15, u133_16, u133_17, u133_19, u133_22, u133_25, u133_27, Option.toList_some, Option.toList_none, List.cons_append, List.nil_append, zRef_some, true_and, and_true, true_or, or_true, i10, i01, z91.1, m_isPlayer, m_isField V, d1, d2, zb_t, zb_f, if_true, if_false]
      exact hQ
  · rw [if_neg (fun z => g1 z.1)] at hQ
    simp only [u133_0, u133_1, u133_4, u133_7, u133_8, u133_9, u133_12, u133_15, u133_16, u133_17, u133_19, u133_22, u133_25, u133_27, Option.toList_some, Option.toList_none, List.cons_append, List.nil_append, zRef_some, true_and, and_true, true_or, or_true, i10, i01, m_isPlayer, decide_eq_false g1, zb_f, if_true]
    exact hQ
theorem M_mean {v4 v5 : Value} (R : RM iv cs hs t) : OKm sc 134 [.ref 91, .int x, .int y, .int z, v4, v5] p iv (sMean cs x y z) cs hs t := by
  obtain ⟨V, o⟩ := R.v
  unfold sMean
  refine ⟨iv, R, FM.rf, fun Q hQ => ?_⟩
  by_cases g1 : isQ x
  · have d1 := decide_eq_true g1
    by_cases g2 : isF cs y
    · have d2 : decide (0 ≤ y ∧ y ≤ nI (cN cs) - 1) = true := decide_eq_true g2
      by_cases g3 : isQ z
      · have d3 : decide (0 ≤ z ∧ z ≤ 1) = true := decide_eq_true g3
        rw [if_pos ⟨g1, g2, g3⟩] at hQ
        obtain ⟨q, hq, rfl⟩ := isQ_nI g1
        obtain ⟨f, hf, rfl⟩ := isF_nI o.1 g2
        have hN := o.1.2.1
        rw [tn_nI (by omega), tn_nI (by omega)] at hQ
        have om := o.2 q hq
        have hl := om.1
        have head : zEv sc 134 0 [.ref 91, .int (nI q), .int (nI f), .int z, v4, v5] [] (zst p iv) Q ↔ (if ¬ (cM cs q).length = 0 then zEv sc 134 38 [.ref 91, .int (nI q), .int (nI f), .int z, v4, v5] [] (zst p iv) Q else zEv sc 134 35 [.ref 91, .int (nI q), .int (nI f), .int z, v4, v5] [] (zst p iv) Q) := by
          simp only [u134_0, u134_1, u134_4, u134_7, u134_8, u134_9, u134_12, u134_15, u134_16, u134_17, u134_18, u134_21, u134_27, u134_28, u134_29, u134_32, u134_24, u134_26, Option.toList_some, Option.toList_none, List.cons_append, List.nil_append, zRef_some, true_and, and_true, true_or, or_true, i10, i01, z91.1, m_isPlayer, m_in, m_isField V, d1, d2, d3, zb_t, not_false_eq_true, if_true, if_false, m_mixed V hq, nI_zero (show (cM cs q).length < 2 ^ 31 by omega)]
        rw [head]
        by_cases g4 : (cM cs q).length = 0
        · rw [if_pos g4] at hQ
          rw [if_neg (fun z => z g4)]
          simp only [u134_35, u134_37]
          exact hQ
        · rw [if_neg g4] at hQ
          rw [if_pos g4]
          have o2 := mSum_ok om
          have hmn := mnS_le om (cN cs) f (cM cs q).length (Nat.le_refl _)
          have loop : ∀ d i, (cM cs q).length - i = d → i ≤ (cM cs q).length → zEv sc 134 44 [.ref 91, .int (nI q), .int (nI f), .int z, .int (nI (mnS (cM cs q) (cN cs) f i)), .int (nI i)] [] (zst p iv) Q := by
            intro d
            induction d with
            | zero =>
              intro i hd hi
              have : i = (cM cs q).length := by omega
              subst this
              rw [u134_44]
              simp only [u134_46, u134_47, u134_48, Option.toList_some, Option.toList_none, List.cons_append, List.nil_append, zRef_some, true_and, and_true, true_or, or_true, i10, i01, z91.1, m_mixed V hq]
              rw [u134_51, if_pos (Int32.le_refl _)]
              simp only [u134_85, u134_87, u134_88, u134_89, u134_92, u134_93, u134_96, Option.toList_some, Option.toList_none, List.cons_append, List.nil_append, zRef_some, true_and, and_true, true_or, or_true, i10, i01, z91.1, m_weightOf V o hq, nI_iI (mnS (cM cs q) (cN cs) f (cM cs q).length), m_part (show ((mnS (cM cs q) (cN cs) f (cM cs q).length : Nat) : Int).natAbs < 2 ^ 31 by omega) (o2.2 (by omega)) (show mSum (cM cs q) < 2 ^ 31 by omega)]
              exact hQ
            | succ d ih =>
              intro i hd hi
              have hk2 : i < (cM cs q).length := by omega
              have hA := mA_lt om hk2
              have ih1 := ih (i + 1) (by omega) (by omega)
              unfold mnS at ih1
              rw [Nat.mul_comm] at ih1
              rw [u134_44]
              simp only [u134_46, u134_47, u134_48, Option.toList_some, Option.toList_none, List.cons_append, List.nil_append, zRef_some, true_and, and_true, true_or, or_true, i10, i01, z91.1, m_mixed V hq]
              rw [u134_51, if_neg (by rw [nI_leI (by omega) (by omega)]; omega)]
              simp only [u134_54, u134_56, u134_57, u134_58, u134_59, u134_61, u134_64, u134_65, u134_68, u134_69, u134_70, u134_72, u134_75, u134_76, u134_77, u134_79, u134_82, Option.toList_some, Option.toList_none, List.cons_append, List.nil_append, zRef_some, true_and, and_true, true_or, or_true, i10, i01, z91.1, m_allocAt V o hq hk2, m_weightAt V o hq hk2, m_amount V o.1.w hf hA, pk_mul, nI_add, nI_1]
              exact ih1
          have l0 := loop _ 0 rfl (by omega)
          unfold mnS at l0
          rw [nI_0] at l0
          simp only [u134_38, u134_39, u134_41, u134_42]
          exact l0
      · rw [if_neg (fun z => g3 z.2.2)] at hQ
        have d3 : decide (0 ≤ z ∧ z ≤ 1) = false := decide_eq_false g3
        simp only [u134_0, u134_1, u134_4, u134_7, u134_8, u134_9, u134_12, u134_15, u134_16, u134_17, u134_18, u134_21, u134_24, u134_26, Option.toList_some, Option.toList_none, List.cons_append, List.nil_append, zRef_some, true_and, and_true, true_or, or_true, i10, i01, z91.1, m_isPlayer, m_in, m_isField V, d1, d2, d3, zb_t, zb_f, not_true_eq_false, if_false]
        exact hQ
    · rw [if_neg (fun z => g2 z.2.1)] at hQ
      have d2 : decide (0 ≤ y ∧ y ≤ nI (cN cs) - 1) = false := decide_eq_false g2
      simp only [u134_0, u134_1, u134_4, u134_7, u134_8, u134_9, u134_12, u134_15, u134_16, u134_17, u134_18, u134_21, u134_24, u134_26, Option.toList_some, Option.toList_none, List.cons_append, List.nil_append, zRef_some, true_and, and_true, true_or, or_true, i10, i01, z91.1, m_isPlayer, m_isField V, d1, d2, zb_t, zb_f, if_true, if_false]
      exact hQ
  · rw [if_neg (fun z => g1 z.1)] at hQ
    simp only [u134_0, u134_1, u134_4, u134_7, u134_8, u134_9, u134_12, u134_15, u134_16, u134_17, u134_18, u134_21, u134_24, u134_26, Option.toList_some, Option.toList_none, List.cons_append, List.nil_append, zRef_some, true_and, and_true, true_or, or_true, i10, i01, m_isPlayer, decide_eq_false g1, zb_f, if_true]
    exact hQ
theorem M_exp (R : RM iv cs hs t) : OKm sc 136 [.ref 91, .int x] p iv (sExp cs x) cs hs t := by
  obtain ⟨V, o⟩ := R.v
  unfold sExp
  refine ⟨iv, R, FM.rf, fun Q hQ => ?_⟩
  by_cases g1 : isQ x
  · have d1 : decide (0 ≤ x ∧ x ≤ 1) = true := decide_eq_true g1
    rw [if_pos g1] at hQ
    by_cases g2 : (cM cs 0).length = 0 ∨ (cM cs 1).length = 0
    · rw [if_pos g2] at hQ
      simp only [u136_0, u136_1, u136_2, u136_3, u136_6, u136_9, u136_11, u136_12, u136_13, u136_16, u136_19, u136_20, u136_21, u136_24, u136_25, u136_26, u136_29, u136_30, u136_31, u136_34, u136_35, u136_36, u136_39, u136_44, u136_42, Option.toList_some, Option.toList_none, List.cons_append, List.nil_append, zRef_some, true_and, and_true, true_or, or_true, i10, i01, z91.1, m_in, d1, m_areMixed V o, decide_eq_false (show ¬ ¬ ((cM cs 0).length = 0 ∨ (cM cs 1).length = 0) from fun z => z g2), zb_t, zb_f, not_false_eq_true, if_true]
      exact hQ
    · rw [if_neg g2] at hQ
      have o0 := o.2 0 (by omega)
      have o1 := o.2 1 (by omega)
      have w0 := mSum_ok o0
      have w1 := mSum_ok o1
      have hu : (scoM cs 0 (cM cs 0) (cM cs 1)).natAbs ≤ 50808384 := scoM_abs o.1 0 o1 o0
      have hd : mSum (cM cs 0) * mSum (cM cs 1) ≤ 1188 * 1188 := Nat.mul_le_mul w0.1 w1.1
      have hd0 : 0 < mSum (cM cs 0) * mSum (cM cs 1) := Nat.mul_pos (w0.2 (by omega)) (w1.2 (by omega))
      rw [Nat.mul_comm] at hQ
      have sa : ∀ Q, zEv sc 111 0 [.ref 91, .int 0, .null, .null] [] (zst p iv) Q ↔ Q (some (.int (iI (scoM cs 0 (cM cs 0) (cM cs 1))))) (zst p iv) := fun Q => m_sumOfAll (q := 0) V o (by omega)
      simp only [u136_0, u136_1, u136_2, u136_3, u136_6, u136_9, u136_11, u136_12, u136_13, u136_16, u136_19, u136_20, u136_21, u136_24, u136_25, u136_26, u136_29, u136_30, u136_31, u136_34, u136_35, u136_36, u136_39, u136_44, u136_42, Option.toList_some, Option.toList_none, List.cons_append, List.nil_append, zRef_some, true_and, and_true, true_or, or_true, i10, i01, z91.1, m_in, d1, m_areMixed V o, decide_eq_true g2, zb_t, not_false_eq_true, if_true, if_false, sa, wo_0 V o, wo_1 V o, pk_mul, m_part (show (scoM cs 0 (cM cs 0) (cM cs 1)).natAbs < 2 ^ 31 by omega) hd0 (show mSum (cM cs 0) * mSum (cM cs 1) < 2 ^ 31 by omega)]
      exact hQ
  · rw [if_neg g1] at hQ
    have d1 : decide (0 ≤ x ∧ x ≤ 1) = false := decide_eq_false g1
    simp only [u136_0, u136_1, u136_2, u136_3, u136_6, u136_9, u136_11, u136_12, u136_13, u136_16, u136_19, u136_20, u136_21, u136_24, u136_25, u136_26, u136_29, u136_30, u136_31, u136_34, u136_35, u136_36, u136_39, u136_44, u136_42, Option.toList_some, Option.toList_none, List.cons_append, List.nil_append, zRef_some, true_and, and_true, true_or, or_true, i10, i01, m_in, d1, zb_f, not_true_eq_false, if_false]
    exact hQ
end ZM9
