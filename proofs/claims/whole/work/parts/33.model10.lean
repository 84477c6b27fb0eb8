/-! ===== FieldMixturesModel: replies, counts ===== -/
section ZMA
variable {sc : Nat × (Nat → Int32)} {Q : Option Value → zA → Prop} {h : zA} {p : Nat → Option Nat} {iv : Nat → Nat → Int32} {cs d : CS} {hs : List CS} {t : List Nat} {x y z w lo hi : Int32} {q k i : Nat}
theorem bR_9 (o : vOk cs) (hq : q < 2) (h : ¬ (bR cs q).2.2 = 0) : (bR cs q).1 < 9000 ∧ (bR cs q).2.1.natAbs ≤ 42768 ∧ (bR cs q).2.2 ≤ 165 := by
  have om : mOk (oM cs q) := o.2 (1 - q) (by omega)
  obtain ⟨h1, -, h3⟩ := bR_ok o.1 om
  obtain ⟨h4, h5⟩ := h3 (by omega)
  have hl := alL_len o.1 hq
  exact ⟨(mem_9 o.1 hq h4).1, h5, by omega⟩
theorem M_reply {v3 : Value} (R : RM iv cs hs t) : OKm sc 137 [.ref 91, .int x, .int w, v3] p iv (sReply cs x w) cs hs t := by
  obtain ⟨V, o⟩ := R.v
  unfold sReply
  by_cases g1 : isQ x
  · have d1 := decide_eq_true g1
    by_cases g3 : 0 ≤ w ∧ w ≤ 3
    · have d3 := decide_eq_true g3
      rw [if_pos ⟨g1, g3⟩]
      obtain ⟨q, hq, rfl⟩ := isQ_nI g1
      obtain ⟨k, hk, rfl⟩ := in_nI (k := 3) (by omega) g3.1 g3.2
      rw [tn_nI (by omega)]
      have hq1 : 1 - q < 2 := by omega
      have om := o.2 _ hq1
      have hl1 := om.1
      have o2 := mSum_ok om
      have head : ∀ Q, zEv sc 137 0 [.ref 91, .int (nI q), .int (nI k), v3] [] (zst p iv) Q ↔ (if ¬ (cM cs (1 - q)).length = 0 then zEv sc 137 33 [.ref 91, .int (nI q), .int (nI k), v3] [] (zst p iv) Q else zEv sc 137 29 [.ref 91, .int (nI q), .int (nI k), v3] [] (zst p iv) Q) := by
        intro Q
        simp only [u137_0, u137_1, u137_4, u137_7, u137_8, u137_9, u137_10, u137_13, u137_19, u137_20, u137_21, u137_22, u137_23, u137_26, u137_16, u137_18, Option.toList_some, Option.toList_none, List.cons_append, List.nil_append, zRef_some, true_and, and_true, true_or, or_true, i10, i01, z91.1, m_isPlayer, m_in, d1, d3, zb_t, not_false_eq_true, if_true, if_false, e1q hq, m_mixed V hq1, nI_zero (show (cM cs (1 - q)).length < 2 ^ 31 by omega)]
      by_cases g4 : (oM cs q).length = 0
      · rw [if_pos g4]
        refine ⟨iv, R, FM.rf, fun Q hQ => ?_⟩
        rw [head, if_neg (fun z => z g4)]
        simp only [u137_29, u137_30, u137_38, u137_39, u137_33, u137_34, u137_35]
        rw [u137_40, if_neg (by decide)]
        simp only [u137_43, u137_45]
        exact hQ
      · rw [if_neg g4]
        obtain ⟨iv2, a1, a2, a3, -, a5⟩ := m_best (sc := sc) (p := p) (v2 := .null) (v3 := .null) (v4 := .null) (v5 := .null) V o hq
        have V2 : isV (iv2 92) cs := by rw [a3.1 92 (by omega)]; exact V
        have h9 := bR_9 o hq
        have o3 : 0 < mSum (oM cs q) ∧ mSum (oM cs q) ≤ 1188 := ⟨o2.2 (Nat.pos_of_ne_zero g4), o2.1⟩
        have wo : ∀ Q, zEv sc 104 0 [.ref 91, .int (nI (1 - q)), .null, .null] [] (zst p iv2) Q ↔ Q (some (.int (nI (mSum (oM cs q))))) (zst p iv2) := fun Q => m_weightOf V2 o hq1
        revert a1 a2 a5 h9
        generalize bR cs q = B
        intro a1 a2 a5 h9
        refine ⟨iv2, R.keep a3, a3.fm, fun Q hQ => ?_⟩
        rw [head, if_pos (show ¬ (cM cs (1 - q)).length = 0 from g4)]
        simp only [u137_33, u137_34, u137_35, z91.1]
        refine a5 _ ?_
        simp only [u137_38, u137_39, Option.toList_some, Option.toList_none, List.cons_append, List.nil_append, zRef_some, true_and, and_true, true_or, or_true, i10, i01]
        rw [u137_40]
        by_cases g5 : B.2.2 = 0
        · rw [if_pos g5] at hQ
          have e : bFnd B = -1 := by unfold bFnd; rw [if_pos g5]
          rw [e, if_neg (by decide)]
          simp only [u137_43, u137_45]
          exact hQ
        · rw [if_neg g5] at hQ
          obtain ⟨b1, b2, b3⟩ := h9 g5
          have e : bFnd B = nI B.1 := by unfold bFnd; rw [if_neg g5]
          rw [e, if_pos (nI_pos' (by omega)), u137_46, u137_47]
          rcases (show k = 0 ∨ k = 3 ∨ (k = 1 ∨ k = 2) by omega) with rfl | rfl | hk12
          · rw [if_pos (show nI 0 = 0 from rfl)] at hQ
            rw [if_neg (fun z => z (show nI 0 = 0 from rfl))]
            simp only [u137_50, u137_51, u137_83]
            exact hQ
          · rw [if_neg (by decide), if_pos (show nI 3 = 3 from rfl)] at hQ
            rw [if_pos (by decide), u137_54, u137_55, u137_56, if_neg (fun z => z (show nI 3 = 3 from rfl))]
            simp only [u137_59, u137_60, u137_63, u137_83, z91.1, a2]
            exact hQ
          · have n0 : ¬ nI k = 0 := by rcases hk12 with rfl | rfl <;> decide
            have n3 : ¬ nI k = 3 := by rcases hk12 with rfl | rfl <;> decide
            rw [if_neg n0, if_neg n3] at hQ
            rw [if_pos n0, u137_54, u137_55, u137_56, if_pos n3]
            simp only [u137_83, u137_66, u137_67, u137_70, u137_71, u137_72, u137_73, u137_74, u137_77, u137_78, u137_79, u137_80, Option.toList_some, Option.toList_none, List.cons_append, List.nil_append, zRef_some, true_and, and_true, true_or, or_true, i10, i01, z91.1, a1, e1q hq, wo, m_part (show B.2.1.natAbs < 2 ^ 31 by omega) o3.1 (show mSum (oM cs q) < 2 ^ 31 by omega)]
            exact hQ
    · rw [if_neg (fun z => g3 z.2)]
      refine ⟨iv, R, FM.rf, fun Q hQ => ?_⟩
      simp only [u137_0, u137_1, u137_4, u137_7, u137_8, u137_9, u137_10, u137_13, u137_16, u137_18, Option.toList_some, Option.toList_none, List.cons_append, List.nil_append, zRef_some, true_and, and_true, true_or, or_true, i10, i01, m_isPlayer, m_in, d1, decide_eq_false g3, zb_t, zb_f, not_true_eq_false, if_false]
      exact hQ
  · rw [if_neg (fun z => g1 z.1)]
    refine ⟨iv, R, FM.rf, fun Q hQ => ?_⟩
    simp only [u137_0, u137_1, u137_4, u137_7, u137_8, u137_9, u137_10, u137_13, u137_16, u137_18, Option.toList_some, Option.toList_none, List.cons_append, List.nil_append, zRef_some, true_and, and_true, true_or, or_true, i10, i01, m_isPlayer, decide_eq_false g1, zb_f, if_true]
    exact hQ
theorem M_could {v3 v4 : Value} (R : RM iv cs hs t) : OKm sc 138 [.ref 91, .int x, .int z, v3, v4] p iv (sCould cs x z) cs hs t := by
  obtain ⟨V, o⟩ := R.v
  unfold sCould
  by_cases g1 : isQ x
  · have d1 := decide_eq_true g1
    by_cases g3 : isQ z
    · have d3 : decide (0 ≤ z ∧ z ≤ 1) = true := decide_eq_true g3
      rw [if_pos ⟨g1, g3⟩]
      obtain ⟨q, hq, rfl⟩ := isQ_nI g1
      rw [tn_nI (by omega)]
      by_cases g2 : (cM cs 0).length = 0 ∨ (cM cs 1).length = 0
      · rw [if_pos g2]
        refine ⟨iv, R, FM.rf, fun Q hQ => ?_⟩
        simp only [u138_0, u138_1, u138_4, u138_7, u138_8, u138_9, u138_10, u138_13, u138_19, u138_20, u138_23, u138_26, u138_28, u138_16, u138_18, Option.toList_some, Option.toList_none, List.cons_append, List.nil_append, zRef_some, true_and, and_true, true_or, or_true, i10, i01, z91.1, m_isPlayer, m_in, d1, d3, m_areMixed V o, decide_eq_false (show ¬ ¬ ((cM cs 0).length = 0 ∨ (cM cs 1).length = 0) from fun z => z g2), zb_t, zb_f, not_false_eq_true, not_true_eq_false, if_true, if_false]
        exact hQ
      · rw [if_neg g2]
        have o0 := o.2 q hq
        have o1 : mOk (oM cs q) := o.2 (1 - q) (by omega)
        have w0 := mSum_ok o0
        have w1 := mSum_ok o1
        have n0 : 0 < (cM cs q).length ∧ 0 < (oM cs q).length := by
          unfold oM
          rcases (show q = 0 ∨ q = 1 by omega) with rfl | rfl
          · exact ⟨by omega, by show 0 < (cM cs 1).length; omega⟩
          · exact ⟨by omega, by show 0 < (cM cs 0).length; omega⟩
        have hBp := bR_pos o.1 hq o1 n0.1
        have h9 := bR_9 o hq (by omega)
        have hu := scoM_abs o.1 q o1 o0
        have hd : mSum (oM cs q) * mSum (cM cs q) ≤ 1188 * 1188 := Nat.mul_le_mul w1.1 w0.1
        have hd0 : 0 < mSum (oM cs q) * mSum (cM cs q) := Nat.mul_pos (w1.2 n0.2) (w0.2 n0.1)
        have hm01 : mSum (cM cs 0) * mSum (cM cs 1) = mSum (oM cs q) * mSum (cM cs q) := by
          unfold oM
          rcases (show q = 0 ∨ q = 1 by omega) with rfl | rfl
          · exact Nat.mul_comm _ _
          · rfl
        obtain ⟨iv2, a1, -, a3, -, a5⟩ := m_best (sc := sc) (p := p) (v2 := .null) (v3 := .null) (v4 := .null) (v5 := .null) V o hq
        have V2 : isV (iv2 92) cs := by rw [a3.1 92 (by omega)]; exact V
        revert a1 a5 h9 hBp
        generalize bR cs q = B
        intro hBp h9 a1 a5
        have e : bFnd B = nI B.1 := by unfold bFnd; rw [if_neg (by omega)]
        have hm2 := mulAbs (a := B.2.1) (b := (mSum (cM cs q) : Nat)) (A := 42768) (B := 1188) h9.2.1 (by omega)
        rw [e] at a5
        refine ⟨iv2, R.keep a3, a3.fm, fun Q hQ => ?_⟩
        simp only [u138_0, u138_1, u138_4, u138_7, u138_8, u138_9, u138_10, u138_13, u138_19, u138_20, u138_23, u138_26, u138_28, u138_29, u138_30, u138_31, u138_16, u138_18, Option.toList_some, Option.toList_none, List.cons_append, List.nil_append, zRef_some, true_and, and_true, true_or, or_true, i10, i01, z91.1, m_isPlayer, m_in, d1, d3, m_areMixed V o, decide_eq_true g2, zb_t, zb_f, not_false_eq_true, not_true_eq_false, if_true, if_false]
        refine a5 _ ?_
        simp only [u138_34, u138_35, u138_36, u138_39, u138_40, u138_41, u138_44, u138_45, u138_46, u138_47, u138_50, u138_51, u138_53, Option.toList_some, Option.toList_none, List.cons_append, List.nil_append, zRef_some, true_and, and_true, true_or, or_true, i10, i01, z91.1, a1, m_weightOf V2 o hq, m_sumOfAll V2 o hq, nI_iI (mSum (cM cs q)), iI_mul, iI_sub]
        rw [u138_54, if_pos (nI_pos' (by omega))]
        simp only [u138_79, u138_62, u138_64, u138_65, u138_66, u138_69, u138_70, u138_71, u138_74, u138_75, u138_76, Option.toList_some, Option.toList_none, List.cons_append, List.nil_append, zRef_some, true_and, and_true, true_or, or_true, i10, i01, z91.1, wo_0 V2 o, wo_1 V2 o, pk_mul, hm01, m_part (show (B.2.1 * (mSum (cM cs q) : Nat) - scoM cs q (cM cs q) (oM cs q)).natAbs < 2 ^ 31 by omega) hd0 (show mSum (oM cs q) * mSum (cM cs q) < 2 ^ 31 by omega)]
        exact hQ
    · rw [if_neg (fun z => g3 z.2)]
      have d3 : decide (0 ≤ z ∧ z ≤ 1) = false := decide_eq_false g3
      refine ⟨iv, R, FM.rf, fun Q hQ => ?_⟩
      simp only [u138_0, u138_1, u138_4, u138_7, u138_8, u138_9, u138_10, u138_13, u138_16, u138_18, Option.toList_some, Option.toList_none, List.cons_append, List.nil_append, zRef_some, true_and, and_true, true_or, or_true, i10, i01, m_isPlayer, m_in, d1, d3, zb_t, zb_f, not_true_eq_false, if_false]
      exact hQ
  · rw [if_neg (fun z => g1 z.1)]
    refine ⟨iv, R, FM.rf, fun Q hQ => ?_⟩
    simp only [u138_0, u138_1, u138_4, u138_7, u138_8, u138_9, u138_10, u138_13, u138_16, u138_18, Option.toList_some, Option.toList_none, List.cons_append, List.nil_append, zRef_some, true_and, and_true, true_or, or_true, i10, i01, m_isPlayer, decide_eq_false g1, zb_f, if_true]
    exact hQ
theorem m_counted {v2 v3 : Value} (R : RM iv cs hs t) (hi : i ≤ 10) : zEv sc 139 0 [.ref 91, .int (nI i), v2, v3] [] (zst p iv) Q ↔ Q (some (.int (cntS cs hs.length t.length i))) (zst p iv) := by
  obtain ⟨V, o⟩ := R.v
  have hN := o.1.2.1
  rw [u139_0]
  rcases (show i = 0 ∨ i = 1 ∨ i = 2 ∨ i = 3 ∨ i = 4 ∨ i = 5 ∨ i = 6 ∨ i = 7 ∨ i = 8 ∨ i = 9 ∨ i = 10 by omega) with rfl | rfl | rfl | rfl | rfl | rfl | rfl | rfl | rfl | rfl | rfl
  · rw [show nI 0 = 0 from rfl, u139_1_0]
    simp only [u139_56, u139_57, u139_60, u139_61, u139_62, zRef_some, true_and, z91.1, z91.2.1, z91r.1, z92l.1, c0, v0, V.1]
    exact Iff.rfl
  · have loop : ∀ d f, cN cs - f = d → f ≤ cN cs → (zEv sc 139 67 [.ref 91, .int 1, .int (nI (vSum (cV cs) f)), .int (nI f)] [] (zst p iv) Q ↔ Q (some (.int (nI (vSum (cV cs) (cN cs))))) (zst p iv)) := by
      intro d
      induction d with
      | zero =>
        intro f hd hf
        have : f = cN cs := by omega
        subst this
        rw [u139_67]
        simp only [u139_68, u139_69, u139_72, u139_73, zRef_some, true_and, z91.1, z91.2.1, z91r.1, z92l.1, c0, v0, V.1]
        rw [u139_74, if_pos (Int32.le_refl _)]
        simp only [u139_94, u139_95]
      | succ d ih =>
        intro f hd hf
        have ih1 := ih (f + 1) (by omega) (by omega)
        rw [show vSum (cV cs) (f + 1) = vSum (cV cs) f + cV cs f from rfl] at ih1
        rw [← ih1, u139_67]
        simp only [u139_68, u139_69, u139_72, u139_73, zRef_some, true_and, z91.1, z91.2.1, z91r.1, z92l.1, c0, v0, V.1]
        rw [u139_74, if_neg (by rw [nI_leI (by omega) (by omega)]; omega)]
        simp only [u139_77, u139_78, u139_79, u139_82, u139_83, u139_84, u139_85, u139_86, u139_87, u139_88, u139_91, zRef_some, true_and, z91.1, z91.2.1, z91r.1, z92l.1, n2, nI_add, okN (show 2 + f < 66 by omega), nI_clamp (show 2 + f < 2 ^ 31 by omega), V.2.2.1 f (by omega), nI_1]
    have l0 := loop _ 0 rfl (by omega)
    rw [show vSum (cV cs) 0 = 0 from rfl, nI_0] at l0
    rw [show nI 1 = 1 from rfl, u139_1_1]
    simp only [u139_63, u139_64, u139_65, u139_66]
    exact l0
  · rw [show nI 2 = 2 from rfl, u139_1_2]
    simp only [u139_96, u139_97, u139_100, u139_101, u139_102, zRef_some, true_and, z91.1, z91.2.1, z91r.1, z92l.1, c1, v1, V.2.1]
    exact Iff.rfl
  · rw [show nI 3 = 3 from rfl, u139_1_3]
    simp only [u139_103, u139_104, u139_107, u139_109, u139_110, u139_111, u139_112, u139_113, u139_114, zRef_some, true_and, z91.1, z91.2.1, z91r.1, z92l.1, show (6 : Int32) + 3 - 3 = nI (6 + 0) from rfl, okN (show 6 + 0 < 66 by omega), nI_clamp (show 6 + 0 < 2 ^ 31 by omega), V.2.2.2.1 0 (by omega)]
    exact Iff.rfl
  · rw [show nI 4 = 4 from rfl, u139_1_4]
    simp only [u139_103, u139_104, u139_107, u139_109, u139_110, u139_111, u139_112, u139_113, u139_114, zRef_some, true_and, z91.1, z91.2.1, z91r.1, z92l.1, show (6 : Int32) + 4 - 3 = nI (6 + 1) from rfl, okN (show 6 + 1 < 66 by omega), nI_clamp (show 6 + 1 < 2 ^ 31 by omega), V.2.2.2.1 1 (by omega)]
    exact Iff.rfl
  · rw [show nI 5 = 5 from rfl, u139_1_5]
    simp only [u139_115, u139_116, u139_117, u139_118, u139_119, u139_122, Option.toList_some, Option.toList_none, List.cons_append, List.nil_append, zRef_some, true_and, and_true, true_or, or_true, i10, i01, z91.1, show (5 : Int32) - 5 = 0 from rfl, mx_0 V]
    exact Iff.rfl
  · rw [show nI 6 = 6 from rfl, u139_1_6]
    simp only [u139_115, u139_116, u139_117, u139_118, u139_119, u139_122, Option.toList_some, Option.toList_none, List.cons_append, List.nil_append, zRef_some, true_and, and_true, true_or, or_true, i10, i01, z91.1, show (6 : Int32) - 5 = 1 from rfl, mx_1 V]
    exact Iff.rfl
  · rw [show nI 7 = 7 from rfl, u139_1_7]
    simp only [u139_123, u139_124, u139_125, u139_127, u139_128, u139_131, Option.toList_some, Option.toList_none, List.cons_append, List.nil_append, zRef_some, true_and, and_true, true_or, or_true, i10, i01, z91.1, show (7 : Int32) - 7 = 0 from rfl, wo_0 V o]
    exact Iff.rfl
  · rw [show nI 8 = 8 from rfl, u139_1_8]
    simp only [u139_123, u139_124, u139_125, u139_127, u139_128, u139_131, Option.toList_some, Option.toList_none, List.cons_append, List.nil_append, zRef_some, true_and, and_true, true_or, or_true, i10, i01, z91.1, show (8 : Int32) - 7 = 1 from rfl, wo_1 V o]
    exact Iff.rfl
  · rw [show nI 9 = 9 from rfl, u139_1_9]
    simp only [u139_132, u139_133, u139_136, z91.1, R.2.2.1.1]
    exact Iff.rfl
  · rw [u139_1_d (Or.inr (by decide))]
    simp only [u139_137, u139_138, u139_141, z91.1, R.2.2.2.1]
    exact Iff.rfl
end ZMA
