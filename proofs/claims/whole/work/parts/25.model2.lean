/-! ===== FieldMixturesModel: gains, mixtures ===== -/
theorem oc_anti {t a c : Nat} (ht : t ≤ 2) : oc t 1 a c = - oc t 0 c a := by
  unfold oc
  by_cases e : a = c
  · subst e
    rw [if_pos rfl, if_pos rfl]
    rcases (show t = 0 ∨ t = 1 ∨ t = 2 by omega) with rfl | rfl | rfl <;> decide
  · rw [if_neg e, if_neg (show ¬ c = a from fun z => e z.symm)]
    by_cases e2 : c < a
    · rw [if_pos e2, if_neg (show ¬ a < c by omega)]; rfl
    · rw [if_neg e2, if_pos (show a < c by omega)]
theorem isum_s (n : Nat) (g : Nat → Int) : isum (n + 1) g = isum n g + g n := rfl
theorem isum_z (g : Nat → Int) : isum 0 g = 0 := rfl
theorem gn_anti {t : Nat} {V : Nat → Nat} (ht : t ≤ 2) (n a c : Nat) : gn t 1 V n a c = - gn t 0 V n c a := by
  rw [gn_sum, gn_sum]
  induction n with
  | zero => rfl
  | succ n ih =>
    have h : ∀ m, isum m (fun f => (V f : Int) * oc t 1 (dg (n + 1) a f) (dg (n + 1) c f)) = - isum m (fun f => (V f : Int) * oc t 0 (dg (n + 1) c f) (dg (n + 1) a f)) := by
      intro m
      induction m with
      | zero => rfl
      | succ m ihm =>
        rw [isum_s, isum_s, ihm, Int.neg_add]
        congr 1
        show (V m : Int) * oc t 1 (dg (n + 1) a m) (dg (n + 1) c m) = -((V m : Int) * oc t 0 (dg (n + 1) c m) (dg (n + 1) a m))
        rw [oc_anti ht, Int.mul_neg]
    exact h (n + 1)
section ZM2
variable {sc : Nat × (Nat → Int32)} {Q : Option Value → zA → Prop} {h : zA} {p : Nat → Option Nat} {iv : Nat → Nat → Int32} {cs : CS} {hs : List CS} {t : List Nat} {x y z w lo hi : Int32} {q k : Nat}
theorem m_gain {a c : Nat} {v3 v4 v5 v6 : Value} (hv : isV (iv 92) cs) (ho : cOk cs) (ha : a < 10000) (hc : c < 10000) : zEv sc 98 0 [.ref 91, .int (nI a), .int (nI c), v3, v4, v5, v6] [] (zst p iv) Q ↔ Q (some (.int (iI (gn (cT cs) 0 (cV cs) (cN cs) a c)))) (zst p iv) := by
  have hn := ho.2.1
  have hT := ho.2.2.1
  rw [gn_sum]
  obtain ⟨G, hG⟩ : ∃ G : Nat → Int, G = fun f => (cV cs f : Int) * oc (cT cs) 0 (dg (cN cs) a f) (dg (cN cs) c f) := ⟨_, rfl⟩
  rw [← hG]
  have loop : ∀ d f (v5 v6 : Value), cN cs - f = d → f ≤ cN cs → (zEv sc 98 5 [.ref 91, .int (nI a), .int (nI c), .int (iI (isum f G)), .int (nI f), v5, v6] [] (zst p iv) Q ↔ Q (some (.int (iI (isum (cN cs) G)))) (zst p iv)) := by
    intro d
    induction d with
    | zero =>
      intro f v5 v6 hd hf
      have : f = cN cs := by omega
      subst this
      rw [u98_5]
      simp only [u98_7, u98_8, u98_11, u98_12, zRef_some, true_and, z91.1, z91.2.1, z91r.1, z92l.1, c0, v0, hv.1]
      rw [u98_13, if_pos (Int32.le_refl _)]
      simp only [u98_100, u98_101]
    | succ d ih =>
      intro f v5 v6 hd hf
      have hA := dg_lt (cN cs) a f
      have hC := dg_lt (cN cs) c f
      have e1 : nI (dg (cN cs) a f) - nI (dg (cN cs) c f) = iI ((dg (cN cs) a f : Int) - (dg (cN cs) c f : Int)) := by rw [nI_iI, nI_iI, iI_sub]
      obtain ⟨D, hD⟩ : ∃ D : Int, D = (dg (cN cs) a f : Int) - (dg (cN cs) c f : Int) := ⟨_, rfl⟩
      rw [← hD] at e1
      have hDa : D.natAbs ≤ 9 := by omega
      have ih1 := ih (f + 1) (.int (iI D)) (.int (iI (oc (cT cs) 0 (dg (cN cs) a f) (dg (cN cs) c f)))) (by omega) (by omega)
      rw [isum_s] at ih1
      rw [← ih1, u98_5]
      simp only [u98_7, u98_8, u98_11, u98_12, zRef_some, true_and, z91.1, z91.2.1, z91r.1, z92l.1, c0, v0, hv.1]
      rw [u98_13, if_neg (by rw [nI_leI (by omega) (by omega)]; omega)]
      simp only [u98_16, u98_17, u98_18, u98_20, u98_23, u98_24, u98_25, u98_27, u98_30, u98_31, u98_33, Option.toList_some, Option.toList_none, List.cons_append, List.nil_append, zRef_some, true_and, and_true, true_or, or_true, i10, i01, z91.1, m_amount hv ho.w (show f < cN cs by omega) ha, m_amount hv ho.w (show f < cN cs by omega) hc, e1]
      have tail : ∀ s : Int, s = oc (cT cs) 0 (dg (cN cs) a f) (dg (cN cs) c f) → (zEv sc 98 77 [.ref 91, .int (nI a), .int (nI c), .int (iI (isum f G)), .int (nI f), .int (iI D), v6] [.int (iI s)] (zst p iv) Q ↔ zEv sc 98 5 [.ref 91, .int (nI a), .int (nI c), .int (iI (isum f G + G f)), .int (nI (f + 1)), .int (iI D), .int (iI (oc (cT cs) 0 (dg (cN cs) a f) (dg (cN cs) c f)))] [] (zst p iv) Q) := by
        intro s hs
        have e2 : G f = s * (cV cs f : Int) := by rw [hG, hs, Int.mul_comm]
        rw [e2, ← hs]
        simp only [u98_77, u98_79, u98_80, u98_82, u98_83, u98_86, u98_87, u98_89, u98_90, u98_91, u98_92, u98_93, u98_94, u98_97, zRef_some, true_and, z91.1, z91.2.1, z91r.1, z92l.1, n2, nI_add, okN (show 2 + f < 66 by omega), nI_clamp (show 2 + f < 2 ^ 31 by omega), hv.2.2.1 f (by omega), nI_iI (cV cs f), iI_mul, iI_add, nI_1]
      have f0 : (0 : Int32) = iI 0 := rfl
      have g0 : (0 < iI D) ↔ 0 < D := by rw [f0, iI_lt (by omega) (by omega)]
      have g1 : (iI D = 0) ↔ D = 0 := by rw [f0, iI_eq (by omega) (by omega)]
      have g2 : (iI D < 0) ↔ D < 0 := by rw [f0, iI_lt (by omega) (by omega)]
      have g3 : (0 ≤ iI D) ↔ 0 ≤ D := by rw [f0, iI_le (by omega) (by omega)]
      unfold oc at tail ⊢
      rw [u98_35]
      by_cases h1 : 0 < D
      · rw [if_pos (g0.mpr h1), u98_53, u98_54]
        exact tail 1 (by rw [if_neg (by omega), if_pos (by omega)])
      · rw [if_neg (fun z => h1 (g0.mp z)), u98_38, u98_40]
        by_cases h2 : D = 0
        · rw [if_neg (fun z => z (g1.mpr h2))]
          simp only [u98_43, u98_44, u98_47, u98_48, u98_49, zRef_some, true_and, z91.1, z91.2.1, z91r.1, z92l.1, c1, v1, hv.2.1]
          rw [u98_50]
          have eac : dg (cN cs) a f = dg (cN cs) c f := by omega
          by_cases h3 : cT cs = 1
          · rw [h3] at tail ⊢
            rw [if_neg (fun z => z (show nI 1 = 1 from rfl)), u98_53, u98_54]
            exact tail 1 (by rw [if_pos eac, if_neg (by omega), if_pos (by omega)])
          · rw [if_pos (by rw [show (1 : Int32) = nI 1 from rfl, nI_eq (by omega) (by omega)]; exact h3), u98_57, u98_59, if_neg (by rw [g2]; omega)]
            simp only [u98_62, u98_63, u98_66, u98_67, u98_68, zRef_some, true_and, z91.1, z91.2.1, z91r.1, z92l.1, c1, v1, hv.2.1]
            rw [u98_69]
            by_cases h4 : cT cs = 2
            · rw [h4] at tail ⊢
              rw [if_neg (fun z => z (show nI 2 = 2 from rfl)), u98_72, u98_73]
              exact tail (-1) (by rw [if_pos eac, if_neg (by omega), if_neg (by omega)])
            · rw [if_pos (by rw [show (2 : Int32) = nI 2 from rfl, nI_eq (by omega) (by omega)]; exact h4), u98_76]
              exact tail 0 (by rw [if_pos eac, if_pos (by omega)])
        · rw [if_pos (fun z => h2 (g1.mp z)), u98_57, u98_59, if_pos (by rw [g2]; omega), u98_72, u98_73]
          exact tail (-1) (by rw [if_neg (by omega), if_neg (by omega)])
  have l0 := loop _ 0 v5 v6 rfl (Nat.zero_le _)
  rw [isum_z, nI_0] at l0
  simp only [u98_0, u98_1, u98_2, u98_3]
  exact l0
theorem m_gainOf {a c : Nat} (hv : isV (iv 92) cs) (ho : cOk cs) (hq : q < 2) (ha : a < 10000) (hc : c < 10000) : zEv sc 99 0 [.ref 91, .int (nI q), .int (nI a), .int (nI c)] [] (zst p iv) Q ↔ Q (some (.int (iI (gn (cT cs) q (cV cs) (cN cs) a c)))) (zst p iv) := by
  rcases (show q = 0 ∨ q = 1 by omega) with rfl | rfl
  · rw [u99_0, u99_1, if_neg (by decide)]
    simp only [u99_4, u99_5, u99_6, u99_7, u99_10, u99_20, Option.toList_some, Option.toList_none, List.cons_append, List.nil_append, zRef_some, true_and, and_true, true_or, or_true, i10, i01, z91.1, m_gain hv ho ha hc]
  · rw [u99_0, u99_1, if_pos (by decide)]
    simp only [u99_20, u99_13, u99_14, u99_15, u99_16, u99_19, Option.toList_some, Option.toList_none, List.cons_append, List.nil_append, zRef_some, true_and, and_true, true_or, or_true, i10, i01, z91.1, m_gain hv ho hc ha, iI_neg, gn_anti ho.2.2.1 (cN cs) a c]
theorem m_at : zEv sc 100 0 [.int (nI q)] [] h Q ↔ Q (some (.int (nI (16 + 25 * q)))) h := by
  simp only [u100_0, u100_2, u100_4, u100_5, u100_6, u100_7, n16, n25, pk_mul, nI_add]
theorem m_mixed (hv : isV (iv 92) cs) (hq : q < 2) : zEv sc 101 0 [.ref 91, .int (nI q)] [] (zst p iv) Q ↔ Q (some (.int (nI (cM cs q).length))) (zst p iv) := by
  simp only [u101_0, u101_1, u101_4, u101_5, u101_8, u101_9, Option.toList_some, Option.toList_none, List.cons_append, List.nil_append, zRef_some, true_and, and_true, true_or, or_true, i10, i01, m_at, z91.1, z91.2.1, z91r.1, z92l.1, okN (show 16 + 25 * q < 66 by omega), nI_clamp (show 16 + 25 * q < 2 ^ 31 by omega), hv.2.2.2.2.2.1 q hq]
theorem m_allocAt (hv : isV (iv 92) cs) (o : vOk cs) (hq : q < 2) (hk : k < (cM cs q).length) : zEv sc 102 0 [.ref 91, .int (nI q), .int (nI k)] [] (zst p iv) Q ↔ Q (some (.int (nI (mA (cM cs q) k)))) (zst p iv) := by
  have := (o.2 q hq).1
  simp only [u102_0, u102_1, u102_4, u102_5, u102_8, u102_9, u102_10, u102_11, u102_12, u102_13, u102_14, u102_15, Option.toList_some, Option.toList_none, List.cons_append, List.nil_append, zRef_some, true_and, and_true, true_or, or_true, i10, i01, m_at, z91.1, z91.2.1, z91r.1, z92l.1, n2, nI_1, pk_mul, nI_add, okN (show 16 + 25 * q + 1 + 2 * k < 66 by omega), nI_clamp (show 16 + 25 * q + 1 + 2 * k < 2 ^ 31 by omega), (hv.2.2.2.2.2.2 q k hq hk).1]
theorem m_allocAt2 (hv : isV (iv 92) cs) (hq : q < 2) (hk : k < (cM cs q).length) (hl : (cM cs q).length ≤ 12) : zEv sc 102 0 [.ref 91, .int (nI q), .int (nI k)] [] (zst p iv) Q ↔ Q (some (.int (nI (mA (cM cs q) k)))) (zst p iv) := by
  simp only [u102_0, u102_1, u102_4, u102_5, u102_8, u102_9, u102_10, u102_11, u102_12, u102_13, u102_14, u102_15, Option.toList_some, Option.toList_none, List.cons_append, List.nil_append, zRef_some, true_and, and_true, true_or, or_true, i10, i01, m_at, z91.1, z91.2.1, z91r.1, z92l.1, n2, nI_1, pk_mul, nI_add, okN (show 16 + 25 * q + 1 + 2 * k < 66 by omega), nI_clamp (show 16 + 25 * q + 1 + 2 * k < 2 ^ 31 by omega), (hv.2.2.2.2.2.2 q k hq hk).1]
theorem m_weightAt (hv : isV (iv 92) cs) (o : vOk cs) (hq : q < 2) (hk : k < (cM cs q).length) : zEv sc 103 0 [.ref 91, .int (nI q), .int (nI k)] [] (zst p iv) Q ↔ Q (some (.int (nI (mW (cM cs q) k)))) (zst p iv) := by
  have := (o.2 q hq).1
  simp only [u103_0, u103_1, u103_4, u103_5, u103_8, u103_9, u103_10, u103_11, u103_12, u103_13, u103_14, u103_15, Option.toList_some, Option.toList_none, List.cons_append, List.nil_append, zRef_some, true_and, and_true, true_or, or_true, i10, i01, m_at, z91.1, z91.2.1, z91r.1, z92l.1, n2, pk_mul, nI_add, okN (show 16 + 25 * q + 2 + 2 * k < 66 by omega), nI_clamp (show 16 + 25 * q + 2 + 2 * k < 2 ^ 31 by omega), (hv.2.2.2.2.2.2 q k hq hk).2]
theorem m_weightOf {v2 v3 : Value} (hv : isV (iv 92) cs) (o : vOk cs) (hq : q < 2) : zEv sc 104 0 [.ref 91, .int (nI q), v2, v3] [] (zst p iv) Q ↔ Q (some (.int (nI (mSum (cM cs q))))) (zst p iv) := by
  have hl := (o.2 q hq).1
  have loop : ∀ d k, (cM cs q).length - k = d → k ≤ (cM cs q).length → (zEv sc 104 4 [.ref 91, .int (nI q), .int (nI (mSum ((cM cs q).take k))), .int (nI k)] [] (zst p iv) Q ↔ Q (some (.int (nI (mSum (cM cs q))))) (zst p iv)) := by
    intro d
    induction d with
    | zero =>
      intro k hd hk
      have : k = (cM cs q).length := by omega
      subst this
      rw [List.take_length, u104_4]
      simp only [u104_5, u104_6, u104_7, Option.toList_some, Option.toList_none, List.cons_append, List.nil_append, zRef_some, true_and, and_true, true_or, or_true, i10, i01, z91.1, m_mixed hv hq]
      rw [u104_10, if_pos (Int32.le_refl _)]
      simp only [u104_28, u104_29]
    | succ d ih =>
      intro k hd hk
      have ih1 := ih (k + 1) (by omega) (by omega)
      have e := mSum_snoc (cM cs q) k
      rw [if_pos (by omega)] at e
      rw [← e] at ih1
      rw [← ih1, u104_4]
      simp only [u104_5, u104_6, u104_7, Option.toList_some, Option.toList_none, List.cons_append, List.nil_append, zRef_some, true_and, and_true, true_or, or_true, i10, i01, z91.1, m_mixed hv hq]
      rw [u104_10, if_neg (by rw [nI_leI (by omega) (by omega)]; omega)]
      simp only [u104_13, u104_14, u104_15, u104_16, u104_17, u104_20, u104_21, u104_22, u104_25, Option.toList_some, Option.toList_none, List.cons_append, List.nil_append, zRef_some, true_and, and_true, true_or, or_true, i10, i01, z91.1, m_weightAt hv o hq (show k < (cM cs q).length by omega), nI_add, nI_1]
  have l0 := loop _ 0 rfl (Nat.zero_le _)
  rw [List.take_zero, show mSum [] = 0 from rfl, nI_0] at l0
  simp only [u104_0, u104_1, u104_2, u104_3]
  exact l0
theorem m_placeOf {y : Nat} {v3 : Value} (hv : isV (iv 92) cs) (o : vOk cs) (hq : q < 2) (hy : y < 10000) : zEv sc 105 0 [.ref 91, .int (nI q), .int (nI y), v3] [] (zst p iv) Q ↔ Q (some (.int (nI (mPl (cM cs q) y)))) (zst p iv) := by
  have hl := (o.2 q hq).1
  have loop : ∀ d k, (cM cs q).length - k = d → k ≤ (cM cs q).length → (∀ j, j < k → mA (cM cs q) j < y) → (zEv sc 105 2 [.ref 91, .int (nI q), .int (nI y), .int (nI k)] [] (zst p iv) Q ↔ Q (some (.int (nI (mPl (cM cs q) y)))) (zst p iv)) := by
    intro d
    induction d with
    | zero =>
      intro k hd hk hj
      have hk2 : k = (cM cs q).length := by omega
      subst hk2
      rw [mPl_of (Nat.le_refl _) hj (fun z => absurd z (Nat.lt_irrefl _)), u105_2]
      simp only [u105_3, u105_4, u105_5, Option.toList_some, Option.toList_none, List.cons_append, List.nil_append, zRef_some, true_and, and_true, true_or, or_true, i10, i01, z91.1, m_mixed hv hq]
      rw [u105_8, if_pos (Int32.le_refl _)]
      simp only [u105_27, u105_28]
    | succ d ih =>
      intro k hd hk hj
      have hk2 : k < (cM cs q).length := by omega
      have hA := mA_lt (o.2 q hq) hk2
      rw [u105_2]
      simp only [u105_3, u105_4, u105_5, Option.toList_some, Option.toList_none, List.cons_append, List.nil_append, zRef_some, true_and, and_true, true_or, or_true, i10, i01, z91.1, m_mixed hv hq]
      rw [u105_8, if_neg (by rw [nI_leI (by omega) (by omega)]; omega)]
      simp only [u105_11, u105_12, u105_13, u105_14, u105_17, Option.toList_some, Option.toList_none, List.cons_append, List.nil_append, zRef_some, true_and, and_true, true_or, or_true, i10, i01, z91.1, m_allocAt hv o hq hk2]
      rw [u105_18]
      simp only [nI_leI (show y < 2 ^ 31 by omega) (show mA (cM cs q) k < 2 ^ 31 by omega)]
      by_cases h4 : y ≤ mA (cM cs q) k
      · rw [if_pos h4, mPl_of hk hj (fun _ => by omega)]
        simp only [u105_27, u105_28]
      · rw [if_neg h4]
        simp only [u105_21, u105_24, nI_1]
        exact ih (k + 1) (by omega) (by omega) (fun j hj2 => by
          by_cases e : j = k
          · subst e; omega
          · exact hj j (by omega))
  have l0 := loop _ 0 rfl (Nat.zero_le _) (fun j hj => absurd hj (Nat.not_lt_zero _))
  rw [nI_0] at l0
  simp only [u105_0, u105_1]
  exact l0
theorem m_weightIn {y : Nat} {v3 : Value} (hv : isV (iv 92) cs) (o : vOk cs) (hq : q < 2) (hy : y < 10000) : zEv sc 106 0 [.ref 91, .int (nI q), .int (nI y), v3] [] (zst p iv) Q ↔ Q (some (.int (nI (mOf (cM cs q) y)))) (zst p iv) := by
  have hl := (o.2 q hq).1
  have hp := mPl_le (cM cs q) y
  simp only [u106_0, u106_1, u106_2, u106_3, u106_6, u106_7, u106_8, u106_9, u106_10, Option.toList_some, Option.toList_none, List.cons_append, List.nil_append, zRef_some, true_and, and_true, true_or, or_true, i10, i01, z91.1, m_placeOf hv o hq hy, m_mixed hv hq]
  unfold mOf
  rw [u106_13]
  simp only [nI_leI (show (cM cs q).length < 2 ^ 31 by omega) (show mPl (cM cs q) y < 2 ^ 31 by omega)]
  by_cases h1 : (cM cs q).length ≤ mPl (cM cs q) y
  · rw [if_pos h1, if_neg (fun z => by have := (mIn_iff.mp z).1; omega)]
    simp only [u106_36, u106_35]
    exact Iff.rfl
  · have hk : mPl (cM cs q) y < (cM cs q).length := by omega
    have hA := mA_lt (o.2 q hq) hk
    rw [if_neg h1]
    simp only [u106_16, u106_17, u106_18, u106_19, u106_22, Option.toList_some, Option.toList_none, List.cons_append, List.nil_append, zRef_some, true_and, and_true, true_or, or_true, i10, i01, z91.1, m_allocAt hv o hq hk]
    rw [u106_23]
    simp only [nI_eq (show mA (cM cs q) (mPl (cM cs q) y) < 2 ^ 31 by omega) (show y < 2 ^ 31 by omega)]
    by_cases h2 : mA (cM cs q) (mPl (cM cs q) y) = y
    · rw [if_neg (fun z => z h2), if_pos (mIn_iff.mpr ⟨hk, h2⟩)]
      simp only [u106_26, u106_27, u106_28, u106_29, u106_32, u106_36, u106_35, Option.toList_some, Option.toList_none, List.cons_append, List.nil_append, zRef_some, true_and, and_true, true_or, or_true, i10, i01, z91.1, m_weightAt hv o hq hk]
    · rw [if_pos h2, if_neg (fun z => h2 (mIn_iff.mp z).2)]
      simp only [u106_36, u106_35]
      exact Iff.rfl
theorem m_sumOf {y : Nat} {v3 v4 : Value} (hv : isV (iv 92) cs) (o : vOk cs) (hq : q < 2) (hy : y < 10000) : zEv sc 110 0 [.ref 91, .int (nI q), .int (nI y), v3, v4] [] (zst p iv) Q ↔ Q (some (.int (iI (sco cs q (oM cs q) y)))) (zst p iv) := by
  rw [sco_eq]
  have hq1 : 1 - q < 2 := by omega
  have hl := (o.2 _ hq1).1
  have e3 : (1 : Int32) - nI q = nI (1 - q) := by
    rw [show (1 : Int32) = nI 1 from rfl, pk_sub (by omega)]
  have eo : oM cs q = cM cs (1 - q) := rfl
  rw [eo]
  obtain ⟨G, hG⟩ : ∃ G : Nat → Int, G = fun k => (mW (cM cs (1 - q)) k : Int) * gn (cT cs) q (cV cs) (cN cs) y (mA (cM cs (1 - q)) k) := ⟨_, rfl⟩
  rw [← hG]
  have loop : ∀ d k, (cM cs (1 - q)).length - k = d → k ≤ (cM cs (1 - q)).length → (zEv sc 110 5 [.ref 91, .int (nI q), .int (nI y), .int (iI (isum k G)), .int (nI k)] [] (zst p iv) Q ↔ Q (some (.int (iI (isum (cM cs (1 - q)).length G)))) (zst p iv)) := by
    intro d
    induction d with
    | zero =>
      intro k hd hk
      have : k = (cM cs (1 - q)).length := by omega
      subst this
      rw [u110_5]
      simp only [u110_7, u110_8, u110_9, u110_10, u110_11, Option.toList_some, Option.toList_none, List.cons_append, List.nil_append, zRef_some, true_and, and_true, true_or, or_true, i10, i01, z91.1, e3, m_mixed hv hq1]
      rw [u110_14, if_pos (Int32.le_refl _)]
      simp only [u110_51, u110_52]
    | succ d ih =>
      intro k hd hk
      have hk2 : k < (cM cs (1 - q)).length := by omega
      have hA := mA_lt (o.2 _ hq1) hk2
      have ih1 := ih (k + 1) (by omega) (by omega)
      rw [isum_s] at ih1
      have e2 : G k = (mW (cM cs (1 - q)) k : Int) * gn (cT cs) q (cV cs) (cN cs) y (mA (cM cs (1 - q)) k) := by rw [hG]
      rw [← ih1, u110_5]
      simp only [u110_7, u110_8, u110_9, u110_10, u110_11, Option.toList_some, Option.toList_none, List.cons_append, List.nil_append, zRef_some, true_and, and_true, true_or, or_true, i10, i01, z91.1, e3, m_mixed hv hq1]
      rw [u110_14, if_neg (by rw [nI_leI (by omega) (by omega)]; omega)]
      simp only [u110_17, u110_18, u110_19, u110_20, u110_21, u110_22, u110_24, u110_27, u110_28, u110_29, u110_30, u110_31, u110_32, u110_33, u110_34, u110_36, u110_39, u110_42, u110_43, u110_44, u110_45, u110_48, Option.toList_some, Option.toList_none, List.cons_append, List.nil_append, zRef_some, true_and, and_true, true_or, or_true, i10, i01, z91.1, e3, m_weightAt hv o hq1 hk2, m_allocAt hv o hq1 hk2, m_gainOf hv o.1 hq hy hA, nI_iI (mW (cM cs (1 - q)) k), iI_mul, iI_add, nI_1, e2]
  have l0 := loop _ 0 rfl (Nat.zero_le _)
  rw [isum_z, nI_0] at l0
  simp only [u110_0, u110_1, u110_2, u110_3]
  exact l0
theorem m_sumOfAll {v2 v3 : Value} (hv : isV (iv 92) cs) (o : vOk cs) (hq : q < 2) : zEv sc 111 0 [.ref 91, .int (nI q), v2, v3] [] (zst p iv) Q ↔ Q (some (.int (iI (scoM cs q (cM cs q) (oM cs q))))) (zst p iv) := by
  unfold scoM
  have hl := (o.2 q hq).1
  obtain ⟨G, hG⟩ : ∃ G : Nat → Int, G = fun k => (mW (cM cs q) k : Int) * sco cs q (oM cs q) (mA (cM cs q) k) := ⟨_, rfl⟩
  rw [← hG]
  have loop : ∀ d k, (cM cs q).length - k = d → k ≤ (cM cs q).length → (zEv sc 111 4 [.ref 91, .int (nI q), .int (iI (isum k G)), .int (nI k)] [] (zst p iv) Q ↔ Q (some (.int (iI (isum (cM cs q).length G)))) (zst p iv)) := by
    intro d
    induction d with
    | zero =>
      intro k hd hk
      have : k = (cM cs q).length := by omega
      subst this
      rw [u111_4]
      simp only [u111_5, u111_6, u111_7, Option.toList_some, Option.toList_none, List.cons_append, List.nil_append, zRef_some, true_and, and_true, true_or, or_true, i10, i01, z91.1, m_mixed hv hq]
      rw [u111_10, if_pos (Int32.le_refl _)]
      simp only [u111_40, u111_41]
    | succ d ih =>
      intro k hd hk
      have hk2 : k < (cM cs q).length := by omega
      have hA := mA_lt (o.2 _ hq) hk2
      have ih1 := ih (k + 1) (by omega) (by omega)
      rw [isum_s] at ih1
      have e2 : G k = (mW (cM cs q) k : Int) * sco cs q (oM cs q) (mA (cM cs q) k) := by rw [hG]
      rw [← ih1, u111_4]
      simp only [u111_5, u111_6, u111_7, Option.toList_some, Option.toList_none, List.cons_append, List.nil_append, zRef_some, true_and, and_true, true_or, or_true, i10, i01, z91.1, m_mixed hv hq]
      rw [u111_10, if_neg (by rw [nI_leI (by omega) (by omega)]; omega)]
      simp only [u111_13, u111_14, u111_15, u111_16, u111_17, u111_20, u111_21, u111_22, u111_23, u111_24, u111_25, u111_28, u111_31, u111_32, u111_33, u111_34, u111_37, Option.toList_some, Option.toList_none, List.cons_append, List.nil_append, zRef_some, true_and, and_true, true_or, or_true, i10, i01, z91.1, m_weightAt hv o hq hk2, m_allocAt hv o hq hk2, m_sumOf hv o hq hA, nI_iI (mW (cM cs q) k), iI_mul, iI_add, nI_1, e2]
  have l0 := loop _ 0 rfl (Nat.zero_le _)
  rw [isum_z, nI_0] at l0
  simp only [u111_0, u111_1, u111_2, u111_3]
  exact l0
end ZM2
