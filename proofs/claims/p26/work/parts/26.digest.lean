/-! ===== the law's digest: a number of the state, the text aside ===== -/
def dgC (cs : CS) (k : Nat) : Int32 := if k = 9 ∨ k = 10 ∨ (10 < k ∧ k < 20) then 0 else sCount cs 0 0 (nI k)
def dg1 (cs : CS) : Nat → Int64
  | 0 => 47
  | k + 1 => 31 * dg1 cs k + (dgC cs k).toInt64
def dg2 (cs : CS) (q : Nat) : Nat → Int64 → Int64
  | 0, h => h
  | k + 1, h => 31 * dg2 cs q k h + 101 * (sMixOf cs (nI q) (nI k) 0).toInt64 + (sMixOf cs (nI q) (nI k) 1).toInt64
def dgst (cs : CS) : Int64 := dg2 cs 1 (cM cs 1).length (dg2 cs 0 (cM cs 0).length (dg1 cs 50))
section ZD
variable {sc : Nat × (Nat → Int32)} {cs : CS} {hs : List CS} {t : List Nat} {E : Value × CS × List CS × List Nat} {v4 : Value} {k : Nat}
theorem cnt_any {a b k : Nat} (ho : cOk cs) (hk : k < 1000) (h9 : k ≠ 9) (h10 : k ≠ 10) : sCount cs a b (nI k) = sCount cs 0 0 (nI k) := by
  rw [cntN ho hk, cntN ho hk]
  have e : ∀ j, j ≤ 10 → j ≠ 9 → j ≠ 10 → cntS cs a b j = cntS cs 0 0 j := by
    intro j h1 h2 h3
    unfold cntS
    rcases (show j = 0 ∨ j = 1 ∨ j = 2 ∨ j = 3 ∨ j = 4 ∨ j = 5 ∨ j = 6 ∨ j = 7 ∨ j = 8 by omega) with rfl | rfl | rfl | rfl | rfl | rfl | rfl | rfl | rfl <;> rfl
  by_cases g : 0 ≤ k ∧ k ≤ 10
  · rw [e k g.2 h9 h10]
  · rw [if_neg g, if_neg g]
theorem dig_1 (ho : cOk cs) (g : ZR sc 88 59 [.ref 1, .long (dg1 cs 50), .float 0, .int (nI 50), v4] [] cs hs t E) : ∀ d k, k + d = 50 → ZR sc 88 6 [.ref 1, .long (dg1 cs k), .float 0, .int (nI k), v4] [] cs hs t E := by
  intro d
  induction d with
  | zero =>
    intro k hk
    obtain rfl : k = 50 := by omega
    have h1 : (50 : Int32) ≤ nI 50 := nI_le (a := 50) (by omega) (by omega)
    rw [v88_6, v88_7, v88_9, if_pos h1]
    exact g
  | succ d ih =>
    intro k hk
    have h1 : ¬ (50 : Int32) ≤ nI k := nI_ge (b := 50) (by omega) (by omega)
    have g2 := ih (k + 1) (by omega)
    rw [← nI_1] at g2
    rw [v88_6, v88_7, v88_9, if_neg h1]
    have e9 : (nI k = 9) ↔ k = 9 := nI_eq (b := 9) (by omega) (by omega)
    have e10 : (nI k = 10) ↔ k = 10 := nI_eq (b := 10) (by omega) (by omega)
    have l10 : (nI k ≤ 10) ↔ k ≤ 10 := nI_leI (b := 10) (by omega) (by omega)
    have l20 : ((20 : Int32) ≤ nI k) ↔ 20 ≤ k := nI_leI (a := 20) (by omega) (by omega)
    by_cases c : k = 9 ∨ k = 10 ∨ (10 < k ∧ k < 20)
    · have ec : dgC cs k = 0 := if_pos c
      have eg : dg1 cs (k + 1) = 31 * dg1 cs k + (0 : Int32).toInt64 := by
        show 31 * dg1 cs k + (dgC cs k).toInt64 = _
        rw [ec]
      rw [eg] at g2
      by_cases c9 : k = 9
      · simp only [v88_12, v88_15, v88_16, v88_17, v88_18, v88_20, v88_23, v88_24, v88_26, v88_29, v88_30, v88_32, v88_35, v88_36, v88_38, v88_45, v88_46, v88_50, v88_51, v88_52, v88_53, v88_56, v88_41, v88_42, if_pos (e9.mpr c9)]
        exact g2
      · by_cases c10 : k = 10
        · simp only [v88_12, v88_15, v88_16, v88_17, v88_18, v88_20, v88_23, v88_24, v88_26, v88_29, v88_30, v88_32, v88_35, v88_36, v88_38, v88_45, v88_46, v88_50, v88_51, v88_52, v88_53, v88_56, v88_41, v88_42, if_neg (fun z => c9 (e9.mp z)), if_pos (e10.mpr c10)]
          exact g2
        · simp only [v88_12, v88_15, v88_16, v88_17, v88_18, v88_20, v88_23, v88_24, v88_26, v88_29, v88_30, v88_32, v88_35, v88_36, v88_38, v88_45, v88_46, v88_50, v88_51, v88_52, v88_53, v88_56, v88_41, v88_42, if_neg (fun z => c9 (e9.mp z)), if_neg (fun z => c10 (e10.mp z)), if_neg (show ¬ nI k ≤ 10 from fun z => by have := l10.mp z; omega), if_neg (show ¬ (20 : Int32) ≤ nI k from fun z => by have := l20.mp z; omega)]
          exact g2
    · have c9 : ¬ k = 9 := by omega
      have c10 : ¬ k = 10 := by omega
      have ec : dgC cs k = sCount cs hs.length t.length (nI k) := (if_neg c).trans (cnt_any ho (by omega) c9 c10).symm
      have eg : dg1 cs (k + 1) = 31 * dg1 cs k + (sCount cs hs.length t.length (nI k)).toInt64 := by
        show 31 * dg1 cs k + (dgC cs k).toInt64 = _
        rw [ec]
      rw [eg] at g2
      have goal : ZR sc 88 45 [.ref 1, .long (dg1 cs k), .float 0, .int (nI k), v4] [.long (31 * dg1 cs k)] cs hs t E := by
        rw [v88_45, v88_46]
        refine v88_47 ?_
        simp only [v88_50, v88_51, v88_52, v88_53, v88_56]
        exact g2
      by_cases c3 : k ≤ 10
      · simp only [v88_12, v88_15, v88_16, v88_17, v88_18, v88_20, v88_23, v88_24, v88_26, v88_29, v88_30, v88_32, v88_35, if_neg (fun z => c9 (e9.mp z)), if_neg (fun z => c10 (e10.mp z)), if_pos (l10.mpr c3)]
        exact goal
      · simp only [v88_12, v88_15, v88_16, v88_17, v88_18, v88_20, v88_23, v88_24, v88_26, v88_29, v88_30, v88_32, v88_35, v88_36, v88_38, if_neg (fun z => c9 (e9.mp z)), if_neg (fun z => c10 (e10.mp z)), if_neg (fun z => c3 (l10.mp z)), if_pos (show (20 : Int32) ≤ nI k from l20.mpr (by omega))]
        exact goal
theorem dig_2 (hsk : sOk cs) {q : Nat} (hq : q < 2) {h0 : Int64} (g : ∀ v4 : Value, ZR sc 88 117 [.ref 1, .long (dg2 cs q (cM cs q).length h0), .float 0, .int (nI q), v4] [] cs hs t E) : ∀ d k, k + d = (cM cs q).length → ZR sc 88 69 [.ref 1, .long (dg2 cs q k h0), .float 0, .int (nI q), .int (nI k)] [] cs hs t E := by
  have hl := (hsk.2 q hq).1
  intro d
  induction d with
  | zero =>
    intro k hk
    obtain rfl : k = (cM cs q).length := by omega
    rw [v88_69, v88_71, v88_72, v88_73, v88_74]
    refine v88_75 ?_
    rw [cnt_5q hsk.1 hq, v88_78, if_pos (nI_le (Nat.le_refl _) (by omega))]
    exact g _
  | succ d ih =>
    intro k hk
    have g2 := ih (k + 1) (by omega)
    rw [← nI_1] at g2
    rw [v88_69, v88_71, v88_72, v88_73, v88_74]
    refine v88_75 ?_
    rw [cnt_5q hsk.1 hq, v88_78, if_neg (nI_ge (by omega) (by omega))]
    simp only [v88_81, v88_84, v88_85, v88_86, v88_89, v88_90, v88_91, v88_93]
    refine v88_94 ?_
    simp only [v88_97, v88_98, v88_99, v88_100, v88_101, v88_102, v88_104]
    refine v88_105 ?_
    simp only [v88_108, v88_109, v88_110, v88_111, v88_114]
    exact g2
theorem dig : ZR sc 88 0 [.ref 1, .null, .null, .null, .null] [] cs hs t (.long (dgst cs), cs, hs, t) := by
  refine ZR_of fun hsk _ _ => ?_
  simp only [v88_0, v88_3, v88_4, v88_5]
  refine dig_1 hsk.1 ?_ 50 0 rfl
  have i0 : (0 : Int32) = nI 0 := rfl
  have k2 : ∀ v4 : Value, ZR sc 88 117 [.ref 1, .long (dgst cs), .float 0, .int (nI 1), v4] [] cs hs t (.long (dgst cs), cs, hs, t) := by
    intro v4
    rw [v88_117, v88_120, v88_61, v88_62, v88_63, if_pos (show (2 : Int32) ≤ nI 1 + 1 by decide), v88_123]
    exact v88_124
  have k1 : ∀ v4 : Value, ZR sc 88 117 [.ref 1, .long (dg2 cs 0 (cM cs 0).length (dg1 cs 50)), .float 0, .int (nI 0), v4] [] cs hs t (.long (dgst cs), cs, hs, t) := by
    intro v4
    rw [v88_117, v88_120, v88_61, v88_62, v88_63, if_neg (show ¬ (2 : Int32) ≤ nI 0 + 1 by decide), v88_66, v88_67]
    exact dig_2 (q := 1) hsk (by omega) k2 (cM cs 1).length 0 (by omega)
  rw [v88_59, v88_60, v88_61, v88_62, v88_63, if_neg (show ¬ (2 : Int32) ≤ 0 by decide), v88_66, v88_67]
  exact dig_2 (q := 0) hsk (by omega) k1 (cM cs 0).length 0 (by omega)
end ZD
