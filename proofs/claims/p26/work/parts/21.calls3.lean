/-! ===== FieldMixtures: what the calls of the face come to, part 3 ===== -/
def lack (c : CS) : Prop := (cM c 0).length = 0 ∨ (cM c 1).length = 0
def oM (c : CS) (q : Nat) : List (Nat × Nat) := cM c (1 - q)
def mrg (l : List (Nat × Nat)) (n f a : Nat) : Nat → Nat
  | 0 => 0
  | k + 1 => mrg l n f a k + (if dg n (mA l k) f = a then mW l k else 0)
def mnS (l : List (Nat × Nat)) (n f : Nat) : Nat → Nat
  | 0 => 0
  | k + 1 => mnS l n f k + mW l k * dg n (mA l k) f
theorem mrg_le {l : List (Nat × Nat)} (o : mOk l) (n f a : Nat) : ∀ k, k ≤ l.length → mrg l n f a k ≤ 99 * k := by
  intro k
  induction k with
  | zero => intro _; exact Nat.le_refl _
  | succ k ih =>
    intro hk
    unfold mrg
    have := ih (by omega)
    have := (mW_ok o (show k < l.length by omega)).2
    split <;> omega
theorem mnS_le {l : List (Nat × Nat)} (o : mOk l) (n f : Nat) : ∀ k, k ≤ l.length → mnS l n f k ≤ 891 * k := by
  intro k
  induction k with
  | zero => intro _; exact Nat.le_refl _
  | succ k ih =>
    intro hk
    unfold mnS
    have := ih (by omega)
    have h1 := (mW_ok o (show k < l.length by omega)).2
    have h2 := dg_lt n (mA l k) f
    have := Nat.mul_le_mul h1 (show dg n (mA l k) f ≤ 9 by omega)
    omega
/-- a player's best reply: allocation, score, how many -/
def bR (c : CS) (q : Nat) : Nat × Int × Nat := bst (sco c q (oM c q)) (alL c q)
def sMixOf (c : CS) (x y w : Int32) : Int32 := if isQ x ∧ 0 ≤ y ∧ 0 ≤ w ∧ w ≤ 3 then (if 2 ≤ w ∧ (oM c (tn x)).length = 0 then eNP else if (cM c (tn x)).length ≤ tn y then eNF else if w = 0 then nI (mA (cM c (tn x)) (tn y)) else if w = 1 then nI (mW (cM c (tn x)) (tn y)) else prt (w - 2) (sco c (tn x) (oM c (tn x)) (mA (cM c (tn x)) (tn y))) (mSum (oM c (tn x)))) else eIA
def sMarg (c : CS) (x y z : Int32) : Int32 := if isQ x ∧ isF c y ∧ 0 ≤ z ∧ z ≤ 8 then nI (mrg (cM c (tn x)) (cN c) (tn y) (tn z) (cM c (tn x)).length) else eIA
def sMean (c : CS) (x y z : Int32) : Int32 := if isQ x ∧ isF c y ∧ isQ z then (if (cM c (tn x)).length = 0 then eNP else prt z (mnS (cM c (tn x)) (cN c) (tn y) (cM c (tn x)).length : Nat) (mSum (cM c (tn x)))) else eIA
def sExp (c : CS) (x : Int32) : Int32 := if isQ x then (if (cM c 0).length = 0 ∨ (cM c 1).length = 0 then eNP else prt x (scoM c 0 (cM c 0) (cM c 1)) (mSum (cM c 1) * mSum (cM c 0))) else eIA
def sReply (c : CS) (x w : Int32) : Int32 := if isQ x ∧ 0 ≤ w ∧ w ≤ 3 then (if (oM c (tn x)).length = 0 then eNP else if (bR c (tn x)).2.2 = 0 then eNP else if w = 0 then nI (bR c (tn x)).1 else if w = 3 then nI (bR c (tn x)).2.2 else prt (w - 1) (bR c (tn x)).2.1 (mSum (oM c (tn x)))) else eIA
def sCould (c : CS) (x z : Int32) : Int32 := if isQ x ∧ isQ z then (if (cM c 0).length = 0 ∨ (cM c 1).length = 0 then eNP else prt z ((bR c (tn x)).2.1 * (mSum (cM c (tn x)) : Nat) - scoM c (tn x) (cM c (tn x)) (oM c (tn x))) (mSum (oM c (tn x)) * mSum (cM c (tn x)))) else eIA
theorem bR_ok {c : CS} {q : Nat} (ho : cOk c) (om : mOk (oM c q)) : (bR c q).2.2 ≤ (alL c q).length ∧ (0 < (alL c q).length → 0 < (bR c q).2.2) ∧ (0 < (bR c q).2.2 → (bR c q).1 ∈ alL c q ∧ (bR c q).2.1.natAbs ≤ 42768) := by
  unfold bR
  generalize alL c q = L
  obtain ⟨h1, h2, h3⟩ := bst_all (sco c q (oM c q)) L
  refine ⟨h1, h2, fun h => ⟨(h3 h).1, ?_⟩⟩
  rw [(h3 h).2]
  exact sco_abs ho q om _
theorem bR_pos {c : CS} {q : Nat} (ho : cOk c) (hq : q < 2) (om : mOk (oM c q)) (hl : 0 < (cM c q).length) : 0 < (bR c q).2.2 := by
  refine (bR_ok ho om).2.1 ?_
  have h := (ho.2.2.2.2 q hq).2.2 0 hl
  have h2 : mA (cM c q) 0 ∈ alL c q := (als_mem ho.1 ho.2.1 (ho.2.2.2.2 q hq).1).mpr h
  exact List.length_pos_of_mem h2
section ZC3
variable {sc : Nat × (Nat → Int32)} {Q : Option Value → zA → Prop} {h : zA} {p : Nat → Option Nat} {iv : Nat → Nat → Int32} {cs : CS} {hs : List CS} {t : List Nat} {x y z w : Int32} {q : Nat}
theorem RC.mo (R : RC iv p cs hs t) (hq : q < 2) : mOk (cM cs q) := (R.1.sd hq).2.2.1
theorem side_q (hq : q < 2) : zEv sc 14 0 [.ref 2, .int (nI q)] [] (zst p iv) Q ↔ Q (some (.ref (sB 2 q))) (zst p iv) := c_side zCt_2 hq
theorem side_1q (hq : q < 2) : zEv sc 14 0 [.ref 2, .int (1 - nI q)] [] (zst p iv) Q ↔ Q (some (.ref (sB 2 (1 - q)))) (zst p iv) := by
  rw [show (1 : Int32) - nI q = nI (1 - q) by rw [show (1 : Int32) = nI 1 from rfl, pk_sub (by omega)]]
  exact c_side zCt_2 (by omega)
theorem side_0 : zEv sc 14 0 [.ref 2, .int 0] [] (zst p iv) Q ↔ Q (some (.ref (sB 2 0))) (zst p iv) := c_side (q := 0) zCt_2 (by omega)
theorem side_1 : zEv sc 14 0 [.ref 2, .int 1] [] (zst p iv) Q ↔ Q (some (.ref (sB 2 1))) (zst p iv) := c_side (q := 1) zCt_2 (by omega)
theorem nI_zero {n : Nat} (h : n < 2 ^ 31) : (nI n = 0) = (n = 0) := propext (by rw [← nI_0]; exact nI_eq h (by omega))
theorem k_mixOf {v : Value} (R : RC iv p cs hs t) : OKc sc 74 [.ref 1, .int x, .int y, .int w, v] p iv (sMixOf cs x y w) cs hs t := by
  unfold sMixOf
  by_cases g1 : isQ x
  · have d1 := decide_eq_true g1
    obtain ⟨q, hq, rfl⟩ := isQ_nI g1
    rw [tn_nI (by omega)]
    by_cases g2 : 0 ≤ y
    · have g2' : ¬ y < 0 := by
        rw [Int32.lt_iff_toInt_lt]
        rw [Int32.le_iff_toInt_le] at g2
        omega
      obtain ⟨i, hi, rfl⟩ := nI_of g2'
      rw [tn_nI hi]
      by_cases g3 : 0 ≤ w ∧ w ≤ 3
      · have d3 := decide_eq_true g3
        rw [if_pos ⟨g1, g2, g3⟩]
        obtain ⟨k, hk, rfl⟩ := in_nI (k := 3) (by omega) g3.1 g3.2
        have hS := R.1.sd hq
        have hS1 := R.1.sd (show 1 - q < 2 by omega)
        have hz := zCt_2.sd (q := q)
        have hz1 := zCt_2.sd (q := 1 - q)
        have hm := hz.2.2.2.2.2
        have hm1 := hz1.2.2.2.2.2
        have hl := hS.2.2.1.1
        have hl1 := hS1.2.2.1.1
        have o2 := mSum_ok hS1.2.2.1
        have e12 : (2 ≤ nI k) ↔ 2 ≤ k := by
          rw [show (2 : Int32) = nI 2 from rfl]
          exact nI_leI (by omega) (by omega)
        have head : ∀ Q, zEv sc 74 0 [.ref 1, .int (nI q), .int (nI i), .int (nI k), v] [] (zst p iv) Q ↔ (if nI k < 2 then zEv sc 74 63 [.ref 1, .int (nI q), .int (nI i), .int (nI k), .ref (sB 2 q + 2)] [] (zst p iv) Q else if ¬ (cM cs (1 - q)).length = 0 then zEv sc 74 63 [.ref 1, .int (nI q), .int (nI i), .int (nI k), .ref (sB 2 q + 2)] [] (zst p iv) Q else zEv sc 74 60 [.ref 1, .int (nI q), .int (nI i), .int (nI k), .ref (sB 2 q + 2)] [] (zst p iv) Q) := by
          intro Q
          simp only [u74_0, u74_1, u74_4, u74_7, u74_8, u74_11, u74_12, u74_13, u74_14, u74_17, u74_23, u74_24, u74_27, u74_28, u74_31, u74_34, u74_36, u74_37, u74_38, u74_41, u74_42, u74_45, u74_46, u74_47, u74_48, u74_51, u74_54, u74_57, u74_20, u74_22, c_isPlayer, c_isIn, d1, d3, if_neg g2', zb_t, Option.toList_some, Option.toList_none, List.cons_append, List.nil_append, zRef_some, true_and, and_true, true_or, or_true, i10, i01, not_false_eq_true, if_true, if_false, z1o, z1r.1, zCt_2.1, side_q hq, side_1q hq, hz.1, hz.2.2.2.2.1, hz1.1, hz1.2.2.2.2.1, hm1.1, hS1.2.2.2.1, nI_zero (show (cM cs (1 - q)).length < 2 ^ 31 by omega)]
        have e12n : (nI k < 2) ↔ k < 2 := by
          rw [show (2 : Int32) = nI 2 from rfl]
          exact nI_ltI (by omega) (by omega)
        by_cases g4 : 2 ≤ nI k ∧ (oM cs q).length = 0
        · rw [if_pos g4]
          refine ⟨iv, p, R, FC.rf, fun Q hQ => ?_⟩
          rw [head, if_neg (by rw [e12n]; have := e12.mp g4.1; omega), if_neg (fun z => z g4.2)]
          simp only [u74_60, u74_62]
          exact hQ
        · rw [if_neg g4]
          have head2 : ∀ Q, zEv sc 74 0 [.ref 1, .int (nI q), .int (nI i), .int (nI k), v] [] (zst p iv) Q ↔ zEv sc 74 63 [.ref 1, .int (nI q), .int (nI i), .int (nI k), .ref (sB 2 q + 2)] [] (zst p iv) Q := by
            intro Q
            rw [head]
            by_cases g5 : nI k < 2
            · rw [if_pos g5]
            · rw [if_neg g5, if_pos (show ¬ (cM cs (1 - q)).length = 0 from fun z => g4 ⟨e12.mpr (by rw [e12n] at g5; omega), z⟩)]
          have head3 : ∀ Q, zEv sc 74 0 [.ref 1, .int (nI q), .int (nI i), .int (nI k), v] [] (zst p iv) Q ↔ (if i < (cM cs q).length then zEv sc 74 75 [.ref 1, .int (nI q), .int (nI i), .int (nI k), .ref (sB 2 q + 2)] [] (zst p iv) Q else zEv sc 74 72 [.ref 1, .int (nI q), .int (nI i), .int (nI k), .ref (sB 2 q + 2)] [] (zst p iv) Q) := by
            intro Q
            rw [head2]
            simp only [u74_63, u74_64, u74_66, u74_69, hm.1, hS.2.2.2.1, nI_ltI hi (show (cM cs q).length < 2 ^ 31 by omega)]
          by_cases g5 : (cM cs q).length ≤ i
          · rw [if_pos g5]
            refine ⟨iv, p, R, FC.rf, fun Q hQ => ?_⟩
            rw [head3, if_neg (by omega)]
            simp only [u74_72, u74_74]
            exact hQ
          · rw [if_neg g5]
            have hA := hS.2.2.2.2 i (by omega)
            have hy := mA_lt hS.2.2.1 (show i < (cM cs q).length by omega)
            rcases (show k = 0 ∨ k = 1 ∨ 2 ≤ k by omega) with rfl | rfl | hk2
            · rw [if_pos (show nI 0 = 0 from rfl)]
              refine ⟨iv, p, R, FC.rf, fun Q hQ => ?_⟩
              rw [head3, if_pos (by omega), u74_75, u74_76, u74_77, if_neg (by decide), u74_80, u74_81, if_neg (by decide)]
              simp only [u74_84, u74_86, u74_89, u74_90, u74_91, u74_101, u74_94, u74_96, u74_99, u74_100, hm.1, hm.2.1, hm.2.2.2.1, hm.2.2.2.2.2.1, zRef_some, nI_clamp hi, vp_in_nI (show i < 12 by omega) (by omega), true_and, hA.1]
              exact hQ
            · rw [if_neg (by decide), if_pos (show nI 1 = 1 from rfl)]
              refine ⟨iv, p, R, FC.rf, fun Q hQ => ?_⟩
              rw [head3, if_pos (by omega), u74_75, u74_76, u74_77, if_neg (by decide), u74_80, u74_81, if_pos (by decide)]
              simp only [u74_101, u74_94, u74_96, u74_99, u74_100, hm.1, hm.2.2.1, hm.2.2.2.2.1, hm.2.2.2.2.2.2, zRef_some, nI_clamp hi, vp_in_nI (show i < 12 by omega) (by omega), true_and, hA.2]
              exact hQ
            · rw [if_neg (by rw [show (0 : Int32) = nI 0 from rfl, nI_eq (by omega) (by omega)]; omega), if_neg (by rw [show (1 : Int32) = nI 1 from rfl, nI_eq (by omega) (by omega)]; omega)]
              have hlo : 0 < (oM cs q).length := Nat.pos_of_ne_zero (fun z => g4 ⟨e12.mpr hk2, z⟩)
              obtain ⟨iv2, r1, r2, r3⟩ := c_measure (sc := sc) (p := p) (v1 := .null) (v2 := .null) (v3 := .null) zCt_2 (by omega) R.1 R.2.1 hq
              have R2 : RC iv2 p cs hs t := R.keep (fun c hc => by rcases Nat.lt_or_ge c 80 with h | h
                                                                   · exact r2 c (Or.inl h)
                                                                   · exact r2 c (Or.inr (by omega)))
              have hA2 := (R2.1.sd hq).2.2.2.2 i (by omega)
              refine ⟨iv2, p, R2, fun c hc => r2 c (by omega), fun Q hQ => ?_⟩
              have hsc := sco_abs R.2.1 q hS1.2.2.1 (mA (cM cs q) i)
              rw [head3, if_pos (by omega), u74_75, u74_76, u74_77, if_pos (e12.mpr hk2)]
              simp only [u74_102, u74_103, u74_106, u74_107, u74_110, u74_111, z1o, z1r.1, z1r.2.2.2.2.2.1, z80.1, zRef_some]
              refine r3 _ ?_
              simp only [u74_114, u74_115, u74_116, u74_117, u74_118, u74_121, u74_123, u74_126, u74_127, u74_128, u74_131, u74_132, u74_135, u74_138, u74_141, Option.toList_some, Option.toList_none, List.cons_append, List.nil_append, zRef_some, true_and, and_true, true_or, or_true, i10, i01, z1o, z1r.2.2.2.2.2.1, z80.1, hm.1, hm.2.1, hm.2.2.2.1, hm.2.2.2.2.2.1, nI_clamp hi, vp_in_nI (show i < 12 by omega) (by omega), hA2.1, c_of R.2.1 r1 hy, r1.2.1, c_partOf (show (sco cs q (cM cs (1 - q)) (mA (cM cs q) i)).natAbs < 2 ^ 31 by omega) (o2.2 hlo) (show mSum (cM cs (1 - q)) < 2 ^ 31 by omega)]
              exact hQ
      · rw [if_neg (fun z => g3 z.2.2)]
        refine ⟨iv, p, R, FC.rf, fun Q hQ => ?_⟩
        simp only [u74_0, u74_1, u74_4, u74_7, u74_8, u74_11, u74_12, u74_13, u74_14, u74_17, u74_23, u74_24, u74_27, u74_28, u74_31, u74_34, u74_36, u74_37, u74_38, u74_41, u74_42, u74_45, u74_46, u74_47, u74_48, u74_51, u74_54, u74_57, u74_60, u74_62, u74_63, u74_64, u74_66, u74_69, u74_72, u74_74, u74_75, u74_76, u74_77, u74_80, u74_81, u74_84, u74_86, u74_89, u74_90, u74_91, u74_101, u74_94, u74_96, u74_99, u74_100, u74_102, u74_103, u74_106, u74_107, u74_110, u74_111, u74_114, u74_115, u74_116, u74_117, u74_118, u74_121, u74_123, u74_126, u74_127, u74_128, u74_131, u74_132, u74_135, u74_138, u74_141, u74_20, u74_22, c_isPlayer, c_isIn, d1, decide_eq_false g3, if_neg g2', zb_t, zb_f, Option.toList_some, Option.toList_none, List.cons_append, List.nil_append, zRef_some, true_and, and_true, true_or, or_true, i10, i01, not_true_eq_false, if_false]
        exact hQ
    · rw [if_neg (fun z => g2 z.2.1)]
      have g2' : y < 0 := by
        rw [Int32.lt_iff_toInt_lt]
        rw [Int32.le_iff_toInt_le] at g2
        omega
      refine ⟨iv, p, R, FC.rf, fun Q hQ => ?_⟩
      simp only [u74_0, u74_1, u74_4, u74_7, u74_8, u74_11, u74_12, u74_13, u74_14, u74_17, u74_23, u74_24, u74_27, u74_28, u74_31, u74_34, u74_36, u74_37, u74_38, u74_41, u74_42, u74_45, u74_46, u74_47, u74_48, u74_51, u74_54, u74_57, u74_60, u74_62, u74_63, u74_64, u74_66, u74_69, u74_72, u74_74, u74_75, u74_76, u74_77, u74_80, u74_81, u74_84, u74_86, u74_89, u74_90, u74_91, u74_101, u74_94, u74_96, u74_99, u74_100, u74_102, u74_103, u74_106, u74_107, u74_110, u74_111, u74_114, u74_115, u74_116, u74_117, u74_118, u74_121, u74_123, u74_126, u74_127, u74_128, u74_131, u74_132, u74_135, u74_138, u74_141, u74_20, u74_22, c_isPlayer, d1, if_pos g2', zb_t, Option.toList_some, Option.toList_none, List.cons_append, List.nil_append, zRef_some, true_and, and_true, true_or, or_true, i10, i01, if_false]
      exact hQ
  · rw [if_neg (fun z => g1 z.1)]
    refine ⟨iv, p, R, FC.rf, fun Q hQ => ?_⟩
    simp only [u74_0, u74_1, u74_4, u74_7, u74_8, u74_11, u74_12, u74_13, u74_14, u74_17, u74_23, u74_24, u74_27, u74_28, u74_31, u74_34, u74_36, u74_37, u74_38, u74_41, u74_42, u74_45, u74_46, u74_47, u74_48, u74_51, u74_54, u74_57, u74_60, u74_62, u74_63, u74_64, u74_66, u74_69, u74_72, u74_74, u74_75, u74_76, u74_77, u74_80, u74_81, u74_84, u74_86, u74_89, u74_90, u74_91, u74_101, u74_94, u74_96, u74_99, u74_100, u74_102, u74_103, u74_106, u74_107, u74_110, u74_111, u74_114, u74_115, u74_116, u74_117, u74_118, u74_121, u74_123, u74_126, u74_127, u74_128, u74_131, u74_132, u74_135, u74_138, u74_141, u74_20, u74_22, c_isPlayer, decide_eq_false g1, zb_f, Option.toList_some, Option.toList_none, List.cons_append, List.nil_append, zRef_some, true_and, and_true, true_or, or_true, i10, i01, if_true]
    exact hQ
theorem k_marg {v4 v5 v6 : Value} (R : RC iv p cs hs t) : OKc sc 75 [.ref 1, .int x, .int y, .int z, v4, v5, v6] p iv (sMarg cs x y z) cs hs t := by
  unfold sMarg
  by_cases g1 : isQ x
  · have d1 := decide_eq_true g1
    obtain ⟨q, hq, rfl⟩ := isQ_nI g1
    rw [tn_nI (by omega)]
    by_cases g2 : isF cs y
    · have d2 : decide (0 ≤ y ∧ y ≤ nI (cN cs) - 1) = true := decide_eq_true g2
      obtain ⟨f, hf, rfl⟩ := isF_nI R.2.1 g2
      have hN := R.2.1.2.1
      rw [tn_nI (by omega)]
      by_cases g3 : 0 ≤ z ∧ z ≤ 8
      · have d3 := decide_eq_true g3
        rw [if_pos ⟨g1, g2, g3⟩]
        obtain ⟨a, ha, rfl⟩ := in_nI (k := 8) (by omega) g3.1 g3.2
        rw [tn_nI (by omega)]
        have hS := R.1.sd hq
        have hz := zCt_2.sd (q := q)
        have hm := hz.2.2.2.2.2
        have hl := hS.2.2.1.1
        refine ⟨iv, p, R, FC.rf, fun Q hQ => ?_⟩
        have loop : ∀ d i, (cM cs q).length - i = d → i ≤ (cM cs q).length → zEv sc 75 50 [.ref 1, .int (nI q), .int (nI f), .int (nI a), .ref (sB 2 q + 2), .int (nI (mrg (cM cs q) (cN cs) f a i)), .int (nI i)] [] (zst p iv) Q := by
          intro d
          induction d with
          | zero =>
            intro i hd hi
            have : i = (cM cs q).length := by omega
            subst this
            rw [u75_50]
            simp only [u75_52, u75_54, hm.1, hS.2.2.2.1]
            rw [u75_57, if_pos (Int32.le_refl _)]
            simp only [u75_99, u75_101]
            exact hQ
          | succ d ih =>
            intro i hd hi
            have hA := hS.2.2.2.2 i (by omega)
            have hy := mA_lt hS.2.2.1 (show i < (cM cs q).length by omega)
            have hdg := dg_lt (cN cs) (mA (cM cs q) i) f
            have ih1 := ih (i + 1) (by omega) (by omega)
            unfold mrg at ih1
            rw [u75_50]
            simp only [u75_52, u75_54, hm.1, hS.2.2.2.1]
            rw [u75_57, if_neg (by rw [nI_leI (by omega) (by omega)]; omega)]
            simp only [u75_60, u75_61, u75_64, u75_65, u75_67, u75_70, u75_72, u75_73, z1o, z1r.1, zCt_2.1, hm.1, hm.2.1, hm.2.2.2.1, hm.2.2.2.2.2.1, zRef_some, nI_clamp (show i < 2 ^ 31 by omega), vp_in_nI (show i < 12 by omega) (by omega), true_and, hA.1, c_amountIn zCt_2 R.1.1 hN hf hy, Option.toList_some, Option.toList_none, List.cons_append, List.nil_append, zRef_some, true_and, and_true, true_or, or_true, i10, i01]
            rw [u75_76, u75_77]
            by_cases e : dg (cN cs) (mA (cM cs q) i) f = a
            · rw [if_pos e] at ih1
              rw [if_neg (fun z => z (by rw [e]))]
              simp only [u75_80, u75_82, u75_84, u75_87, u75_89, u75_90, u75_91, u75_93, u75_96, hm.1, hm.2.2.1, hm.2.2.2.2.1, hm.2.2.2.2.2.2, zRef_some, nI_clamp (show i < 2 ^ 31 by omega), vp_in_nI (show i < 12 by omega) (by omega), true_and, hA.2, nI_add, nI_1]
              exact ih1
            · rw [if_neg e, Nat.add_zero] at ih1
              rw [if_pos (by rw [nI_eq (by omega) (by omega)]; exact e)]
              simp only [u75_93, u75_96, nI_1]
              exact ih1
        have l0 := loop _ 0 rfl (by omega)
        unfold mrg at l0
        rw [nI_0] at l0
        simp only [u75_0, u75_1, u75_4, u75_7, u75_8, u75_11, u75_12, u75_15, u75_18, u75_19, u75_20, u75_22, u75_25, u75_31, u75_32, u75_35, u75_36, u75_39, u75_42, u75_44, u75_45, u75_47, u75_48, u75_28, u75_30, z1o, z1r.1, zCt_2.1, c_isPlayer, c_isIn, c_hasField zCt_2 R.1.1, d1, d2, d3, zb_t, Option.toList_some, Option.toList_none, List.cons_append, List.nil_append, zRef_some, true_and, and_true, true_or, or_true, i10, i01, not_false_eq_true, if_true, if_false, side_q hq, hz.1, hz.2.2.2.2.1]
        exact l0
      · rw [if_neg (fun z => g3 z.2.2)]
        refine ⟨iv, p, R, FC.rf, fun Q hQ => ?_⟩
        simp only [u75_0, u75_1, u75_4, u75_7, u75_8, u75_11, u75_12, u75_15, u75_18, u75_19, u75_20, u75_22, u75_25, u75_28, u75_30, z1o, z1r.1, zCt_2.1, c_isPlayer, c_isIn, c_hasField zCt_2 R.1.1, d1, d2, decide_eq_false g3, zb_t, zb_f, Option.toList_some, Option.toList_none, List.cons_append, List.nil_append, zRef_some, true_and, and_true, true_or, or_true, i10, i01, not_true_eq_false, if_false]
        exact hQ
    · rw [if_neg (fun z => g2 z.2.1)]
      have d2 : decide (0 ≤ y ∧ y ≤ nI (cN cs) - 1) = false := decide_eq_false g2
      refine ⟨iv, p, R, FC.rf, fun Q hQ => ?_⟩
      simp only [u75_0, u75_1, u75_4, u75_7, u75_8, u75_11, u75_12, u75_15, u75_18, u75_19, u75_20, u75_22, u75_25, u75_28, u75_30, z1o, z1r.1, zCt_2.1, c_isPlayer, c_hasField zCt_2 R.1.1, d1, d2, zb_t, zb_f, Option.toList_some, Option.toList_none, List.cons_append, List.nil_append, zRef_some, true_and, and_true, true_or, or_true, i10, i01, if_true, if_false]
      exact hQ
  · rw [if_neg (fun z => g1 z.1)]
    refine ⟨iv, p, R, FC.rf, fun Q hQ => ?_⟩
    simp only [u75_0, u75_1, u75_4, u75_7, u75_8, u75_11, u75_12, u75_15, u75_18, u75_19, u75_20, u75_22, u75_25, u75_28, u75_30, c_isPlayer, decide_eq_false g1, zb_f, Option.toList_some, Option.toList_none, List.cons_append, List.nil_append, zRef_some, true_and, and_true, true_or, or_true, i10, i01, if_true]
    exact hQ
theorem k_mean {v4 v5 v6 : Value} (R : RC iv p cs hs t) : OKc sc 77 [.ref 1, .int x, .int y, .int z, v4, v5, v6] p iv (sMean cs x y z) cs hs t := by
  unfold sMean
  by_cases g1 : isQ x
  · have d1 := decide_eq_true g1
    obtain ⟨q, hq, rfl⟩ := isQ_nI g1
    rw [tn_nI (by omega)]
    by_cases g2 : isF cs y
    · have d2 : decide (0 ≤ y ∧ y ≤ nI (cN cs) - 1) = true := decide_eq_true g2
      obtain ⟨f, hf, rfl⟩ := isF_nI R.2.1 g2
      have hN := R.2.1.2.1
      rw [tn_nI (by omega)]
      by_cases g3 : isQ z
      · have d3 := decide_eq_true g3
        rw [if_pos ⟨g1, g2, g3⟩]
        have hS := R.1.sd hq
        have hz := zCt_2.sd (q := q)
        have hm := hz.2.2.2.2.2
        have hl := hS.2.2.1.1
        have head : ∀ Q, zEv sc 77 0 [.ref 1, .int (nI q), .int (nI f), .int z, v4, v5, v6] [] (zst p iv) Q ↔ (if ¬ (cM cs q).length = 0 then zEv sc 77 52 [.ref 1, .int (nI q), .int (nI f), .int z, .ref (sB 2 q + 2), v5, v6] [] (zst p iv) Q else zEv sc 77 49 [.ref 1, .int (nI q), .int (nI f), .int z, .ref (sB 2 q + 2), v5, v6] [] (zst p iv) Q) := by
          intro Q
          simp only [u77_0, u77_1, u77_4, u77_7, u77_8, u77_11, u77_12, u77_15, u77_18, u77_19, u77_22, u77_28, u77_29, u77_32, u77_33, u77_36, u77_39, u77_41, u77_43, u77_46, u77_25, u77_27, z1o, z1r.1, zCt_2.1, c_isPlayer, c_isPart, c_hasField zCt_2 R.1.1, d1, d2, d3, zb_t, Option.toList_some, Option.toList_none, List.cons_append, List.nil_append, zRef_some, true_and, and_true, true_or, or_true, i10, i01, not_false_eq_true, if_true, if_false, side_q hq, hz.1, hz.2.2.2.2.1, hm.1, hS.2.2.2.1, nI_zero (show (cM cs q).length < 2 ^ 31 by omega)]
        refine ⟨iv, p, R, FC.rf, fun Q hQ => ?_⟩
        by_cases g4 : (cM cs q).length = 0
        · rw [if_pos g4] at hQ
          rw [head, if_neg (fun z => z g4)]
          simp only [u77_49, u77_51]
          exact hQ
        · rw [if_neg g4] at hQ
          have o2 := mSum_ok hS.2.2.1
          have hmn := mnS_le hS.2.2.1 (cN cs) f (cM cs q).length (Nat.le_refl _)
          have loop : ∀ d i, (cM cs q).length - i = d → i ≤ (cM cs q).length → zEv sc 77 58 [.ref 1, .int (nI q), .int (nI f), .int z, .ref (sB 2 q + 2), .int (nI (mnS (cM cs q) (cN cs) f i)), .int (nI i)] [] (zst p iv) Q := by
            intro d
            induction d with
            | zero =>
              intro i hd hi
              have : i = (cM cs q).length := by omega
              subst this
              rw [u77_58]
              simp only [u77_60, u77_62, hm.1, hS.2.2.2.1]
              rw [u77_65, if_pos (Int32.le_refl _)]
              simp only [u77_104, u77_105, u77_107, u77_109, u77_112, u77_115, c_weight hm hS.2.2, hm.1, Option.toList_some, Option.toList_none, List.cons_append, List.nil_append, zRef_some, true_and, and_true, true_or, or_true, i10, i01, nI_iI (mnS (cM cs q) (cN cs) f (cM cs q).length), c_partOf (show ((mnS (cM cs q) (cN cs) f (cM cs q).length : Nat) : Int).natAbs < 2 ^ 31 by omega) (o2.2 (by omega)) (show mSum (cM cs q) < 2 ^ 31 by omega)]
              exact hQ
            | succ d ih =>
              intro i hd hi
              have hA := hS.2.2.2.2 i (by omega)
              have hy := mA_lt hS.2.2.1 (show i < (cM cs q).length by omega)
              have ih1 := ih (i + 1) (by omega) (by omega)
              unfold mnS at ih1
              rw [u77_58]
              simp only [u77_60, u77_62, hm.1, hS.2.2.2.1]
              rw [u77_65, if_neg (by rw [nI_leI (by omega) (by omega)]; omega)]
              simp only [u77_68, u77_70, u77_72, u77_75, u77_77, u77_78, u77_79, u77_82, u77_83, u77_85, u77_88, u77_90, u77_91, u77_94, u77_95, u77_96, u77_98, u77_101, z1o, z1r.1, zCt_2.1, hm.1, hm.2.1, hm.2.2.1, hm.2.2.2.1, hm.2.2.2.2.1, hm.2.2.2.2.2.1, hm.2.2.2.2.2.2, zRef_some, nI_clamp (show i < 2 ^ 31 by omega), vp_in_nI (show i < 12 by omega) (by omega), true_and, hA.1, hA.2, c_amountIn zCt_2 R.1.1 hN hf hy, Option.toList_some, Option.toList_none, List.cons_append, List.nil_append, zRef_some, true_and, and_true, true_or, or_true, i10, i01, pk_mul, nI_add, nI_1]
              exact ih1
          have l0 := loop _ 0 rfl (by omega)
          unfold mnS at l0
          rw [nI_0] at l0
          rw [head, if_pos g4]
          simp only [u77_52, u77_53, u77_55, u77_56]
          exact l0
      · rw [if_neg (fun z => g3 z.2.2)]
        refine ⟨iv, p, R, FC.rf, fun Q hQ => ?_⟩
        simp only [u77_0, u77_1, u77_4, u77_7, u77_8, u77_11, u77_12, u77_15, u77_18, u77_19, u77_22, u77_25, u77_27, z1o, z1r.1, zCt_2.1, c_isPlayer, c_isPart, c_hasField zCt_2 R.1.1, d1, d2, decide_eq_false g3, zb_t, zb_f, Option.toList_some, Option.toList_none, List.cons_append, List.nil_append, zRef_some, true_and, and_true, true_or, or_true, i10, i01, not_true_eq_false, if_false]
        exact hQ
    · rw [if_neg (fun z => g2 z.2.1)]
      have d2 : decide (0 ≤ y ∧ y ≤ nI (cN cs) - 1) = false := decide_eq_false g2
      refine ⟨iv, p, R, FC.rf, fun Q hQ => ?_⟩
      simp only [u77_0, u77_1, u77_4, u77_7, u77_8, u77_11, u77_12, u77_15, u77_18, u77_19, u77_22, u77_25, u77_27, z1o, z1r.1, zCt_2.1, c_isPlayer, c_hasField zCt_2 R.1.1, d1, d2, zb_t, zb_f, Option.toList_some, Option.toList_none, List.cons_append, List.nil_append, zRef_some, true_and, and_true, true_or, or_true, i10, i01, if_true, if_false]
      exact hQ
  · rw [if_neg (fun z => g1 z.1)]
    refine ⟨iv, p, R, FC.rf, fun Q hQ => ?_⟩
    simp only [u77_0, u77_1, u77_4, u77_7, u77_8, u77_11, u77_12, u77_15, u77_18, u77_19, u77_22, u77_25, u77_27, c_isPlayer, decide_eq_false g1, zb_f, Option.toList_some, Option.toList_none, List.cons_append, List.nil_append, zRef_some, true_and, and_true, true_or, or_true, i10, i01, if_true]
    exact hQ
end ZC3
