/-! ===== FieldMixtures: what the calls of the face come to, part 4 ===== -/
def cntS (c : CS) (hl tl : Nat) (n : Nat) : Int32 := if n = 0 then nI (cN c) else if n = 1 then nI (vSum (cV c) (cN c)) else if n = 2 then nI (cT c) else if n < 5 then nI (cR c (n - 3)) else if n < 7 then nI (cM c (n - 5)).length else if n < 9 then nI (mSum (cM c (n - 7))) else if n = 9 then nI hl else nI tl
def sCount (c : CS) (hl tl : Nat) (x : Int32) : Int32 := if 20 ≤ x ∧ x ≤ 19 + nI (cN c) then nI (cV c (tn x - 20)) else if 30 ≤ x ∧ x ≤ 29 + nI (cN c) then nI (cB c 0 (tn x - 30)) else if 40 ≤ x ∧ x ≤ 39 + nI (cN c) then nI (cB c 1 (tn x - 40)) else if 0 ≤ x ∧ x ≤ 10 then cntS c hl tl (tn x) else eIA
def sUndo (c : CS) (hs : List CS) : Int32 × CS × List CS := match hs.getLast? with
  | none => (eNP, c, hs)
  | some d => (nI (hs.length - 1), d, hs.dropLast)
def sType (t : List Nat) (x : Int32) : Int32 × List Nat := if 32 ≤ x ∧ x ≤ 126 then (if 80 ≤ t.length then (eLR, t) else (nI (t.length + 1), t ++ [tn x])) else (eIA, t)
def pR (c : CS) (t : List Nat) : Nat × Nat × Nat × CS := pGo t 80 c 0
def sFault (c : CS) (t : List Nat) (x : Int32) : Int32 := if 0 ≤ x ∧ x ≤ 2 then (if (pR c t).1 = 0 then eNF else if x = 0 then nI (pR c t).2.1 else if x = 1 then nI (pR c t).1 else if (pR c t).1 = 1 then nI (pR c t).2.2.1 - nI (pR c t).2.1 else eNF) else eIA
def szM (c : CS) : Int32 := nI ((cM c 0).length + (cM c 1).length)
def sRead (c : CS) (t : List Nat) : Int32 × Option CS := if (pR c t).1 = 0 then (szM (pR c t).2.2.2, some (pR c t).2.2.2) else (eNP, none)
section ZC4
variable {sc : Nat × (Nat → Int32)} {Q : Option Value → zA → Prop} {h : zA} {p : Nat → Option Nat} {iv : Nat → Nat → Int32} {cs : CS} {hs : List CS} {t : List Nat} {x y z w : Int32} {q : Nat}
theorem c_best (R : RC iv p cs hs t) (hq : q < 2) : ∃ iv1 iv2 iv3, RC iv1 p cs hs t ∧ isSc iv1 cs q (oM cs q) ∧ FC iv1 iv ∧ RC iv3 p cs hs t ∧ FC iv3 iv ∧ isBR iv3 86 (bR cs q) ∧ isSc iv3 cs q (oM cs q) ∧ (∀ (Q : Option Value → zA → Prop), Q none (zst p iv1) → zEv sc 39 0 [.ref 80, .ref 2, .int (nI q), .null, .null, .null] [] (zst p iv) Q) ∧ (∀ (Q : Option Value → zA → Prop), Q (some (.ref (aL q))) (zst p iv2) → zEv sc 62 0 [.ref 1, .int (nI q), .null] [] (zst p iv1) Q) ∧ ∀ (Q : Option Value → zA → Prop), Q none (zst p iv3) → zEv sc 5 0 [.ref 86, .ref (aL q), .ref 80, .null, .null] [] (zst p iv2) Q := by
  obtain ⟨iv1, r1, r2, r3⟩ := c_measure (sc := sc) (p := p) (v1 := .null) (v2 := .null) (v3 := .null) zCt_2 (by omega) R.1 R.2.1 hq
  have R1 : RC iv1 p cs hs t := R.keep (fun c hc => r2 c (by omega))
  obtain ⟨iv2, q1, q2, q3⟩ := c_freshList (sc := sc) (p := p) (v := .null) R1.1 R1.2.1 hq
  have hA := aL_b q
  have hN := R.2.1.2.1
  have S2 : isSc iv2 cs q (oM cs q) := isSc.keep hN r1 (fun c _ _ => q2 c (by omega) (by omega))
  have om : mOk (oM cs q) := R.mo (show 1 - q < 2 by omega)
  obtain ⟨iv3, s1, s2, s3⟩ := c_find (sc := sc) (p := p) (a := 86) (v1 := .null) (v2 := .null) (Or.inl rfl) R.2.1 om q1 S2 (fun k hk => by have := (als_at hk).1; omega)
  have R2 : RC iv2 p cs hs t := R1.keep (fun c hc => q2 c (by omega) (by omega))
  exact ⟨iv1, iv2, iv3, R1, r1, fun c _ => r2 c (by omega), R2.keep (fun c hc => s2 c (by omega)), fun c hc => by rw [s2 c (by omega), q2 c (by omega) (by omega), r2 c (by omega)], s1, isSc.keep hN S2 (fun c _ _ => s2 c (by omega)), r3, q3, s3⟩
theorem d_lack (R : RC iv p cs hs t) : zEv sc 18 0 [.ref 2] [] (zst p iv) Q ↔ Q (some (.int (zb (decide ((cM cs 0).length = 0 ∨ (cM cs 1).length = 0))))) (zst p iv) := c_lacks zCt_2 R.1
theorem k_exp {v : Value} (R : RC iv p cs hs t) : OKc sc 78 [.ref 1, .int x, v] p iv (sExp cs x) cs hs t := by
  unfold sExp
  by_cases g1 : isQ x
  · have d1 := decide_eq_true g1
    rw [if_pos g1]
    by_cases g2 : (cM cs 0).length = 0 ∨ (cM cs 1).length = 0
    · rw [if_pos g2]
      refine ⟨iv, p, R, FC.rf, fun Q hQ => ?_⟩
      simp only [u78_0, u78_1, u78_4, u78_7, u78_9, u78_10, u78_11, u78_14, u78_17, u78_20, u78_22, c_isPart, d1, d_lack R, decide_eq_true g2, zb_t, Option.toList_some, Option.toList_none, List.cons_append, List.nil_append, zRef_some, true_and, and_true, true_or, or_true, i10, i01, not_false_eq_true, if_true, if_false, z1o, z1r.1, zCt_2.1]
      exact hQ
    · rw [if_neg g2]
      obtain ⟨iv1, iv2, iv3, R1, S1, F1, -, -, -, -, m1, -, -⟩ := c_best (sc := sc) R (show 0 < 2 by omega)
      rw [nI_0] at m1
      have hm := (zCt_2.sd (q := 0))
      have o0 := R.mo (show 0 < 2 by omega)
      have o1 := R.mo (show 1 < 2 by omega)
      have w0 := mSum_ok o0
      have w1 := mSum_ok o1
      have hu := scoM_abs R.2.1 0 o1 o0
      have hd : mSum (cM cs 1) * mSum (cM cs 0) ≤ 1188 * 1188 := Nat.mul_le_mul w1.1 w0.1
      have hd0 : 0 < mSum (cM cs 1) * mSum (cM cs 0) := Nat.mul_pos (w1.2 (by omega)) (w0.2 (by omega))
      have M1 : isMix iv1 (sB 2 0 + 2) (cM cs 0) := (R1.1.sd (show 0 < 2 by omega)).2.2
      have e1 : iv1 80 1 = nI (mSum (cM cs 1)) := S1.2.1
      have S1' : isSc iv1 cs 0 (cM cs 1) := S1
      refine ⟨iv1, p, R1, F1, fun Q hQ => ?_⟩
      simp only [u78_0, u78_1, u78_4, u78_7, u78_9, u78_10, u78_11, u78_14, u78_17, u78_20, u78_22, u78_23, u78_24, u78_27, u78_28, u78_31, u78_34, u78_35, u78_36, u78_39, u78_40, u78_43, u78_44, c_isPart, d1, d_lack R, decide_eq_false g2, zb_t, zb_f, Option.toList_some, Option.toList_none, List.cons_append, List.nil_append, zRef_some, true_and, and_true, true_or, or_true, i10, i01, not_false_eq_true, if_true, if_false, z1o, z1r.1, z1r.2.2.2.2.2.1, zCt_2.1, side_0, hm.1, hm.2.2.2.2.1, z80.1]
      refine m1 _ ?_
      simp only [u78_47, u78_48, u78_49, u78_52, u78_53, u78_56, u78_57, u78_60, u78_63, u78_64, u78_67, u78_68, u78_71, Option.toList_some, Option.toList_none, List.cons_append, List.nil_append, zRef_some, true_and, and_true, true_or, or_true, i10, i01, z1o, z1r.2.2.2.2.2.1, z80.1, hm.2.2.2.2.2.1, c_ofMixture R.2.1 hm.2.2.2.2.2 M1 S1', c_weight hm.2.2.2.2.2 M1, e1, pk_mul, c_partOf (show (scoM cs 0 (cM cs 0) (cM cs 1)).natAbs < 2 ^ 31 by omega) hd0 (show mSum (cM cs 1) * mSum (cM cs 0) < 2 ^ 31 by omega)]
      exact hQ
  · rw [if_neg g1]
    refine ⟨iv, p, R, FC.rf, fun Q hQ => ?_⟩
    simp only [u78_0, u78_1, u78_4, u78_7, u78_9, u78_10, u78_11, u78_14, u78_17, u78_20, u78_22, c_isPart, decide_eq_false g1, zb_f, Option.toList_some, Option.toList_none, List.cons_append, List.nil_append, zRef_some, true_and, and_true, true_or, or_true, i10, i01, not_true_eq_false, if_false]
    exact hQ
theorem k_type (R : RC iv p cs hs t) : OKc sc 83 [.ref 1, .int x] p iv (sType t x).1 cs hs (sType t x).2 := by
  unfold sType
  have ht := R.2.2.2.2
  by_cases g1 : 32 ≤ x ∧ x ≤ 126
  · have d1 := decide_eq_true g1
    rw [if_pos g1]
    obtain ⟨k, hk1, hk2, rfl⟩ := in_nI2 (l := 32) (k := 126) (by omega) (by omega) g1.1 g1.2
    have head : ∀ Q, zEv sc 83 0 [.ref 1, .int (nI k)] [] (zst p iv) Q ↔ (if t.length < 80 then zEv sc 83 29 [.ref 1, .int (nI k)] [] (zst p iv) Q else zEv sc 83 26 [.ref 1, .int (nI k)] [] (zst p iv) Q) := by
      intro Q
      simp only [u83_0, u83_1, u83_3, u83_5, u83_8, u83_11, u83_13, u83_14, u83_15, u83_18, u83_21, u83_23, c_isIn, d1, zb_t, Option.toList_some, Option.toList_none, List.cons_append, List.nil_append, zRef_some, true_and, and_true, true_or, or_true, i10, i01, not_false_eq_true, if_true, z1o, z1r.2.2.2.2.2.2.2.2.1, z88.1, ht.1]
      rw [show (80 : Int32) = nI 80 from rfl]
      simp only [nI_ltI (show t.length < 2 ^ 31 by have := ht.2.1; omega) (show 80 < 2 ^ 31 by omega)]
    by_cases g2 : 80 ≤ t.length
    · rw [if_pos g2]
      refine ⟨iv, p, R, FC.rf, fun Q hQ => ?_⟩
      rw [head, if_neg (by omega)]
      simp only [u83_26, u83_28]
      exact hQ
    · rw [if_neg g2, tn_nI (by omega)]
      obtain ⟨iv2, q1, q2, q3⟩ := c_append (sc := sc) (p := p) ht (by omega) hk1 hk2
      have e1 := q1.1
      rw [List.length_append, List.length_singleton] at e1
      refine ⟨iv2, p, ⟨R.1.keep (fun c _ _ => q2 c (by omega)), R.2.1, R.2.2.1.keep (fun c _ _ => q2 c (by omega)), R.2.2.2.1, q1⟩, fun c hc => q2 c (by omega), fun Q hQ => ?_⟩
      rw [head, if_pos (by omega)]
      simp only [u83_29, u83_30, u83_33, u83_34, z1o, z1r.2.2.2.2.2.2.2.2.1, zRef_some, z88.1]
      refine q3 _ ?_
      simp only [u83_37, u83_38, u83_41, u83_44, Option.toList_some, Option.toList_none, List.cons_append, List.nil_append, zRef_some, true_and, and_true, true_or, or_true, i10, i01, z1o, z1r.2.2.2.2.2.2.2.2.1, z88.1, e1]
      exact hQ
  · rw [if_neg g1]
    refine ⟨iv, p, R, FC.rf, fun Q hQ => ?_⟩
    simp only [u83_0, u83_1, u83_3, u83_5, u83_8, u83_11, u83_13, c_isIn, decide_eq_false g1, zb_f, Option.toList_some, Option.toList_none, List.cons_append, List.nil_append, zRef_some, true_and, and_true, true_or, or_true, i10, i01, not_true_eq_false, if_false]
    exact hQ
theorem k_clear {v : Value} (R : RC iv p cs hs t) : OKc sc 84 [.ref 1, v] p iv (nI t.length) cs hs [] := by
  have ht := R.2.2.2.2
  refine ⟨w2 iv 88 0 0, p, ⟨R.1.keep (fun c _ _ => w2_c (by omega)), R.2.1, R.2.2.1.keep (fun c _ _ => w2_c (by omega)), R.2.2.2.1, ⟨w2_eq, Nat.zero_le _, fun k hk => absurd hk (Nat.not_lt_zero _)⟩⟩, fun c hc => w2_c (by omega), fun Q hQ => ?_⟩
  simp only [u84_0, u84_1, u84_4, u84_7, u84_8, u84_9, u84_12, u84_15, u84_16, c_clear, Option.toList_some, Option.toList_none, List.cons_append, List.nil_append, zRef_some, true_and, and_true, true_or, or_true, i10, i01, z1o, z1r.2.2.2.2.2.2.2.2.1, z88.1, ht.1]
  exact hQ
theorem k_undo (R : RC iv p cs hs t) : OKc sc 82 [.ref 1] p iv (sUndo cs hs).1 (sUndo cs hs).2.1 (sUndo cs hs).2.2 t := by
  have hH := R.2.2.1
  unfold sUndo
  rcases List.eq_nil_or_concat hs with e | ⟨hs', d, e⟩
  · subst e
    refine ⟨iv, p, R, FC.rf, fun Q hQ => ?_⟩
    have e1 : iv 26 0 = 0 := hH.2.1
    simp only [u82_0, u82_1, u82_4, u82_7, u82_10, u82_12, u82_13, u82_14, u82_17, u82_18, u82_21, u82_24, u82_25, u82_28, u82_31, Option.toList_some, Option.toList_none, List.cons_append, List.nil_append, zRef_some, true_and, and_true, true_or, or_true, i10, i01, z1o, z1r.2.2.1, z26.1, e1, not_true_eq_false, if_false]
    exact hQ
  · rw [List.concat_eq_append] at e
    subst e
    rw [List.getLast?_concat, List.dropLast_concat]
    have e1 : iv 26 0 = nI (hs'.length + 1) := by rw [hH.2.1, List.length_append, List.length_singleton]
    have hl := hH.1
    rw [List.length_append, List.length_singleton] at hl
    obtain ⟨iv2, q1, q2, q3, q4⟩ := c_restore (sc := sc) hH
    have e2 : iv2 26 0 = nI hs'.length := q2.2.1
    have hall := R.2.2.2.1
    have w1 : RC iv2 p d hs' t := ⟨q1, hall d (by simp), q2, fun c hc => hall c (by simp [hc]), R.2.2.2.2.keep (fun c _ _ => q3 c (by omega) (by omega))⟩
    refine ⟨iv2, p, w1, fun c hc => q3 c (by omega) (by omega), fun Q hQ => ?_⟩
    have hQ : Q (some (.int (nI ((hs' ++ [d]).length - 1)))) (zst p iv2) := hQ
    rw [List.length_append, List.length_singleton, Nat.add_sub_cancel] at hQ
    simp only [u82_0, u82_1, u82_4, u82_7, u82_10, u82_12, u82_13, u82_14, u82_17, u82_18, u82_21, u82_24, u82_25, u82_28, u82_31, Option.toList_some, Option.toList_none, List.cons_append, List.nil_append, zRef_some, true_and, and_true, true_or, or_true, i10, i01, z1o, z1r.1, z1r.2.2.1, z26.1, e1, nI_ne0 (show 0 < hs'.length + 1 by omega) (show hs'.length + 1 < 2 ^ 31 by omega), not_false_eq_true, if_true, q4, e2]
    exact hQ
end ZC4
