/-! ===== FieldMixtures: what the calls of the face come to, part 2 ===== -/
theorem alwI_of {c : CS} {q : Nat} {x : Int32} (ho : cOk c) (hq : q < 2) (h : alwI (cN c) (cB c q) (cR c q) x = true) : ∃ j, j < 9000 ∧ x = nI j ∧ alw (cN c) (cB c q) j (cR c q) = true := by
  unfold alwI at h
  rw [Bool.and_eq_true] at h
  have h0 := of_decide_eq_true h.1
  have hx : ¬ x < 0 := by
    rw [Int32.lt_iff_toInt_lt]
    rw [Int32.le_iff_toInt_le] at h0
    omega
  obtain ⟨j, hj, rfl⟩ := nI_of hx
  have h1 := h.2
  rw [nI_clamp hj] at h1
  exact ⟨j, als_lt ho.1 ho.2.1 (ho.2.2.2.2 q hq).1 h1, rfl, h1⟩
def alL (c : CS) (q : Nat) : List Nat := als (cN c) (cB c q) (cR c q)
theorem alL_at {c : CS} {q k : Nat} (h : k < (alL c q).length) : (alL c q).getD k 0 < 9000 ∧ alw (cN c) (cB c q) ((alL c q).getD k 0) (cR c q) = true := als_at h
theorem alL_len {c : CS} {q : Nat} (ho : cOk c) (hq : q < 2) : (alL c q).length ≤ 165 := als_len ho.1 ho.2.1 (ho.2.2.2.2 q hq).1
theorem gn_abs {c : CS} (ho : cOk c) (q y z : Nat) : (gn (cT c) q (cV c) (cN c) y z).natAbs ≤ 36 := by
  rw [gn_sum]
  have h := isum_abs (n := cN c) (g := fun f => (cV c f : Int) * oc (cT c) q (dg (cN c) y f) (dg (cN c) z f)) (B := 9) (fun k hk => by
    have h1 := oc_abs (cT c) q (dg (cN c) y k) (dg (cN c) z k)
    have h2 := ho.2.2.2.1 k (by have := ho.2.1; omega)
    have := mulAbs (a := (cV c k : Int)) (A := 9) (B := 1) (by omega) h1
    omega)
  have := ho.2.1
  have : cN c * 9 ≤ 4 * 9 := Nat.mul_le_mul_right _ this
  omega
theorem drop_getD {L : List Nat} {i : Nat} (h : i < L.length) : L.drop i = L.getD i 0 :: L.drop (i + 1) := by
  rw [List.drop_eq_getElem_cons h, List.getD_eq_getElem?_getD, List.getElem?_eq_getElem h]
  rfl
/-- whether one gains more against some and less against none -/
def betG (d : Nat → Int) : List Nat → Bool → Bool
  | [], g => g
  | o :: L, g => if d o < 0 then false else betG d L (g || decide (0 < d o))
def bet (c : CS) (q y x : Nat) : Bool := betG (fun o => gn (cT c) q (cV c) (cN c) y o - gn (cT c) q (cV c) (cN c) x o) (alL c (1 - q)) false
def sAlloc (c : CS) (x y : Int32) : Int32 := if isQ x ∧ -1 ≤ y then (if y = -1 then nI (alL c (tn x)).length else if y < nI (alL c (tn x)).length then nI ((alL c (tn x)).getD (tn y) 0) else eNF) else eIA
def isA (c : CS) (q : Nat) (x : Int32) : Bool := alwI (cN c) (cB c q) (cR c q) x
def sGains (c : CS) (x y : Int32) : Int32 := if isA c 0 x = true ∧ isA c 1 y = true then 1000 + iI (gn (cT c) 0 (cV c) (cN c) (tn x) (tn y)) else eIA
def opN (o : Option Nat) : Int32 := match o with
  | some z => nI z
  | none => eNF
def sBetter (c : CS) (x y : Int32) : Int32 := if isQ x ∧ isA c (tn x) y = true then opN ((alL c (tn x)).find? (fun z => bet c (tn x) z (tn y))) else eIA
def sPut (c : CS) (x y w : Int32) : Int32 × Option CS := if isQ x ∧ isA c (tn x) y = true ∧ 1 ≤ w ∧ w ≤ 99 then (if (cM c (tn x)).length < 12 ∨ mIn (cM c (tn x)) (tn y) = true then (nI (mOf (cM c (tn x)) (tn y)), some (setM c (tn x) (mSet (cM c (tn x)) (tn y) (tn w)))) else (eLR, none)) else (eIA, none)
def sTake (c : CS) (x y : Int32) : Int32 × Option CS := if isQ x ∧ isA c (tn x) y = true then (if mOf (cM c (tn x)) (tn y) = 0 then (eNP, none) else (nI (mOf (cM c (tn x)) (tn y)), some (setM c (tn x) ((cM c (tn x)).eraseIdx (mPl (cM c (tn x)) (tn y)))))) else (eIA, none)
theorem setM_del {c : CS} {q i : Nat} (ho : cOk c) (hi : i < (cM c q).length) : cOk (setM c q ((cM c q).eraseIdx i)) := by
  refine ⟨ho.1, ho.2.1, ho.2.2.1, ho.2.2.2.1, fun z hz => ⟨(ho.2.2.2.2 z hz).1, (ho.2.2.2.2 z hz).2.1, fun k hk => ?_⟩⟩
  show alw (cN c) (cB c z) (mA (if z = q then (cM c q).eraseIdx i else cM c z) k) (cR c z) = true
  have hk : k < (if z = q then (cM c q).eraseIdx i else cM c z).length := hk
  by_cases e : z = q
  · subst e
    rw [if_pos rfl] at hk ⊢
    obtain ⟨e1, e2⟩ := mDel_at hi
    rw [e1] at hk
    rw [(e2 k).1]
    split
    · exact (ho.2.2.2.2 z hz).2.2 k (by omega)
    · exact (ho.2.2.2.2 z hz).2.2 (k + 1) (by omega)
  · rw [if_neg e] at hk ⊢
    exact (ho.2.2.2.2 z hz).2.2 k hk
section ZC2
variable {sc : Nat × (Nat → Int32)} {Q : Option Value → zA → Prop} {h : zA} {p : Nat → Option Nat} {iv : Nat → Nat → Int32} {cs : CS} {hs : List CS} {t : List Nat} {x y z : Int32} {q : Nat}
theorem m1_le {y : Int32} : (-1 ≤ y ∧ ¬ y = -1) ↔ 0 ≤ y := by
  rw [Int32.le_iff_toInt_le, Int32.le_iff_toInt_le, ← Int32.toInt_inj]
  show (-1 ≤ y.toInt ∧ ¬ y.toInt = -1) ↔ 0 ≤ y.toInt
  omega
theorem k_alloc {v : Value} (R : RC iv p cs hs t) : OKc sc 63 [.ref 1, .int x, .int y, v] p iv (sAlloc cs x y) cs hs t := by
  unfold sAlloc
  by_cases g1 : isQ x
  · have d1 := decide_eq_true g1
    by_cases g2 : -1 ≤ y
    · rw [if_pos ⟨g1, g2⟩]
      obtain ⟨q, hq, rfl⟩ := isQ_nI g1
      rw [tn_nI (by omega)]
      obtain ⟨iv2, q1, q2, q3⟩ := c_freshList (sc := sc) (p := p) (v := .null) R.1 R.2.1 hq
      have hA := aL_b q
      have hl := alL_len R.2.1 hq
      have w1 : RC iv2 p cs hs t := R.keep (fun c hc => q2 c (by omega) (by omega))
      have w2 : FC iv2 iv := fun c hc => q2 c (by omega) (by omega)
      refine ⟨iv2, p, w1, w2, fun Q hQ => ?_⟩
      have q1 : isAL iv2 (aL q) (alL cs q) := q1
      revert q1 hl hQ
      generalize alL cs q = L
      intro hl hQ q1
      have e0 : iv2 (aL q) 0 = nI L.length := q1.1
      have zq := zAl_q (q := q)
      rw [show zEv sc 63 0 [.ref 1, .int (nI q), .int y, v] [] (zst p iv) Q ↔ zEv sc 62 0 [.ref 1, .int (nI q), .null] [] (zst p iv) (fun r h9 => zEv sc 63 20 [.ref 1, .int (nI q), .int y, v] (r.toList ++ []) h9 Q) by
        simp only [u63_0, u63_1, u63_4, u63_7, u63_8, u63_9, u63_15, u63_16, u63_17, u63_12, u63_14, c_isPlayer, d1, zb_t, Option.toList_some, Option.toList_none, List.cons_append, List.nil_append, zRef_some, true_and, and_true, true_or, or_true, i10, i01, if_false, if_pos g2, z1o]]
      refine q3 _ ?_
      simp only [u63_20, u63_21, u63_22, u63_23, Option.toList_some, Option.toList_none, List.cons_append, List.nil_append, zRef_some, true_and, and_true, true_or, or_true, i10, i01]
      by_cases g3 : y = -1
      · rw [if_neg (fun z => z g3)]
        rw [if_pos g3] at hQ
        simp only [u63_26, u63_27, u63_30, zq.1, e0]
        exact hQ
      · rw [if_pos g3]
        rw [if_neg g3] at hQ
        have g4 := m1_le.mp ⟨g2, g3⟩
        have hx : ¬ y < 0 := by
          rw [Int32.lt_iff_toInt_lt]
          rw [Int32.le_iff_toInt_le] at g4
          omega
        obtain ⟨k, hk, rfl⟩ := nI_of hx
        rw [tn_nI hk] at hQ
        have g6 : nI k < nI L.length ↔ k < L.length := nI_ltI hk (by omega)
        simp only [u63_31, u63_32, u63_33, u63_36, zq.1, e0, nI_leI (show L.length < 2 ^ 31 by omega) hk]
        by_cases g5 : k < L.length
        · rw [if_neg (by omega)]
          rw [if_pos (g6.mpr g5)] at hQ
          have e1 : iv2 (aL q + 1) k = nI (L.getD k 0) := q1.2.2 k g5
          simp only [u63_39, u63_40, u63_43, u63_44, u63_45, u63_50, u63_48, zq.1, zq.2.1, zq.2.2.1, zq.2.2.2, zRef_some, nI_clamp hk, vp_in_nI (show k < 165 by omega) (by omega), true_and, e1]
          exact hQ
        · rw [if_pos (by omega)]
          rw [if_neg (fun z => g5 (g6.mp z))] at hQ
          simp only [u63_50, u63_48]
          exact hQ
    · rw [if_neg (fun z => g2 z.2)]
      refine ⟨iv, p, R, FC.rf, fun Q hQ => ?_⟩
      simp only [u63_0, u63_1, u63_4, u63_7, u63_8, u63_9, u63_15, u63_16, u63_17, u63_20, u63_21, u63_22, u63_23, u63_26, u63_27, u63_30, u63_31, u63_32, u63_33, u63_36, u63_39, u63_40, u63_43, u63_44, u63_45, u63_50, u63_48, u63_12, u63_14, c_isPlayer, d1, if_neg g2, zb_t, Option.toList_some, Option.toList_none, List.cons_append, List.nil_append, zRef_some, true_and, and_true, true_or, or_true, i10, i01, if_false]
      exact hQ
  · rw [if_neg (fun z => g1 z.1)]
    refine ⟨iv, p, R, FC.rf, fun Q hQ => ?_⟩
    simp only [u63_0, u63_1, u63_4, u63_7, u63_8, u63_9, u63_15, u63_16, u63_17, u63_20, u63_21, u63_22, u63_23, u63_26, u63_27, u63_30, u63_31, u63_32, u63_33, u63_36, u63_39, u63_40, u63_43, u63_44, u63_45, u63_50, u63_48, u63_12, u63_14, c_isPlayer, decide_eq_false g1, zb_f, Option.toList_some, Option.toList_none, List.cons_append, List.nil_append, zRef_some, true_and, and_true, true_or, or_true, i10, i01, if_true]
    exact hQ
theorem allows_0 (R : RC iv p cs hs t) : zEv sc 17 0 [.ref 2, .int 0, .int x] [] (zst p iv) Q ↔ Q (some (.int (zb (isA cs 0 x)))) (zst p iv) := c_allowsC (v := .null) (q := 0) zCt_2 R.1 R.2.1 (by omega)
theorem allows_1 (R : RC iv p cs hs t) : zEv sc 17 0 [.ref 2, .int 1, .int x] [] (zst p iv) Q ↔ Q (some (.int (zb (isA cs 1 x)))) (zst p iv) := c_allowsC (v := .null) (q := 1) zCt_2 R.1 R.2.1 (by omega)
theorem allows_q (R : RC iv p cs hs t) (hq : q < 2) : zEv sc 17 0 [.ref 2, .int (nI q), .int x] [] (zst p iv) Q ↔ Q (some (.int (zb (isA cs q x)))) (zst p iv) := c_allowsC (v := .null) (q := q) zCt_2 R.1 R.2.1 hq
theorem k_gains {v : Value} (R : RC iv p cs hs t) : OKc sc 64 [.ref 1, .int x, .int y] p iv (sGains cs x y) cs hs t := by
  unfold sGains
  refine ⟨iv, p, R, FC.rf, fun Q hQ => ?_⟩
  by_cases g1 : isA cs 0 x = true
  · by_cases g2 : isA cs 1 y = true
    · rw [if_pos ⟨g1, g2⟩] at hQ
      obtain ⟨a, ha, rfl, -⟩ := alwI_of R.2.1 (show 0 < 2 by omega) g1
      obtain ⟨b, hb, rfl, -⟩ := alwI_of R.2.1 (show 1 < 2 by omega) g2
      rw [tn_nI (by omega), tn_nI (by omega)] at hQ
      have hg := fun Q => c_gainOf (sc := sc) (p := p) (Q := Q) (q := 0) (v1 := .null) (v2 := .null) (v3 := .null) (v4 := .null) zCt_2 R.1 R.2.1 (by omega) (show a < 10000 by omega) (show b < 10000 by omega)
      rw [nI_0] at hg
      simp only [u64_0, u64_1, u64_4, u64_5, u64_6, u64_9, u64_12, u64_13, u64_16, u64_17, u64_18, u64_21, u64_27, u64_30, u64_31, u64_34, u64_35, u64_36, u64_37, u64_40, u64_41, u64_24, u64_26, z1o, z1r.1, zCt_2.1, allows_0 R, allows_1 R, g1, g2, zb_t, Option.toList_some, Option.toList_none, List.cons_append, List.nil_append, zRef_some, true_and, and_true, true_or, or_true, i10, i01, not_false_eq_true, if_true, if_false, hg]
      exact hQ
    · rw [if_neg (fun z => g2 z.2)] at hQ
      rw [Bool.not_eq_true] at g2
      simp only [u64_0, u64_1, u64_4, u64_5, u64_6, u64_9, u64_12, u64_13, u64_16, u64_17, u64_18, u64_21, u64_27, u64_30, u64_31, u64_34, u64_35, u64_36, u64_37, u64_40, u64_41, u64_24, u64_26, z1o, z1r.1, zCt_2.1, allows_0 R, allows_1 R, g1, g2, zb_t, zb_f, Option.toList_some, Option.toList_none, List.cons_append, List.nil_append, zRef_some, true_and, and_true, true_or, or_true, i10, i01, not_true_eq_false, if_false]
      exact hQ
  · rw [if_neg (fun z => g1 z.1)] at hQ
    rw [Bool.not_eq_true] at g1
    simp only [u64_0, u64_1, u64_4, u64_5, u64_6, u64_9, u64_12, u64_13, u64_16, u64_17, u64_18, u64_21, u64_27, u64_30, u64_31, u64_34, u64_35, u64_36, u64_37, u64_40, u64_41, u64_24, u64_26, z1o, z1r.1, zCt_2.1, allows_0 R, g1, zb_f, Option.toList_some, Option.toList_none, List.cons_append, List.nil_append, zRef_some, true_and, and_true, true_or, or_true, i10, i01, if_true]
    exact hQ
theorem put_end {iv1 iv2 : Nat → Nat → Int32} {p1 : Nat → Option Nat} {l : List (Nat × Nat)} (R : RC iv p cs hs t) (q1 : isH iv1 p1 (hRec hs cs)) (q2 : ∀ c, c < 26 ∨ 76 ≤ c → iv1 c = iv c) (hq : q < 2) (s1 : isMix iv2 (sB 2 q + 2) l) (s2 : ∀ c, c < sB 2 q + 2 ∨ sB 2 q + 5 ≤ c → iv2 c = iv1 c) (ho : cOk (setM cs q l)) : RC iv2 p1 (setM cs q l) (hRec hs cs) t ∧ FC iv2 iv := by
  have hsb : 4 ≤ sB 2 q ∧ sB 2 q + 5 ≤ 14 := by unfold sB; split <;> omega
  have hc1 : isCt iv1 2 cs := R.1.keep (fun c _ _ => q2 c (by omega))
  exact R.rec q1 q2 (setM_ct hc1 hq s1 (fun c _ _ h => s2 c h)) ho (fun c hc => s2 c (by omega))
theorem k_put {v4 v5 : Value} (R : RC iv p cs hs t) : OKc sc 67 [.ref 1, .int x, .int y, .int z, v4, v5] p iv (sPut cs x y z).1 (nC cs (sPut cs x y z)) (nH cs hs (sPut cs x y z)) t := by
  unfold sPut
  by_cases g1 : isQ x
  · have d1 := decide_eq_true g1
    obtain ⟨q, hq, rfl⟩ := isQ_nI g1
    rw [tn_nI (by omega)]
    by_cases g2 : isA cs q y = true
    · obtain ⟨a, ha, rfl, hal⟩ := alwI_of R.2.1 hq g2
      rw [tn_nI (by omega)]
      by_cases g3 : 1 ≤ z ∧ z ≤ 99
      · have d3 := decide_eq_true g3
        rw [if_pos ⟨g1, g2, g3⟩]
        obtain ⟨w, hw1, hw9, rfl⟩ := in_nI2 (l := 1) (k := 99) (by omega) (by omega) g3.1 g3.2
        rw [tn_nI (by omega)]
        have hS := R.1.sd hq
        have hz := zCt_2.sd (q := q)
        have hm := hz.2.2.2.2.2
        have head : ∀ Q, zEv sc 67 0 [.ref 1, .int (nI q), .int (nI a), .int (nI w), v4, v5] [] (zst p iv) Q ↔ (if ¬ zb (decide ((cM cs q).length < 12 ∨ mIn (cM cs q) a = true)) = 0 then zEv sc 67 57 [.ref 1, .int (nI q), .int (nI a), .int (nI w), .ref (sB 2 q + 2), v5] [] (zst p iv) Q else zEv sc 67 54 [.ref 1, .int (nI q), .int (nI a), .int (nI w), .ref (sB 2 q + 2), v5] [] (zst p iv) Q) := by
          intro Q
          simp only [u67_0, u67_1, u67_4, u67_7, u67_8, u67_11, u67_12, u67_13, u67_16, u67_19, u67_20, u67_21, u67_23, u67_26, u67_32, u67_33, u67_36, u67_37, u67_40, u67_43, u67_45, u67_47, u67_48, u67_51, u67_29, u67_31, c_isPlayer, c_isIn, d1, d3, allows_q R hq, g2, zb_t, Option.toList_some, Option.toList_none, List.cons_append, List.nil_append, zRef_some, true_and, and_true, true_or, or_true, i10, i01, not_false_eq_true, if_true, if_false, z1o, z1r.1, zCt_2.1, c_side zCt_2 hq, hz.1, hz.2.2.2.2.1, hm.1, c_hasRoomFor hm hS.2.2 (show a < 10000 by omega)]
        by_cases g4 : (cM cs q).length < 12 ∨ mIn (cM cs q) a = true
        · rw [if_pos g4]
          obtain ⟨iv1, p1, q1, q2, q3⟩ := c_record (sc := sc) (v := .null) R.1 R.2.2.1
          have hsb : 4 ≤ sB 2 q ∧ sB 2 q + 5 ≤ 14 := by unfold sB; split <;> omega
          have hm1 : isMix iv1 (sB 2 q + 2) (cM cs q) := hS.2.2.keep (fun c _ _ => q2 c (by omega))
          obtain ⟨iv2, r1, r2, r3⟩ := c_setWeight (sc := sc) (p := p1) (w := w) hm hm1 (show a < 10000 by omega) g4 (by omega) (by omega)
          obtain ⟨w1, w3⟩ := put_end R q1 q2 hq r1 (fun c hc => r2 c (by omega)) (setM_alw R.2.1 hq hS.2.2.1 (by omega) hal)
          refine ⟨iv2, p1, w1, w3, fun Q hQ => ?_⟩
          rw [head, decide_eq_true g4, zb_t, if_pos (by decide)]
          simp only [u67_57, u67_59, u67_60, u67_63, u67_65, u67_66, u67_69, u67_70, u67_73, z1o, z1r.1, z1r.2.2.1, hm.1, z26.1, c_weightOf hm hS.2.2 (show a < 10000 by omega), Option.toList_some, Option.toList_none, List.cons_append, List.nil_append, zRef_some, true_and, and_true, true_or, or_true, i10, i01]
          refine q3 _ ?_
          simp only [u67_76, u67_78, u67_79, u67_80, u67_83, u67_85, hm.1, r3, Option.toList_some, Option.toList_none, List.cons_append, List.nil_append, zRef_some, true_and, and_true, true_or, or_true, i10, i01]
          exact hQ
        · rw [if_neg g4]
          refine ⟨iv, p, R, FC.rf, fun Q hQ => ?_⟩
          rw [head, decide_eq_false g4, zb_f, if_neg (by decide)]
          simp only [u67_54, u67_56]
          exact hQ
      · rw [if_neg (fun z => g3 z.2.2)]
        refine ⟨iv, p, R, FC.rf, fun Q hQ => ?_⟩
        simp only [u67_0, u67_1, u67_4, u67_7, u67_8, u67_11, u67_12, u67_13, u67_16, u67_19, u67_20, u67_21, u67_23, u67_26, u67_32, u67_33, u67_36, u67_37, u67_40, u67_43, u67_45, u67_47, u67_48, u67_51, u67_54, u67_56, u67_57, u67_59, u67_60, u67_63, u67_65, u67_66, u67_69, u67_70, u67_73, u67_76, u67_78, u67_79, u67_80, u67_83, u67_85, u67_29, u67_31, c_isPlayer, c_isIn, d1, decide_eq_false g3, allows_q R hq, g2, zb_t, zb_f, Option.toList_some, Option.toList_none, List.cons_append, List.nil_append, zRef_some, true_and, and_true, true_or, or_true, i10, i01, not_true_eq_false, if_false, z1o, z1r.1, zCt_2.1]
        exact hQ
    · rw [if_neg (fun z => g2 z.2.1)]
      rw [Bool.not_eq_true] at g2
      refine ⟨iv, p, R, FC.rf, fun Q hQ => ?_⟩
      simp only [u67_0, u67_1, u67_4, u67_7, u67_8, u67_11, u67_12, u67_13, u67_16, u67_19, u67_20, u67_21, u67_23, u67_26, u67_32, u67_33, u67_36, u67_37, u67_40, u67_43, u67_45, u67_47, u67_48, u67_51, u67_54, u67_56, u67_57, u67_59, u67_60, u67_63, u67_65, u67_66, u67_69, u67_70, u67_73, u67_76, u67_78, u67_79, u67_80, u67_83, u67_85, u67_29, u67_31, c_isPlayer, d1, allows_q R hq, g2, zb_t, zb_f, Option.toList_some, Option.toList_none, List.cons_append, List.nil_append, zRef_some, true_and, and_true, true_or, or_true, i10, i01, if_true, if_false, z1o, z1r.1, zCt_2.1]
      exact hQ
  · rw [if_neg (fun z => g1 z.1)]
    refine ⟨iv, p, R, FC.rf, fun Q hQ => ?_⟩
    simp only [u67_0, u67_1, u67_4, u67_7, u67_8, u67_11, u67_12, u67_13, u67_16, u67_19, u67_20, u67_21, u67_23, u67_26, u67_32, u67_33, u67_36, u67_37, u67_40, u67_43, u67_45, u67_47, u67_48, u67_51, u67_54, u67_56, u67_57, u67_59, u67_60, u67_63, u67_65, u67_66, u67_69, u67_70, u67_73, u67_76, u67_78, u67_79, u67_80, u67_83, u67_85, u67_29, u67_31, c_isPlayer, decide_eq_false g1, zb_f, Option.toList_some, Option.toList_none, List.cons_append, List.nil_append, zRef_some, true_and, and_true, true_or, or_true, i10, i01, if_true]
    exact hQ
theorem k_take {v3 v4 : Value} (R : RC iv p cs hs t) : OKc sc 68 [.ref 1, .int x, .int y, v3, v4] p iv (sTake cs x y).1 (nC cs (sTake cs x y)) (nH cs hs (sTake cs x y)) t := by
  unfold sTake
  by_cases g1 : isQ x
  · have d1 := decide_eq_true g1
    obtain ⟨q, hq, rfl⟩ := isQ_nI g1
    rw [tn_nI (by omega)]
    by_cases g2 : isA cs q y = true
    · obtain ⟨a, ha, rfl, hal⟩ := alwI_of R.2.1 hq g2
      rw [tn_nI (by omega), if_pos ⟨g1, g2⟩]
      have hS := R.1.sd hq
      have hz := zCt_2.sd (q := q)
      have hm := hz.2.2.2.2.2
      have hw := mOf_ok (x := a) hS.2.2.1
      have head : ∀ Q, zEv sc 68 0 [.ref 1, .int (nI q), .int (nI a), v3, v4] [] (zst p iv) Q ↔ (if ¬ nI (mOf (cM cs q) a) = 0 then zEv sc 68 49 [.ref 1, .int (nI q), .int (nI a), .ref (sB 2 q + 2), .int (nI (mOf (cM cs q) a))] [] (zst p iv) Q else zEv sc 68 46 [.ref 1, .int (nI q), .int (nI a), .ref (sB 2 q + 2), .int (nI (mOf (cM cs q) a))] [] (zst p iv) Q) := by
        intro Q
        simp only [u68_0, u68_1, u68_4, u68_7, u68_8, u68_11, u68_12, u68_13, u68_16, u68_22, u68_23, u68_26, u68_27, u68_30, u68_33, u68_34, u68_35, u68_36, u68_39, u68_41, u68_43, u68_19, u68_21, c_isPlayer, d1, allows_q R hq, g2, zb_t, Option.toList_some, Option.toList_none, List.cons_append, List.nil_append, zRef_some, true_and, and_true, true_or, or_true, i10, i01, not_false_eq_true, if_true, if_false, z1o, z1r.1, zCt_2.1, c_side zCt_2 hq, hz.1, hz.2.2.2.2.1, hm.1, c_weightOf hm hS.2.2 (show a < 10000 by omega)]
      by_cases g4 : mOf (cM cs q) a = 0
      · rw [if_pos g4]
        refine ⟨iv, p, R, FC.rf, fun Q hQ => ?_⟩
        rw [head, g4, if_neg (show ¬ ¬ nI 0 = 0 from fun z => z rfl)]
        simp only [u68_46, u68_48]
        exact hQ
      · rw [if_neg g4]
        have hi := hw.2.mp (by omega)
        obtain ⟨iv1, p1, q1, q2, q3⟩ := c_record (sc := sc) (v := .null) R.1 R.2.2.1
        have hsb : 4 ≤ sB 2 q ∧ sB 2 q + 5 ≤ 14 := by unfold sB; split <;> omega
        have hm1 : isMix iv1 (sB 2 q + 2) (cM cs q) := hS.2.2.keep (fun c _ _ => q2 c (by omega))
        obtain ⟨iv2, r1, r2, r3⟩ := c_remove (sc := sc) (p := p1) hm hm1 (show a < 10000 by omega) hi
        obtain ⟨w1, w3⟩ := put_end R q1 q2 hq r1 (fun c hc => r2 c (by omega)) (setM_del R.2.1 (mIn_iff.mp hi).1)
        refine ⟨iv2, p1, w1, w3, fun Q hQ => ?_⟩
        rw [head, if_pos (nI_ne0 (by omega) (by omega))]
        simp only [u68_49, u68_50, u68_53, u68_54, u68_57, z1o, z1r.1, z1r.2.2.1, z26.1, Option.toList_some, Option.toList_none, List.cons_append, List.nil_append, zRef_some, true_and, and_true, true_or, or_true, i10, i01]
        refine q3 _ ?_
        simp only [u68_60, u68_61, u68_62, u68_65, u68_67, hm.1, r3, Option.toList_some, Option.toList_none, List.cons_append, List.nil_append, zRef_some, true_and, and_true, true_or, or_true, i10, i01]
        exact hQ
    · rw [if_neg (fun z => g2 z.2)]
      rw [Bool.not_eq_true] at g2
      refine ⟨iv, p, R, FC.rf, fun Q hQ => ?_⟩
      simp only [u68_0, u68_1, u68_4, u68_7, u68_8, u68_11, u68_12, u68_13, u68_16, u68_22, u68_23, u68_26, u68_27, u68_30, u68_33, u68_34, u68_35, u68_36, u68_39, u68_41, u68_43, u68_46, u68_48, u68_49, u68_50, u68_53, u68_54, u68_57, u68_60, u68_61, u68_62, u68_65, u68_67, u68_19, u68_21, c_isPlayer, d1, allows_q R hq, g2, zb_t, zb_f, Option.toList_some, Option.toList_none, List.cons_append, List.nil_append, zRef_some, true_and, and_true, true_or, or_true, i10, i01, not_true_eq_false, if_true, if_false, z1o, z1r.1, zCt_2.1]
      exact hQ
  · rw [if_neg (fun z => g1 z.1)]
    refine ⟨iv, p, R, FC.rf, fun Q hQ => ?_⟩
    simp only [u68_0, u68_1, u68_4, u68_7, u68_8, u68_11, u68_12, u68_13, u68_16, u68_22, u68_23, u68_26, u68_27, u68_30, u68_33, u68_34, u68_35, u68_36, u68_39, u68_41, u68_43, u68_46, u68_48, u68_49, u68_50, u68_53, u68_54, u68_57, u68_60, u68_61, u68_62, u68_65, u68_67, u68_19, u68_21, c_isPlayer, decide_eq_false g1, zb_f, Option.toList_some, Option.toList_none, List.cons_append, List.nil_append, zRef_some, true_and, and_true, true_or, or_true, i10, i01, if_true]
    exact hQ
end ZC2
