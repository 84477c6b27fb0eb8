/-! ===== FieldMixtures: what the calls of the face come to, part 2 ===== -/
theorem alwI_of {c : CS} {q : Nat} {x : Int32} (ho : cOk c) (hq : q < 2) (h : alwI (cN c) (cB c q) (cR c q) x = true) : ∃ j, j < 9000 ∧ x = nI j ∧ alw (cN c) (cB c q) j (cR c q) = true := by
  unfold alwI at h
  rw [Bool.and_eq_true] at h
  have h0 := of_decide_eq_true h.1
  have hx : ¬ x < 0 := by
    rw [Int32.lt_iff_toInt_lt]
    rw [Int32.le_iff_toInt_le] at h0
    omega
  obtain ⟨j, hj, rfl⟩ := nI_of hx
  have h1 := h.2
  rw [nI_clamp hj] at h1
  exact ⟨j, als_lt ho.1 ho.2.1 (ho.2.2.2.2 q hq).1 h1, rfl, h1⟩
def alL (c : CS) (q : Nat) : List Nat := als (cN c) (cB c q) (cR c q)
theorem alL_at {c : CS} {q k : Nat} (h : k < (alL c q).length) : (alL c q).getD k 0 < 9000 ∧ alw (cN c) (cB c q) ((alL c q).getD k 0) (cR c q) = true := als_at h
theorem alL_len {c : CS} {q : Nat} (ho : cOk c) (hq : q < 2) : (alL c q).length ≤ 165 := als_len ho.1 ho.2.1 (ho.2.2.2.2 q hq).1
theorem gn_abs {c : CS} (ho : cOk c) (q y z : Nat) : (gn (cT c) q (cV c) (cN c) y z).natAbs ≤ 36 := by
  rw [gn_sum]
  have h := isum_abs (n := cN c) (g := fun f => (cV c f : Int) * oc (cT c) q (dg (cN c) y f) (dg (cN c) z f)) (B := 9) (fun k hk => by
    have h1 := oc_abs (cT c) q (dg (cN c) y k) (dg (cN c) z k)
    have h2 := ho.2.2.2.1 k (by have := ho.2.1; omega)
    have := mulAbs (a := (cV c k : Int)) (A := 9) (B := 1) (by omega) h1
    omega)
  have := ho.2.1
  have : cN c * 9 ≤ 4 * 9 := Nat.mul_le_mul_right _ this
  omega
theorem drop_getD {L : List Nat} {i : Nat} (h : i < L.length) : L.drop i = L.getD i 0 :: L.drop (i + 1) := by
  rw [List.drop_eq_getElem_cons h, List.getD_eq_getElem?_getD, List.getElem?_eq_getElem h]
  rfl
/-- whether one gains more against some and less against none -/
def betG (d : Nat → Int) : List Nat → Bool → Bool
  | [], g => g
  | o :: L, g => if d o < 0 then false else betG d L (g || decide (0 < d o))
def bet (c : CS) (q y x : Nat) : Bool := betG (fun o => gn (cT c) q (cV c) (cN c) y o - gn (cT c) q (cV c) (cN c) x o) (alL c (1 - q)) false
def sAlloc (c : CS) (x y : Int32) : Int32 := if isQ x ∧ -1 ≤ y then (if y = -1 then nI (alL c (tn x)).length else if y < nI (alL c (tn x)).length then nI ((alL c (tn x)).getD (tn y) 0) else eNF) else eIA
def isA (c : CS) (q : Nat) (x : Int32) : Bool := alwI (cN c) (cB c q) (cR c q) x
def sGains (c : CS) (x y : Int32) : Int32 := if isA c 0 x = true ∧ isA c 1 y = true then 1000 + iI (gn (cT c) 0 (cV c) (cN c) (tn x) (tn y)) else eIA
def opN (o : Option Nat) : Int32 := match o with
  | some z => nI z
  | none => eNF
def sBetter (c : CS) (x y : Int32) : Int32 := if isQ x ∧ isA c (tn x) y = true then opN ((alL c (tn x)).find? (fun z => bet c (tn x) z (tn y))) else eIA
def sPut (c : CS) (x y w : Int32) : Int32 × Option CS := if isQ x ∧ isA c (tn x) y = true ∧ 1 ≤ w ∧ w ≤ 99 then (if (cM c (tn x)).length < 12 ∨ mIn (cM c (tn x)) (tn y) = true then (nI (mOf (cM c (tn x)) (tn y)), some (setM c (tn x) (mSet (cM c (tn x)) (tn y) (tn w)))) else (eLR, none)) else (eIA, none)
def sTake (c : CS) (x y : Int32) : Int32 × Option CS := if isQ x ∧ isA c (tn x) y = true then (if mOf (cM c (tn x)) (tn y) = 0 then (eNP, none) else (nI (mOf (cM c (tn x)) (tn y)), some (setM c (tn x) ((cM c (tn x)).eraseIdx (mPl (cM c (tn x)) (tn y)))))) else (eIA, none)
theorem setM_del {c : CS} {q i : Nat} (ho : cOk c) (hi : i < (cM c q).length) : cOk (setM c q ((cM c q).eraseIdx i)) := by
  refine ⟨ho.1, ho.2.1, ho.2.2.1, ho.2.2.2.1, fun z hz => ⟨(ho.2.2.2.2 z hz).1, (ho.2.2.2.2 z hz).2.1, fun k hk => ?_⟩⟩
  show alw (cN c) (cB c z) (mA (if z = q then (cM c q).eraseIdx i else cM c z) k) (cR c z) = true
  have hk : k < (if z = q then (cM c q).eraseIdx i else cM c z).length := hk
  by_cases e : z = q
  · subst e
    rw [if_pos rfl] at hk ⊢
    obtain ⟨e1, e2⟩ := mDel_at hi
    rw [e1] at hk
    rw [(e2 k).1]
    split
    · exact (ho.2.2.2.2 z hz).2.2 k (by omega)
    · exact (ho.2.2.2.2 z hz).2.2 (k + 1) (by omega)
  · rw [if_neg e] at hk ⊢
    exact (ho.2.2.2.2 z hz).2.2 k hk
section ZC2
variable {sc : Nat × (Nat → Int32)} {Q : Option Value → zA → Prop} {h : zA} {p : Nat → Option Nat} {iv : Nat → Nat → Int32} {cs : CS} {hs : List CS} {t : List Nat} {x y z : Int32} {q : Nat}
theorem m1_le {y : Int32} : (-1 ≤ y ∧ ¬ y = -1) ↔ 0 ≤ y := by
  rw [Int32.le_iff_toInt_le, Int32.le_iff_toInt_le, ← Int32.toInt_inj]
  show (-1 ≤ y.toInt ∧ ¬ y.toInt = -1) ↔ 0 ≤ y.toInt
  omega
theorem k_alloc {v : Value} (R : RC iv p cs hs t) : OKc sc 63 [.ref 1, .int x, .int y, v] p iv (sAlloc cs x y) cs hs t := by
  unfold sAlloc
  by_cases g1 : isQ x
  · have d1 := decide_eq_true g1
    by_cases g2 : -1 ≤ y
    · rw [if_pos ⟨g1, g2⟩]
      obtain ⟨q, hq, rfl⟩ := isQ_nI g1
      rw [tn_nI (by omega)]
      obtain ⟨iv2, q1, q2, q3⟩ := c_freshList (sc := sc) (p := p) (v := .null) R.1 R.2.1 hq
      have hA := aL_b q
      have hl := alL_len R.2.1 hq
      have w1 : RC iv2 p cs hs t := R.keep (fun c hc => q2 c (by omega) (by omega))
      have w2 : FC iv2 iv := fun c hc => q2 c (by omega) (by omega)
      refine ⟨iv2, p, w1, w2, fun Q hQ => ?_⟩
      have q1 : isAL iv2 (aL q) (alL cs q) := q1
      revert q1 hl hQ
      generalize alL cs q = L
      intro hl hQ q1
      have e0 : iv2 (aL q) 0 = nI L.length := q1.1
      have zq := zAl_q (q := q)
      rw [show zEv sc 63 0 [.ref 1, .int (nI q), .int y, v] [] (zst p iv) Q ↔ zEv sc 62 0 [.ref 1, .int (nI q), .null] [] (zst p iv) (fun r h9 => zEv sc 63 20 [.ref 1, .int (nI q), .int y, v] (r.toList ++ []) h9 Q) by
        simp only [u63_0, u63_1, u63_4, u63_7, u63_8, u63_9, u63_15, u63_16, u63_17, u63_12, u63_14, c_isPlayer, d1, zb_t, Option.toList_some, Option.toList_none, List.cons_append, List.nil_append, zRef_some, true_and, and_true, true_or, or_true, i10, i01, if_false, if_pos g2, z1o]]
      refine q3 _ ?_
      simp only [u63_20, u63_21, u63_22, u63_23, Option.toList_some, Option.toList_none, List.cons_append, List.nil_append, zRef_some, true_and, and_true, true_or, or_true, i10, i01]
      by_cases g3 : y = -1
      · rw [if_neg (fun z => z g3)]
        rw [if_pos g3] at hQ
        simp only [u63_26, u63_27, u63_30, zq.1, e0]
        exact hQ
      · rw [if_pos g3]
        rw [if_neg g3] at hQ
        have g4 := m1_le.mp ⟨g2, g3⟩
        have hx : ¬ y < 0 := by
          rw [Int32.lt_iff_toInt_lt]
          rw [Int32.le_iff_toInt_le] at g4
          omega
        obtain ⟨k, hk, rfl⟩ := nI_of hx
        rw [tn_nI hk] at hQ
        have g6 : nI k < nI L.length ↔ k < L.length := nI_ltI hk (by omega)
        simp only [u63_31, u63_32, u63_33, u63_36, zq.1, e0, nI_leI (show L.length < 2 ^ 31 by omega) hk]
        by_cases g5 : k < L.length
        · rw [if_neg (by omega)]
          rw [if_pos (g6.mpr g5)] at hQ
          have e1 : iv2 (aL q + 1) k = nI (L.getD k 0) := q1.2.2 k g5
          simp only [u63_39, u63_40, u63_43, u63_44, u63_45, u63_50, u63_48, zq.1, zq.2.1, zq.2.2.1, zq.2.2.2, zRef_some, nI_clamp hk, vp_in_nI (show k < 165 by omega) (by omega), true_and, e1]
          exact hQ
        · rw [if_pos (by omega)]
          rw [if_neg (fun z => g5 (g6.mp z))] at hQ
          simp only [u63_50, u63_48]
          exact hQ
    · rw [if_neg (fun z => g2 z.2)]
      refine ⟨iv, p, R, FC.rf, fun Q hQ => ?_⟩
      simp only [u63_0, u63_1, u63_4, u63_7, u63_8, u63_9, u63_15, u63_16, u63_17, u63_20, u63_21, u63_22, u63_23, u63_26, u63_27, u63_30, u63_31, u63_32, u63_33, u63_36, u63_39, u63_40, u63_43, u63_44, u63_45, u63_50, u63_48, u63_12, u63_14, c_isPlayer, d1, if_neg g2, zb_t, Option.toList_some, Option.toList_none, List.cons_append, List.nil_append, zRef_some, true_and, and_true, true_or, or_true, i10, i01, if_false]
      exact hQ
  · rw [if_neg (fun z => g1 z.1)]
    refine ⟨iv, p, R, FC.rf, fun Q hQ => ?_⟩
    simp only [u63_0, u63_1, u63_4, u63_7, u63_8, u63_9, u63_15, u63_16, u63_17, u63_20, u63_21, u63_22, u63_23, u63_26, u63_27, u63_30, u63_31, u63_32, u63_33, u63_36, u63_39, u63_40, u63_43, u63_44, u63_45, u63_50, u63_48, u63_12, u63_14, c_isPlayer, decide_eq_false g1, zb_f, Option.toList_some, Option.toList_none, List.cons_append, List.nil_append, zRef_some, true_and, and_true, true_or, or_true, i10, i01, if_true]
    exact hQ
theorem allows_0 (R : RC iv p cs hs t) : zEv sc 17 0 [.ref 2, .int 0, .int x] [] (zst p iv) Q ↔ Q (some (.int (zb (isA cs 0 x)))) (zst p iv) := c_allowsC (v := .null) (q := 0) zCt_2 R.1 R.2.1 (by omega)
theorem allows_1 (R : RC iv p cs hs t) : zEv sc 17 0 [.ref 2, .int 1, .int x] [] (zst p iv) Q ↔ Q (some (.int (zb (isA cs 1 x)))) (zst p iv) := c_allowsC (v := .null) (q := 1) zCt_2 R.1 R.2.1 (by omega)
theorem allows_q (R : RC iv p cs hs t) (hq : q < 2) : zEv sc 17 0 [.ref 2, .int (nI q), .int x] [] (zst p iv) Q ↔ Q (some (.int (zb (isA cs q x)))) (zst p iv) := c_allowsC (v := .null) (q := q) zCt_2 R.1 R.2.1 hq
theorem k_gains {v : Value} (R : RC iv p cs hs t) : OKc sc 64 [.ref 1, .int x, .int y] p iv (sGains cs x y) cs hs t := by
  unfold sGains
  refine ⟨iv, p, R, FC.rf, fun Q hQ => ?_⟩
  by_cases g1 : isA cs 0 x = true
  · by_cases g2 : isA cs 1 y = true
    · rw [if_pos ⟨g1, g2⟩] at hQ
      obtain ⟨a, ha, rfl, -⟩ := alwI_of R.2.1 (show 0 < 2 by omega) g1
      obtain ⟨b, hb, rfl, -⟩ := alwI_of R.2.1 (show 1 < 2 by omega) g2
      rw [tn_nI (by omega), tn_nI (by omega)] at hQ
      have hg := fun Q => c_gainOf (sc := sc) (p := p) (Q := Q) (q := 0) (v1 := .null) (v2 := .null) (v3 := .null) (v4 := .null) zCt_2 R.1 R.2.1 (by omega) (show a < 10000 by omega) (show b < 10000 by omega)
      rw [nI_0] at hg
      simp only [u64_0, u64_1, u64_4, u64_5, u64_6, u64_9, u64_12, u64_13, u64_16, u64_17, u64_18, u64_21, u64_27, u64_30, u64_31, u64_34, u64_35, u64_36, u64_37, u64_40, u64_41, u64_24, u64_26, z1o, z1r.1, zCt_2.1, allows_0 R, allows_1 R, g1, g2, zb_t, Option.toList_some, Option.toList_none, List.cons_append, List.nil_append, zRef_some, true_and, and_true, true_or, or_true, i10, i01, not_false_eq_true, if_true, if_false, hg]
      exact hQ
    · rw [if_neg (fun z => g2 z.2)] at hQ
      rw [Bool.not_eq_true] at g2
      simp only [u64_0, u64_1, u64_4, u64_5, u64_6, u64_9, u64_12, u64_13, u64_16, u64_17, u64_18, u64_21, u64_27, u64_30, u64_31, u64_34, u64_35, u64_36, u64_37, u64_40, u64_41, u64_24, u64_26, z1o, z1r.1, zCt_2.1, allows_0 R, allows_1 R, g1, g2, zb_t, zb_f, Option.toList_some, Option.toList_none, List.cons_append, List.nil_append, zRef_some, true_and, and_true, true_or, or_true, i10, i01, not_true_eq_false, if_false]
      exact hQ
  · rw [if_neg (fun z => g1 z.1)] at hQ
    rw [Bool.not_eq_true] at g1
    simp only [u64_0, u64_1, u64_4, u64_5, u64_6, u64_9, u64_12, u64_13, u64_16, u64_17, u64_18, u64_21, u64_27, u64_30, u64_31, u64_34, u64_35, u64_36, u64_37, u64_40, u64_41, u64_24, u64_26, z1o, z1r.1, zCt_2.1, allows_0 R, g1, zb_f, Option.toList_some, Option.toList_none, List.cons_append, List.nil_append, zRef_some, true_and, and_true, true_or, or_true, i10, i01, if_true]
    exact hQ
theorem c_isAlw {a b s : Nat} {L : List Nat} {v5 v6 v7 v8 : Value} (hc : isCt iv 2 cs) (ho : cOk cs) (hq : q < 2) (ha : a < 10000) (hb : b < 10000) (hA : isAL iv (aL s) L) (hlt : ∀ k, k < L.length → L.getD k 0 < 10000) : zEv sc 65 0 [.ref 1, .int (nI q), .int (nI a), .int (nI b), .ref (aL s), v5, v6, v7, v8] [] (zst p iv) Q ↔ Q (some (.int (zb (betG (fun o => gn (cT cs) q (cV cs) (cN cs) a o - gn (cT cs) q (cV cs) (cN cs) b o) L false)))) (zst p iv) := by
  have zq := zAl_q (q := s)
  have hl := hA.2.1
  have loop : ∀ d i g (w7 w8 : Value), L.length - i = d → i ≤ L.length → (zEv sc 65 6 [.ref 1, .int (nI q), .int (nI a), .int (nI b), .ref (aL s), .int (zb g), .int (nI i), w7, w8] [] (zst p iv) Q ↔ Q (some (.int (zb (betG (fun o => gn (cT cs) q (cV cs) (cN cs) a o - gn (cT cs) q (cV cs) (cN cs) b o) (L.drop i) g)))) (zst p iv)) := by
    intro d
    induction d with
    | zero =>
      intro i g w7 w8 hd hi
      have : i = L.length := by omega
      subst this
      rw [List.drop_length]
      rw [u65_6]
      simp only [u65_8, u65_10, zq.1, hA.1]
      rw [u65_13, if_pos (Int32.le_refl _)]
      simp only [u65_81, u65_83, zb_01, Option.toList_some, Option.toList_none, List.cons_append, List.nil_append, zRef_some, true_and, and_true, true_or, or_true, i10, i01]
      exact Iff.rfl
    | succ d ih =>
      intro i g w7 w8 hd hi
      have hi2 : i < L.length := by omega
      rw [drop_getD hi2]
      have hL := hlt i hi2
      have e1 := hA.2.2 i hi2
      have ga := gn_abs ho q a (L.getD i 0)
      have gb := gn_abs ho q b (L.getD i 0)
      have hd2 : zEv sc 65 6 [.ref 1, .int (nI q), .int (nI a), .int (nI b), .ref (aL s), .int (zb g), .int (nI i), w7, w8] [] (zst p iv) Q ↔ (if 0 ≤ gn (cT cs) q (cV cs) (cN cs) a (L.getD i 0) - gn (cT cs) q (cV cs) (cN cs) b (L.getD i 0) then zEv sc 65 58 [.ref 1, .int (nI q), .int (nI a), .int (nI b), .ref (aL s), .int (zb g), .int (nI i), .int (nI (L.getD i 0)), .int (iI (gn (cT cs) q (cV cs) (cN cs) a (L.getD i 0) - gn (cT cs) q (cV cs) (cN cs) b (L.getD i 0)))] [] (zst p iv) Q else zEv sc 65 56 [.ref 1, .int (nI q), .int (nI a), .int (nI b), .ref (aL s), .int (zb g), .int (nI i), .int (nI (L.getD i 0)), .int (iI (gn (cT cs) q (cV cs) (cN cs) a (L.getD i 0) - gn (cT cs) q (cV cs) (cN cs) b (L.getD i 0)))] [] (zst p iv) Q) := by
        rw [u65_6]
        simp only [u65_8, u65_10, zq.1, hA.1]
        rw [u65_13, if_neg (by rw [nI_leI (by omega) (by omega)]; omega)]
        simp only [u65_16, u65_18, u65_21, u65_23, u65_24, u65_26, u65_27, u65_30, u65_31, u65_32, u65_34, u65_37, u65_38, u65_41, u65_42, u65_43, u65_45, u65_48, u65_49, u65_51, u65_53, zq.1, zq.2.1, zq.2.2.1, zq.2.2.2, zRef_some, nI_clamp (show i < 2 ^ 31 by omega), vp_in_nI (show i < 165 by omega) (by omega), true_and, e1, z1o, z1r.1, zCt_2.1, c_gainOf zCt_2 hc ho hq ha hL, c_gainOf zCt_2 hc ho hq hb hL, Option.toList_some, Option.toList_none, List.cons_append, List.nil_append, zRef_some, true_and, and_true, true_or, or_true, i10, i01, iI_sub]
        rw [show (0 : Int32) = iI 0 from rfl]
        simp only [iI_le (a := 0) (b := gn (cT cs) q (cV cs) (cN cs) a (L.getD i 0) - gn (cT cs) q (cV cs) (cN cs) b (L.getD i 0)) (by omega) (by omega)]
      rw [hd2]
      unfold betG
      generalize hD : gn (cT cs) q (cV cs) (cN cs) a (L.getD i 0) - gn (cT cs) q (cV cs) (cN cs) b (L.getD i 0) = D
      have hDa : D.natAbs ≤ 72 := by omega
      by_cases h0 : D < 0
      · rw [if_neg (by omega), if_pos h0]
        simp only [u65_56, u65_57, Option.toList_some, Option.toList_none, List.cons_append, List.nil_append, zRef_some, true_and, and_true, true_or, or_true, i10, i01]
        exact Iff.rfl
      · rw [if_pos (by omega), if_neg h0]
        have ih1 := fun g2 => ih (i + 1) g2 (.int (nI (L.getD i 0))) (.int (iI D)) (by omega) (by omega)
        cases g with
        | true =>
          have ih2 := ih1 true
          rw [zb_t] at ih2
          simp only [u65_58, u65_60, u65_68, u65_69, u65_73, u65_75, u65_78, zb_t, Option.toList_some, Option.toList_none, List.cons_append, List.nil_append, zRef_some, true_and, and_true, true_or, or_true, i10, i01, not_false_eq_true, if_true, nI_1]
          rw [ih2]
          exact Iff.rfl
        | false =>
          simp only [u65_58, u65_60, u65_63, zb_f, Option.toList_some, Option.toList_none, List.cons_append, List.nil_append, zRef_some, true_and, and_true, true_or, or_true, i10, i01, not_true_eq_false, if_false]
          have h3 : (iI D ≤ 0) ↔ D ≤ 0 := by
            rw [show (0 : Int32) = iI 0 from rfl, iI_le (by omega) (by omega)]
          rw [u65_65]
          by_cases h4 : D ≤ 0
          · have ih2 := ih1 false
            rw [zb_f] at ih2
            rw [if_pos (h3.mpr h4)]
            simp only [u65_72, u65_73, u65_75, u65_78, nI_1]
            rw [ih2, decide_eq_false (show ¬ 0 < D by omega)]
            exact Iff.rfl
          · have ih2 := ih1 true
            rw [zb_t] at ih2
            rw [if_neg (fun z => h4 (h3.mp z))]
            simp only [u65_68, u65_69, u65_73, u65_75, u65_78, nI_1]
            rw [ih2, decide_eq_true (show 0 < D by omega)]
            exact Iff.rfl
  have l0 := loop _ 0 false v7 v8 rfl (by omega)
  rw [nI_0, zb_f] at l0
  simp only [u65_0, u65_1, u65_3, u65_4]
  exact l0
theorem k_better {v3 v4 v5 : Value} (R : RC iv p cs hs t) : OKc sc 66 [.ref 1, .int x, .int y, v3, v4, v5] p iv (sBetter cs x y) cs hs t := by
  unfold sBetter
  by_cases g1 : isQ x
  · have d1 := decide_eq_true g1
    obtain ⟨q, hq, rfl⟩ := isQ_nI g1
    rw [tn_nI (by omega)]
    by_cases g2 : isA cs q y = true
    · rw [if_pos ⟨g1, g2⟩]
      obtain ⟨a, ha, rfl, -⟩ := alwI_of R.2.1 hq g2
      rw [tn_nI (by omega)]
      have hq1 : 1 - q < 2 := by omega
      obtain ⟨iv1, q1, q2, q3⟩ := c_freshList (sc := sc) (p := p) (v := .null) R.1 R.2.1 hq
      have hA := aL_b q
      have hA1 := aL_b (1 - q)
      have hne : aL q + 2 ≤ aL (1 - q) ∨ aL (1 - q) + 2 ≤ aL q := by
        rcases (show q = 0 ∨ q = 1 by omega) with rfl | rfl
        · left; decide
        · right; decide
      have R1 : RC iv1 p cs hs t := R.keep (fun c hc => q2 c (by omega) (by omega))
      obtain ⟨iv2, r1, r2, r3⟩ := c_freshList (sc := sc) (p := p) (v := .null) R1.1 R1.2.1 hq1
      have R2 : RC iv2 p cs hs t := R1.keep (fun c hc => r2 c (by omega) (by omega))
      have A1 : isAL iv2 (aL q) (alL cs q) := q1.keep (fun c h1 h2 => r2 c (by omega) (by omega))
      have A2 : isAL iv2 (aL (1 - q)) (alL cs (1 - q)) := r1
      have F2 : FC iv2 iv := fun c hc => by rw [r2 c (by omega) (by omega), q2 c (by omega) (by omega)]
      have zq := zAl_q (q := q)
      have hl := A1.2.1
      refine ⟨iv2, p, R2, F2, fun Q hQ => ?_⟩
      obtain ⟨F, hF⟩ : ∃ F, F = fun z => bet cs q z a := ⟨_, rfl⟩
      rw [← hF] at hQ
      have hB : ∀ y, y < 10000 → ∀ Q, zEv sc 65 0 [.ref 1, .int (nI q), .int (nI y), .int (nI a), .ref (aL (1 - q)), .null, .null, .null, .null] [] (zst p iv2) Q ↔ Q (some (.int (zb (F y)))) (zst p iv2) := by
        intro y hy Q
        rw [hF]
        unfold bet
        exact c_isAlw R2.1 R2.2.1 hq hy (by omega) A2 (fun k hk => by have := (alL_at hk).1; omega)
      have hlt : ∀ k, k < (alL cs q).length → (alL cs q).getD k 0 < 10000 := fun k hk => by have := (alL_at hk).1; omega
      clear hF
      revert hQ A1 hl hlt
      generalize alL cs q = L
      intro A1 hl hQ hlt
      have loop : ∀ d i, L.length - i = d → i ≤ L.length → Q (some (.int (opN ((L.drop i).find? F)))) (zst p iv2) → zEv sc 66 40 [.ref 1, .int (nI q), .int (nI a), .ref (aL q), .ref (aL (1 - q)), .int (nI i)] [] (zst p iv2) Q := by
        intro d
        induction d with
        | zero =>
          intro i hd hi hQ
          have : i = L.length := by omega
          subst this
          rw [List.drop_length] at hQ
          rw [u66_40]
          simp only [u66_42, u66_43, zq.1, A1.1]
          rw [u66_46, if_pos (Int32.le_refl _)]
          simp only [u66_81, u66_83]
          exact hQ
        | succ d ih =>
          intro i hd hi hQ
          have hi2 : i < L.length := by omega
          rw [drop_getD hi2] at hQ
          have hL := hlt i hi2
          have e1 := A1.2.2 i hi2
          rw [u66_40]
          simp only [u66_42, u66_43, zq.1, A1.1]
          rw [u66_46, if_neg (by rw [nI_leI (by omega) (by omega)]; omega)]
          simp only [u66_49, u66_50, u66_51, u66_52, u66_55, u66_57, u66_58, u66_59, zq.1, zq.2.1, zq.2.2.1, zq.2.2.2, zRef_some, nI_clamp (show i < 2 ^ 31 by omega), vp_in_nI (show i < 165 by omega) (by omega), true_and, e1]
          rw [u66_61 z1o, hB _ hL]
          simp only [u66_64, Option.toList_some, Option.toList_none, List.cons_append, List.nil_append, zRef_some, true_and, and_true, true_or, or_true, i10, i01]
          rcases Bool.eq_false_or_eq_true (F (L.getD i 0)) with hb | hb
          · rw [List.find?_cons_of_pos hb] at hQ
            rw [hb, zb_t, if_neg (by decide)]
            simp only [u66_67, u66_68, u66_71, u66_73, u66_74, zq.1, zq.2.1, zq.2.2.1, zq.2.2.2, zRef_some, nI_clamp (show i < 2 ^ 31 by omega), vp_in_nI (show i < 165 by omega) (by omega), true_and, e1]
            exact hQ
          · rw [List.find?_cons_of_neg (by rw [hb]; exact Bool.false_ne_true)] at hQ
            rw [hb, zb_f, if_pos rfl]
            simp only [u66_75, u66_78, nI_1]
            exact ih (i + 1) (by omega) (by omega) hQ
      have l0 := loop _ 0 rfl (by omega) hQ
      rw [nI_0] at l0
      have e3 : (1 : Int32) - nI q = nI (1 - q) := by
        rw [show (1 : Int32) = nI 1 from rfl, pk_sub (by omega)]
      simp only [u66_0, u66_1, u66_4, u66_7, u66_8, u66_11, u66_12, u66_13, u66_16, u66_22, u66_23, u66_24, u66_19, u66_21, c_isPlayer, d1, allows_q R hq, g2, zb_t, Option.toList_some, Option.toList_none, List.cons_append, List.nil_append, zRef_some, true_and, and_true, true_or, or_true, i10, i01, not_false_eq_true, if_true, if_false, z1o, z1r.1, zCt_2.1]
      refine q3 _ ?_
      simp only [u66_27, u66_28, u66_29, u66_30, u66_31, u66_32, Option.toList_some, Option.toList_none, List.cons_append, List.nil_append, zRef_some, true_and, and_true, true_or, or_true, i10, i01, z1o, e3]
      refine r3 _ ?_
      simp only [u66_35, u66_37, u66_38, Option.toList_some, Option.toList_none, List.cons_append, List.nil_append, zRef_some, true_and, and_true, true_or, or_true, i10, i01]
      exact l0
    · rw [if_neg (fun z => g2 z.2)]
      rw [Bool.not_eq_true] at g2
      refine ⟨iv, p, R, FC.rf, fun Q hQ => ?_⟩
      simp only [u66_0, u66_1, u66_4, u66_7, u66_8, u66_11, u66_12, u66_13, u66_16, u66_22, u66_23, u66_24, u66_27, u66_28, u66_29, u66_30, u66_31, u66_32, u66_35, u66_37, u66_38, u66_40, u66_42, u66_43, u66_46, u66_49, u66_50, u66_51, u66_52, u66_55, u66_57, u66_58, u66_59, u66_61, u66_64, u66_67, u66_68, u66_71, u66_73, u66_74, u66_75, u66_78, u66_81, u66_83, u66_19, u66_21, c_isPlayer, d1, allows_q R hq, g2, zb_t, zb_f, Option.toList_some, Option.toList_none, List.cons_append, List.nil_append, zRef_some, true_and, and_true, true_or, or_true, i10, i01, not_true_eq_false, if_false, z1o, z1r.1, zCt_2.1]
      exact hQ
  · rw [if_neg (fun z => g1 z.1)]
    refine ⟨iv, p, R, FC.rf, fun Q hQ => ?_⟩
    simp only [u66_0, u66_1, u66_4, u66_7, u66_8, u66_11, u66_12, u66_13, u66_16, u66_22, u66_23, u66_24, u66_27, u66_28, u66_29, u66_30, u66_31, u66_32, u66_35, u66_37, u66_38, u66_40, u66_42, u66_43, u66_46, u66_49, u66_50, u66_51, u66_52, u66_55, u66_57, u66_58, u66_59, u66_61, u66_64, u66_67, u66_68, u66_71, u66_73, u66_74, u66_75, u66_78, u66_81, u66_83, u66_19, u66_21, c_isPlayer, decide_eq_false g1, zb_f, Option.toList_some, Option.toList_none, List.cons_append, List.nil_append, zRef_some, true_and, and_true, true_or, or_true, i10, i01, if_true]
    exact hQ
theorem put_end {iv1 iv2 : Nat → Nat → Int32} {p1 : Nat → Option Nat} {l : List (Nat × Nat)} (R : RC iv p cs hs t) (q1 : isH iv1 p1 (hRec hs cs)) (q2 : ∀ c, c < 26 ∨ 76 ≤ c → iv1 c = iv c) (hq : q < 2) (s1 : isMix iv2 (sB 2 q + 2) l) (s2 : ∀ c, c < sB 2 q + 2 ∨ sB 2 q + 5 ≤ c → iv2 c = iv1 c) (ho : cOk (setM cs q l)) : RC iv2 p1 (setM cs q l) (hRec hs cs) t ∧ FC iv2 iv := by
  have hsb : 4 ≤ sB 2 q ∧ sB 2 q + 5 ≤ 14 := by unfold sB; split <;> omega
  have hc1 : isCt iv1 2 cs := R.1.keep (fun c _ _ => q2 c (by omega))
  exact R.rec q1 q2 (setM_ct hc1 hq s1 (fun c _ _ h => s2 c h)) ho (fun c hc => s2 c (by omega))
theorem k_put {v4 v5 : Value} (R : RC iv p cs hs t) : OKc sc 67 [.ref 1, .int x, .int y, .int z, v4, v5] p iv (sPut cs x y z).1 (nC cs (sPut cs x y z)) (nH cs hs (sPut cs x y z)) t := by
  unfold sPut
  by_cases g1 : isQ x
  · have d1 := decide_eq_true g1
    obtain ⟨q, hq, rfl⟩ := isQ_nI g1
    rw [tn_nI (by omega)]
    by_cases g2 : isA cs q y = true
    · obtain ⟨a, ha, rfl, hal⟩ := alwI_of R.2.1 hq g2
      rw [tn_nI (by omega)]
      by_cases g3 : 1 ≤ z ∧ z ≤ 99
      · have d3 := decide_eq_true g3
        rw [if_pos ⟨g1, g2, g3⟩]
        obtain ⟨w, hw1, hw9, rfl⟩ := in_nI2 (l := 1) (k := 99) (by omega) (by omega) g3.1 g3.2
        rw [tn_nI (by omega)]
        have hS := R.1.sd hq
        have hz := zCt_2.sd (q := q)
        have hm := hz.2.2.2.2.2
        have head : ∀ Q, zEv sc 67 0 [.ref 1, .int (nI q), .int (nI a), .int (nI w), v4, v5] [] (zst p iv) Q ↔ (if ¬ zb (decide ((cM cs q).length < 12 ∨ mIn (cM cs q) a = true)) = 0 then zEv sc 67 57 [.ref 1, .int (nI q), .int (nI a), .int (nI w), .ref (sB 2 q + 2), v5] [] (zst p iv) Q else zEv sc 67 54 [.ref 1, .int (nI q), .int (nI a), .int (nI w), .ref (sB 2 q + 2), v5] [] (zst p iv) Q) := by
          intro Q
          simp only [u67_0, u67_1, u67_4, u67_7, u67_8, u67_11, u67_12, u67_13, u67_16, u67_19, u67_20, u67_21, u67_23, u67_26, u67_32, u67_33, u67_36, u67_37, u67_40, u67_43, u67_45, u67_47, u67_48, u67_51, u67_29, u67_31, c_isPlayer, c_isIn, d1, d3, allows_q R hq, g2, zb_t, Option.toList_some, Option.toList_none, List.cons_append, List.nil_append, zRef_some, true_and, and_true, true_or, or_true, i10, i01, not_false_eq_true, if_true, if_false, z1o, z1r.1, zCt_2.1, c_side zCt_2 hq, hz.1, hz.2.2.2.2.1, hm.1, c_hasRoomFor hm hS.2.2 (show a < 10000 by omega)]
        by_cases g4 : (cM cs q).length < 12 ∨ mIn (cM cs q) a = true
        · rw [if_pos g4]
          obtain ⟨iv1, p1, q1, q2, q3⟩ := c_record (sc := sc) (v := .null) R.1 R.2.2.1
          have hsb : 4 ≤ sB 2 q ∧ sB 2 q + 5 ≤ 14 := by unfold sB; split <;> omega
          have hm1 : isMix iv1 (sB 2 q + 2) (cM cs q) := hS.2.2.keep (fun c _ _ => q2 c (by omega))
          obtain ⟨iv2, r1, r2, r3⟩ := c_setWeight (sc := sc) (p := p1) (w := w) hm hm1 (show a < 10000 by omega) g4 (by omega) (by omega)
          obtain ⟨w1, w3⟩ := put_end R q1 q2 hq r1 (fun c hc => r2 c (by omega)) (setM_alw R.2.1 hq hS.2.2.1 (by omega) hal)
          refine ⟨iv2, p1, w1, w3, fun Q hQ => ?_⟩
          rw [head, decide_eq_true g4, zb_t, if_pos (by decide)]
          simp only [u67_57, u67_59, u67_60, u67_63, u67_65, u67_66, u67_69, u67_70, u67_73, z1o, z1r.1, z1r.2.2.1, hm.1, z26.1, c_weightOf hm hS.2.2 (show a < 10000 by omega), Option.toList_some, Option.toList_none, List.cons_append, List.nil_append, zRef_some, true_and, and_true, true_or, or_true, i10, i01]
          refine q3 _ ?_
          simp only [u67_76, u67_78, u67_79, u67_80, u67_83, u67_85, hm.1, r3, Option.toList_some, Option.toList_none, List.cons_append, List.nil_append, zRef_some, true_and, and_true, true_or, or_true, i10, i01]
          exact hQ
        · rw [if_neg g4]
          refine ⟨iv, p, R, FC.rf, fun Q hQ => ?_⟩
          rw [head, decide_eq_false g4, zb_f, if_neg (by decide)]
          simp only [u67_54, u67_56]
          exact hQ
      · rw [if_neg (fun z => g3 z.2.2)]
        refine ⟨iv, p, R, FC.rf, fun Q hQ => ?_⟩
        simp only [u67_0, u67_1, u67_4, u67_7, u67_8, u67_11, u67_12, u67_13, u67_16, u67_19, u67_20, u67_21, u67_23, u67_26, u67_32, u67_33, u67_36, u67_37, u67_40, u67_43, u67_45, u67_47, u67_48, u67_51, u67_54, u67_56, u67_57, u67_59, u67_60, u67_63, u67_65, u67_66, u67_69, u67_70, u67_73, u67_76, u67_78, u67_79, u67_80, u67_83, u67_85, u67_29, u67_31, c_isPlayer, c_isIn, d1, decide_eq_false g3, allows_q R hq, g2, zb_t, zb_f, Option.toList_some, Option.toList_none, List.cons_append, List.nil_append, zRef_some, true_and, and_true, true_or, or_true, i10, i01, not_true_eq_false, if_false, z1o, z1r.1, zCt_2.1]
        exact hQ
    · rw [if_neg (fun z => g2 z.2.1)]
      rw [Bool.not_eq_true] at g2
      refine ⟨iv, p, R, FC.rf, fun Q hQ => ?_⟩
      simp only [u67_0, u67_1, u67_4, u67_7, u67_8, u67_11, u67_12, u67_13, u67_16, u67_19, u67_20, u67_21, u67_23, u67_26, u67_32, u67_33, u67_36, u67_37, u67_40, u67_43, u67_45, u67_47, u67_48, u67_51, u67_54, u67_56, u67_57, u67_59, u67_60, u67_63, u67_65, u67_66, u67_69, u67_70, u67_73, u67_76, u67_78, u67_79, u67_80, u67_83, u67_85, u67_29, u67_31, c_isPlayer, d1, allows_q R hq, g2, zb_t, zb_f, Option.toList_some, Option.toList_none, List.cons_append, List.nil_append, zRef_some, true_and, and_true, true_or, or_true, i10, i01, if_true, if_false, z1o, z1r.1, zCt_2.1]
      exact hQ
  · rw [if_neg (fun z => g1 z.1)]
    refine ⟨iv, p, R, FC.rf, fun Q hQ => ?_⟩
    simp only [u67_0, u67_1, u67_4, u67_7, u67_8, u67_11, u67_12, u67_13, u67_16, u67_19, u67_20, u67_21, u67_23, u67_26, u67_32, u67_33, u67_36, u67_37, u67_40, u67_43, u67_45, u67_47, u67_48, u67_51, u67_54, u67_56, u67_57, u67_59, u67_60, u67_63, u67_65, u67_66, u67_69, u67_70, u67_73, u67_76, u67_78, u67_79, u67_80, u67_83, u67_85, u67_29, u67_31, c_isPlayer, decide_eq_false g1, zb_f, Option.toList_some, Option.toList_none, List.cons_append, List.nil_append, zRef_some, true_and, and_true, true_or, or_true, i10, i01, if_true]
    exact hQ
theorem k_take {v3 v4 : Value} (R : RC iv p cs hs t) : OKc sc 68 [.ref 1, .int x, .int y, v3, v4] p iv (sTake cs x y).1 (nC cs (sTake cs x y)) (nH cs hs (sTake cs x y)) t := by
  unfold sTake
  by_cases g1 : isQ x
  · have d1 := decide_eq_true g1
    obtain ⟨q, hq, rfl⟩ := isQ_nI g1
    rw [tn_nI (by omega)]
    by_cases g2 : isA cs q y = true
    · obtain ⟨a, ha, rfl, hal⟩ := alwI_of R.2.1 hq g2
      rw [tn_nI (by omega), if_pos ⟨g1, g2⟩]
      have hS := R.1.sd hq
      have hz := zCt_2.sd (q := q)
      have hm := hz.2.2.2.2.2
      have hw := mOf_ok (x := a) hS.2.2.1
      have head : ∀ Q, zEv sc 68 0 [.ref 1, .int (nI q), .int (nI a), v3, v4] [] (zst p iv) Q ↔ (if ¬ nI (mOf (cM cs q) a) = 0 then zEv sc 68 49 [.ref 1, .int (nI q), .int (nI a), .ref (sB 2 q + 2), .int (nI (mOf (cM cs q) a))] [] (zst p iv) Q else zEv sc 68 46 [.ref 1, .int (nI q), .int (nI a), .ref (sB 2 q + 2), .int (nI (mOf (cM cs q) a))] [] (zst p iv) Q) := by
        intro Q
        simp only [u68_0, u68_1, u68_4, u68_7, u68_8, u68_11, u68_12, u68_13, u68_16, u68_22, u68_23, u68_26, u68_27, u68_30, u68_33, u68_34, u68_35, u68_36, u68_39, u68_41, u68_43, u68_19, u68_21, c_isPlayer, d1, allows_q R hq, g2, zb_t, Option.toList_some, Option.toList_none, List.cons_append, List.nil_append, zRef_some, true_and, and_true, true_or, or_true, i10, i01, not_false_eq_true, if_true, if_false, z1o, z1r.1, zCt_2.1, c_side zCt_2 hq, hz.1, hz.2.2.2.2.1, hm.1, c_weightOf hm hS.2.2 (show a < 10000 by omega)]
      by_cases g4 : mOf (cM cs q) a = 0
      · rw [if_pos g4]
        refine ⟨iv, p, R, FC.rf, fun Q hQ => ?_⟩
        rw [head, g4, if_neg (show ¬ ¬ nI 0 = 0 from fun z => z rfl)]
        simp only [u68_46, u68_48]
        exact hQ
      · rw [if_neg g4]
        have hi := hw.2.mp (by omega)
        obtain ⟨iv1, p1, q1, q2, q3⟩ := c_record (sc := sc) (v := .null) R.1 R.2.2.1
        have hsb : 4 ≤ sB 2 q ∧ sB 2 q + 5 ≤ 14 := by unfold sB; split <;> omega
        have hm1 : isMix iv1 (sB 2 q + 2) (cM cs q) := hS.2.2.keep (fun c _ _ => q2 c (by omega))
        obtain ⟨iv2, r1, r2, r3⟩ := c_remove (sc := sc) (p := p1) hm hm1 (show a < 10000 by omega) hi
        obtain ⟨w1, w3⟩ := put_end R q1 q2 hq r1 (fun c hc => r2 c (by omega)) (setM_del R.2.1 (mIn_iff.mp hi).1)
        refine ⟨iv2, p1, w1, w3, fun Q hQ => ?_⟩
        rw [head, if_pos (nI_ne0 (by omega) (by omega))]
        simp only [u68_49, u68_50, u68_53, u68_54, u68_57, z1o, z1r.1, z1r.2.2.1, z26.1, Option.toList_some, Option.toList_none, List.cons_append, List.nil_append, zRef_some, true_and, and_true, true_or, or_true, i10, i01]
        refine q3 _ ?_
        simp only [u68_60, u68_61, u68_62, u68_65, u68_67, hm.1, r3, Option.toList_some, Option.toList_none, List.cons_append, List.nil_append, zRef_some, true_and, and_true, true_or, or_true, i10, i01]
        exact hQ
    · rw [if_neg (fun z => g2 z.2)]
      rw [Bool.not_eq_true] at g2
      refine ⟨iv, p, R, FC.rf, fun Q hQ => ?_⟩
      simp only [u68_0, u68_1, u68_4, u68_7, u68_8, u68_11, u68_12, u68_13, u68_16, u68_22, u68_23, u68_26, u68_27, u68_30, u68_33, u68_34, u68_35, u68_36, u68_39, u68_41, u68_43, u68_46, u68_48, u68_49, u68_50, u68_53, u68_54, u68_57, u68_60, u68_61, u68_62, u68_65, u68_67, u68_19, u68_21, c_isPlayer, d1, allows_q R hq, g2, zb_t, zb_f, Option.toList_some, Option.toList_none, List.cons_append, List.nil_append, zRef_some, true_and, and_true, true_or, or_true, i10, i01, not_true_eq_false, if_true, if_false, z1o, z1r.1, zCt_2.1]
      exact hQ
  · rw [if_neg (fun z => g1 z.1)]
    refine ⟨iv, p, R, FC.rf, fun Q hQ => ?_⟩
    simp only [u68_0, u68_1, u68_4, u68_7, u68_8, u68_11, u68_12, u68_13, u68_16, u68_22, u68_23, u68_26, u68_27, u68_30, u68_33, u68_34, u68_35, u68_36, u68_39, u68_41, u68_43, u68_46, u68_48, u68_49, u68_50, u68_53, u68_54, u68_57, u68_60, u68_61, u68_62, u68_65, u68_67, u68_19, u68_21, c_isPlayer, decide_eq_false g1, zb_f, Option.toList_some, Option.toList_none, List.cons_append, List.nil_append, zRef_some, true_and, and_true, true_or, or_true, i10, i01, if_true]
    exact hQ
end ZC2
