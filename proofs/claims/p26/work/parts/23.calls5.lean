/-! ===== FieldMixtures: what the calls of the face come to, part 5 ===== -/
def rnd1 (c : CS) : Option CS := if mCan (cM c 0) (bR c 0).1 = true then (if mCan (cM c 1) (bR c 1).1 = true then some (setM (setM c 0 (mSet (cM c 0) (bR c 0).1 (mOf (cM c 0) (bR c 0).1 + 1))) 1 (mSet (cM c 1) (bR c 1).1 (mOf (cM c 1) (bR c 1).1 + 1))) else none) else none
def rnd : Nat → CS → Option CS
  | 0, c => some c
  | k + 1, c => match rnd1 c with
    | none => none
    | some d => rnd k d
def oRnd (o : Option CS) : Int32 × Option CS := match o with
  | none => (eLR, none)
  | some d => (szM d, some d)
def sRound (c : CS) (x : Int32) : Int32 × Option CS := if 1 ≤ x ∧ x ≤ 20 then (if (cM c 0).length = 0 ∨ (cM c 1).length = 0 then (eNP, none) else oRnd (rnd (tn x) c)) else (eIA, none)
theorem alL_setM {c : CS} {q z : Nat} {l : List (Nat × Nat)} : alL (setM c q l) z = alL c z := by unfold alL; rfl
theorem mem_9 {c : CS} {q y : Nat} (ho : cOk c) (hq : q < 2) (h : y ∈ alL c q) : y < 9000 ∧ alw (cN c) (cB c q) y (cR c q) = true := by
  have h1 : alw (cN c) (cB c q) y (cR c q) = true := (als_mem ho.1 ho.2.1 (ho.2.2.2.2 q hq).1).mp h
  exact ⟨als_lt ho.1 ho.2.1 (ho.2.2.2.2 q hq).1 h1, h1⟩
theorem mSet_pos {l : List (Nat × Nat)} {y w : Nat} (h : 0 < l.length) : 0 < (mSet l y w).length := by
  by_cases hi : mIn l y = true
  · rw [(mSet_in (w := w) hi).1]; exact h
  · rw [(mSet_new (w := w) hi).1]; omega
/-- what a round needs: mixtures in order, none empty -/
def rOk (c : CS) : Prop := cOk c ∧ ∀ q, q < 2 → mOk (cM c q) ∧ 0 < (cM c q).length
theorem rOk.bR {c : CS} (h : rOk c) {q : Nat} (hq : q < 2) : 0 < (bR c q).2.2 ∧ (bR c q).1 < 9000 ∧ alw (cN c) (cB c q) (bR c q).1 (cR c q) = true := by
  have o1 : mOk (oM c q) := (h.2 (1 - q) (by omega)).1
  have h1 := bR_pos h.1 hq o1 (h.2 q hq).2
  obtain ⟨h2, -⟩ := (bR_ok h.1 o1).2.2 h1
  obtain ⟨h3, h4⟩ := mem_9 h.1 hq h2
  exact ⟨h1, h3, h4⟩
theorem rOk.add {c : CS} (h : rOk c) {q y : Nat} (hq : q < 2) (hy : y < 9000) (ha : alw (cN c) (cB c q) y (cR c q) = true) (hc : mCan (cM c q) y = true) : rOk (setM c q (mSet (cM c q) y (mOf (cM c q) y + 1))) := by
  have hm := of_decide_eq_true hc
  refine ⟨setM_alw h.1 hq (h.2 q hq).1 (by omega) ha, fun z hz => ?_⟩
  show mOk (if z = q then mSet (cM c q) y (mOf (cM c q) y + 1) else cM c z) ∧ 0 < (if z = q then mSet (cM c q) y (mOf (cM c q) y + 1) else cM c z).length
  by_cases e : z = q
  · rw [if_pos e]
    exact ⟨mSet_ok (h.2 q hq).1 hm.2 (by omega) (by omega) hm.1, mSet_pos (h.2 q hq).2⟩
  · rw [if_neg e]
    exact h.2 z hz
theorem rnd1_ok {c d : CS} (h : rOk c) (e : rnd1 c = some d) : rOk d ∧ ∀ z, alL d z = alL c z := by
  unfold rnd1 at e
  split at e
  next h0 =>
    split at e
    next h1 =>
      obtain rfl := Option.some.inj e
      obtain ⟨-, b1, b2⟩ := h.bR (show 0 < 2 by omega)
      obtain ⟨-, b3, b4⟩ := h.bR (show 1 < 2 by omega)
      have r1 := h.add (show 0 < 2 by omega) b1 b2 h0
      have r2 := r1.add (q := 1) (show 1 < 2 by omega) b3 b4 h1
      exact ⟨r2, fun z => by rw [alL_setM, alL_setM]⟩
    next => cases e
  next => cases e
section ZC5
variable {sc : Nat × (Nat → Int32)} {Q : Option Value → zA → Prop} {h : zA} {p : Nat → Option Nat} {iv : Nat → Nat → Int32} {cs : CS} {hs : List CS} {t : List Nat} {x y z w : Int32} {q : Nat}
theorem c_draft (R : RC iv p cs hs t) : ∃ iv1, isCt iv1 14 cs ∧ RC iv1 p cs hs t ∧ FC iv1 iv ∧ ∀ (Q : Option Value → zA → Prop), zEv sc 13 0 [.ref 14, .ref 2, .null] [] (zst p iv) Q ↔ Q none (zst p iv1) := by
  obtain ⟨iv1, q1, q2, q3⟩ := c_copyCt (sc := sc) (p := p) (v := .null) zCt_14 zCt_2 (by omega) R.1
  exact ⟨iv1, q1, R.keep (fun c hc => q2 c (by omega)), fun c hc => q2 c (by omega), q3⟩
theorem c_change {d : CS} (R : RC iv p cs hs t) (hd : isCt iv 14 d) (od : cOk d) : ∃ iv2 p2, RC iv2 p2 d (hRec hs cs) t ∧ FC iv2 iv ∧ ∀ (Q : Option Value → zA → Prop), Q none (zst p2 iv2) → zEv sc 70 0 [.ref 1] [] (zst p iv) Q := by
  obtain ⟨iv1, p1, q1, q2, q3⟩ := c_record (sc := sc) (v := .null) R.1 R.2.2.1
  have hd1 : isCt iv1 14 d := hd.keep (fun c _ _ => q2 c (by omega))
  obtain ⟨iv2, r1, r2, r3⟩ := c_copyCt (sc := sc) (p := p1) (v := .null) zCt_2 zCt_14 (by omega) hd1
  obtain ⟨w1, w3⟩ := R.rec q1 q2 r1 od (fun c hc => r2 c (by omega))
  refine ⟨iv2, p1, w1, w3, fun Q hQ => ?_⟩
  simp only [u70_0, u70_1, u70_4, u70_5, u70_8, z1o, z1r.1, z1r.2.2.1, zRef_some, z26.1]
  refine q3 _ ?_
  simp only [u70_11, u70_12, u70_15, u70_16, u70_19, u70_22, Option.toList_some, Option.toList_none, List.cons_append, List.nil_append, zRef_some, true_and, and_true, true_or, or_true, i10, i01, z1o, z1r.1, z1r.2.1, zCt_2.1, r3]
  exact hQ
theorem c_reads (R : RC iv p cs hs t) : ∃ iv1 iv2, isCt iv2 14 (pR cs t).2.2.2 ∧ cOk (pR cs t).2.2.2 ∧ iv2 90 1 = nI (pR cs t).1 ∧ ((pR cs t).1 ≠ 0 → iv2 90 0 = nI (pR cs t).2.1 ∧ iv2 90 2 = nI (pR cs t).2.2.1 - nI (pR cs t).2.1) ∧ (pR cs t).1 ≤ 3 ∧ RC iv2 p cs hs t ∧ FC iv2 iv ∧ (∀ (Q : Option Value → zA → Prop), zEv sc 13 0 [.ref 14, .ref 2, .null] [] (zst p iv) Q ↔ Q none (zst p iv1)) ∧ ∀ (Q : Option Value → zA → Prop), Q none (zst p iv2) → zEv sc 55 0 [.ref 90, .ref 14, .ref 88, .null] [] (zst p iv1) Q := by
  obtain ⟨iv1, q1, q2, q3, q4⟩ := c_draft (sc := sc) R
  obtain ⟨iv2, r1, r2, r3, r4, r5, r6⟩ := c_readInto (sc := sc) (p := p) (v := .null) q2.2.2.2.2 q1 R.2.1
  have hle := pGo_le t 80 cs 0 R.2.1 (R.mo (show 0 < 2 by omega)) (R.mo (show 1 < 2 by omega))
  exact ⟨iv1, iv2, r3, r4, r1, r2, hle.1, q2.keep (fun c hc => r5 c (by omega) (by omega)), fun c hc => by rw [r5 c (by omega) (by omega), q3 c hc], q4, r6⟩
theorem k_fault (R : RC iv p cs hs t) : OKc sc 85 [.ref 1, .int x] p iv (sFault cs t x) cs hs t := by
  unfold sFault
  by_cases g1 : 0 ≤ x ∧ x ≤ 2
  · have d1 := decide_eq_true g1
    rw [if_pos g1]
    obtain ⟨k, hk, rfl⟩ := in_nI (k := 2) (by omega) g1.1 g1.2
    obtain ⟨iv1, iv2, c1, c2, c3, c4, c5, R2, F2, m1, m2⟩ := c_reads (sc := sc) R
    revert c1 c2 c3 c4 c5
    generalize pR cs t = G
    intro c1 c2 c3 c4 c5
    refine ⟨iv2, p, R2, F2, fun Q hQ => ?_⟩
    simp only [u85_0, u85_1, u85_2, u85_3, u85_6, u85_9, u85_11, u85_12, u85_13, u85_16, u85_17, u85_20, u85_23, u85_24, u85_27, u85_28, u85_31, u85_32, u85_35, c_isIn, d1, zb_t, Option.toList_some, Option.toList_none, List.cons_append, List.nil_append, zRef_some, true_and, and_true, true_or, or_true, i10, i01, not_false_eq_true, if_true, z1o, z1r.1, z1r.2.1, z1r.2.2.2.2.2.2.2.2.1, z1r.2.2.2.2.2.2.2.2.2, zCt_14.1, m1, z88.2.2.2.2]
    refine m2 _ ?_
    simp only [u85_38, u85_39, u85_42, u85_45, Option.toList_some, Option.toList_none, List.cons_append, List.nil_append, zRef_some, true_and, and_true, true_or, or_true, i10, i01, z1o, z1r.2.2.2.2.2.2.2.2.2, z88.2.2.2.2, c3, nI_zero (show G.1 < 2 ^ 31 by omega)]
    by_cases g2 : G.1 = 0
    · rw [if_pos g2] at hQ
      rw [if_neg (fun z => z g2)]
      simp only [u85_48, u85_50]
      exact hQ
    · rw [if_neg g2] at hQ
      rw [if_pos g2]
      obtain ⟨e1, e2⟩ := c4 g2
      rcases (show k = 0 ∨ k = 1 ∨ k = 2 by omega) with rfl | rfl | rfl
      · rw [if_pos (show nI 0 = 0 from rfl)] at hQ
        rw [u85_51, show nI 0 = 0 from rfl, u85_52_0]
        simp only [u85_80, u85_81, u85_84, u85_87, Option.toList_some, Option.toList_none, List.cons_append, List.nil_append, zRef_some, true_and, and_true, true_or, or_true, i10, i01, z1o, z1r.2.2.2.2.2.2.2.2.2, z88.2.2.2.2, e1]
        exact hQ
      · rw [if_neg (by decide), if_pos (show nI 1 = 1 from rfl)] at hQ
        rw [u85_51, show nI 1 = 1 from rfl, u85_52_1]
        simp only [u85_88, u85_89, u85_92, u85_95, Option.toList_some, Option.toList_none, List.cons_append, List.nil_append, zRef_some, true_and, and_true, true_or, or_true, i10, i01, z1o, z1r.2.2.2.2.2.2.2.2.2, z88.2.2.2.2, c3]
        exact hQ
      · rw [if_neg (by decide), if_neg (by decide)] at hQ
        rw [u85_51, u85_52_d (by decide) (by decide)]
        simp only [u85_96, u85_97, u85_100, u85_103, Option.toList_some, Option.toList_none, List.cons_append, List.nil_append, zRef_some, true_and, and_true, true_or, or_true, i10, i01, z1o, z1r.2.2.2.2.2.2.2.2.2, z88.2.2.2.2, c3]
        rw [show (1 : Int32) = nI 1 from rfl, u85_104]
        simp only [nI_eq (show G.1 < 2 ^ 31 by omega) (show 1 < 2 ^ 31 by omega)]
        by_cases g3 : G.1 = 1
        · rw [if_pos g3] at hQ
          rw [if_neg (fun z => z g3)]
          simp only [u85_107, u85_108, u85_111, u85_114, u85_119, u85_117, Option.toList_some, Option.toList_none, List.cons_append, List.nil_append, zRef_some, true_and, and_true, true_or, or_true, i10, i01, z1o, z1r.2.2.2.2.2.2.2.2.2, z88.2.2.2.2, e2]
          exact hQ
        · rw [if_neg g3] at hQ
          rw [if_pos g3]
          simp only [u85_119, u85_117]
          exact hQ
  · rw [if_neg g1]
    refine ⟨iv, p, R, FC.rf, fun Q hQ => ?_⟩
    simp only [u85_0, u85_1, u85_2, u85_3, u85_6, u85_9, u85_11, c_isIn, decide_eq_false g1, zb_f, Option.toList_some, Option.toList_none, List.cons_append, List.nil_append, zRef_some, true_and, and_true, true_or, or_true, i10, i01, not_true_eq_false, if_false]
    exact hQ
theorem k_read (R : RC iv p cs hs t) : OKc sc 86 [.ref 1] p iv (sRead cs t).1 (nC cs (sRead cs t)) (nH cs hs (sRead cs t)) t := by
  unfold sRead
  obtain ⟨iv1, iv2, c1, c2, c3, c4, c5, R2, F2, m1, m2⟩ := c_reads (sc := sc) R
  revert c1 c2 c3 c4 c5
  generalize pR cs t = G
  intro c1 c2 c3 c4 c5
  have head : ∀ Q, (if G.1 = 0 then zEv sc 86 39 [.ref 1] [] (zst p iv2) Q else zEv sc 86 36 [.ref 1] [] (zst p iv2) Q) → zEv sc 86 0 [.ref 1] [] (zst p iv) Q := by
    intro Q hQ
    simp only [u86_0, u86_1, u86_4, u86_5, u86_8, u86_11, u86_12, u86_15, u86_16, u86_19, u86_20, u86_23, Option.toList_some, Option.toList_none, List.cons_append, List.nil_append, zRef_some, true_and, and_true, true_or, or_true, i10, i01, z1o, z1r.1, z1r.2.1, z1r.2.2.2.2.2.2.2.2.1, z1r.2.2.2.2.2.2.2.2.2, zCt_14.1, m1, z88.2.2.2.2]
    refine m2 _ ?_
    simp only [u86_26, u86_27, u86_30, u86_33, Option.toList_some, Option.toList_none, List.cons_append, List.nil_append, zRef_some, true_and, and_true, true_or, or_true, i10, i01, z1o, z1r.2.2.2.2.2.2.2.2.2, z88.2.2.2.2, c3, nI_zero (show G.1 < 2 ^ 31 by omega)]
    exact hQ
  by_cases g2 : G.1 = 0
  · rw [if_pos g2]
    obtain ⟨iv3, p3, R3, F3, m3⟩ := c_change (sc := sc) R2 c1 c2
    refine ⟨iv3, p3, R3, fun c hc => by rw [F3 c hc, F2 c hc], fun Q hQ => head Q ?_⟩
    rw [if_pos g2]
    simp only [u86_39, u86_40, z1o]
    refine m3 _ ?_
    simp only [u86_43, u86_44, u86_47, u86_50, Option.toList_some, Option.toList_none, List.cons_append, List.nil_append, zRef_some, true_and, and_true, true_or, or_true, i10, i01, z1o, z1r.1, zCt_2.1, c_sizeOf zCt_2 R3.1]
    exact hQ
  · rw [if_neg g2]
    refine ⟨iv2, p, R2, F2, fun Q hQ => head Q ?_⟩
    rw [if_neg g2]
    simp only [u86_36, u86_38]
    exact hQ
theorem c_play {d : CS} (hc : isCt iv 14 d) (h : rOk d) (A0 : isAL iv 76 (alL d 0)) (A1 : isAL iv 78 (alL d 1)) : ∃ iv2, (∀ d', rnd1 d = some d' → isCt iv2 14 d') ∧ (∀ c, (c < 14 ∨ 26 ≤ c) → (c < 80 ∨ 88 ≤ c) → iv2 c = iv c) ∧ ∀ (Q : Option Value → zA → Prop), Q (some (.int (zb (rnd1 d).isSome))) (zst p iv2) → zEv sc 69 0 [.ref 1, .ref 76, .ref 78] [] (zst p iv) Q := by
  have ho := h.1
  have hN := ho.2.1
  obtain ⟨o0, l0⟩ := h.2 0 (by omega)
  obtain ⟨o1, l1⟩ := h.2 1 (by omega)
  have hlt : ∀ q k, k < (alL d q).length → (alL d q).getD k 0 < 10000 := fun q k hk => by have := (alL_at hk).1; omega
  obtain ⟨iv1, a1, a2, a3⟩ := c_measure (sc := sc) (p := p) (v1 := .null) (v2 := .null) (v3 := .null) zCt_14 (by omega) hc ho (show 0 < 2 by omega)
  obtain ⟨iv2, b1, b2, b3⟩ := c_find (sc := sc) (p := p) (a := 86) (s := 0) (v1 := .null) (v2 := .null) (Or.inl rfl) ho (show mOk (oM d 0) from o1) (show isAL iv1 (aL 0) (alL d 0) from A0.keep (fun c _ _ => a2 c (by omega))) a1 (hlt 0)
  have hc2 : isCt iv2 14 d := hc.keep (fun c _ _ => by rw [b2 c (by omega), a2 c (by omega)])
  obtain ⟨iv3, c1, c2, c3⟩ := c_measure (sc := sc) (p := p) (v1 := .null) (v2 := .null) (v3 := .null) zCt_14 (by omega) hc2 ho (show 1 < 2 by omega)
  obtain ⟨iv4, d1, d2, d3⟩ := c_find (sc := sc) (p := p) (a := 87) (s := 1) (v1 := .null) (v2 := .null) (Or.inr rfl) ho (show mOk (oM d 1) from o0) (show isAL iv3 (aL 1) (alL d 1) from A1.keep (fun c _ _ => by rw [c2 c (by omega), b2 c (by omega), a2 c (by omega)])) c1 (hlt 1)
  have f4 : ∀ c, c < 80 ∨ 88 ≤ c → iv4 c = iv c := fun c h => by rw [d2 c (by omega), c2 c (by omega), b2 c (by omega), a2 c (by omega)]
  have hc4 : isCt iv4 14 d := hc.keep (fun c _ _ => f4 c (by omega))
  obtain ⟨p0, y0, w0⟩ := h.bR (show 0 < 2 by omega)
  obtain ⟨p1, y1, w1⟩ := h.bR (show 1 < 2 by omega)
  have B0 : isBR iv4 86 (bR d 0) := by
    refine isBR.keep (iv := iv2) b1 ?_
    rw [d2 86 (by omega), c2 86 (by omega)]
  have B1 : isBR iv4 87 (bR d 1) := d1
  have e0 := (B0.2 p0).1
  have e1 := (B1.2 p1).1
  rw [nI_0] at a3
  rw [show nI 1 = 1 from rfl] at c3
  have z0 := zCt_14.sd (q := 0)
  have z1 := zCt_14.sd (q := 1)
  have s0 : sB 14 0 = 16 := rfl
  have s1 : sB 14 1 = 21 := rfl
  rw [s0] at z0
  rw [s1] at z1
  have sd0 : ∀ (iv : Nat → Nat → Int32) (Q : Option Value → zA → Prop), zEv sc 14 0 [.ref 14, .int 0] [] (zst p iv) Q ↔ Q (some (.ref 16)) (zst p iv) := fun iv Q => c_side (q := 0) zCt_14 (by omega)
  have sd1 : ∀ (iv : Nat → Nat → Int32) (Q : Option Value → zA → Prop), zEv sc 14 0 [.ref 14, .int 1] [] (zst p iv) Q ↔ Q (some (.ref 21)) (zst p iv) := fun iv Q => c_side (q := 1) zCt_14 (by omega)
  obtain ⟨iv5, q1, q2, q3⟩ := c_addOne (sc := sc) (p := p) (m := 16 + 2) (v := .null) (y := (bR d 0).1) z0.2.2.2.2.2 (hc4.sd (show 0 < 2 by omega)).2.2 (by omega)
  have start : ∀ Q, (if zb (mCan (cM d 0) (bR d 0).1) = 0 then zEv sc 69 100 [.ref 1, .ref 76, .ref 78] [] (zst p iv5) Q else zEv sc 69 72 [.ref 1, .ref 76, .ref 78] [] (zst p iv5) Q) → zEv sc 69 0 [.ref 1, .ref 76, .ref 78] [] (zst p iv) Q := by
    intro Q hQ
    simp only [u69_0, u69_1, u69_4, u69_5, u69_8, u69_9, z1o, z1r.2.1, z1r.2.2.2.2.2.1, zRef_some, z80.1]
    refine a3 _ ?_
    simp only [u69_12, u69_13, u69_16, u69_17, u69_18, u69_21, Option.toList_some, Option.toList_none, List.cons_append, List.nil_append, zRef_some, true_and, and_true, true_or, or_true, i10, i01, z1o, z1r.2.2.2.2.2.1, z1r.2.2.2.2.2.2.1, z86.1]
    refine b3 _ ?_
    simp only [u69_24, u69_25, u69_28, u69_29, u69_32, u69_33, Option.toList_some, Option.toList_none, List.cons_append, List.nil_append, zRef_some, true_and, and_true, true_or, or_true, i10, i01, z1o, z1r.2.1, z1r.2.2.2.2.2.1, z80.1]
    refine c3 _ ?_
    simp only [u69_36, u69_37, u69_40, u69_41, u69_42, u69_45, Option.toList_some, Option.toList_none, List.cons_append, List.nil_append, zRef_some, true_and, and_true, true_or, or_true, i10, i01, z1o, z1r.2.2.2.2.2.1, z1r.2.2.2.2.2.2.2.1, z86.2]
    refine d3 _ ?_
    simp only [u69_48, u69_49, u69_52, u69_53, u69_56, u69_59, u69_60, u69_63, u69_66, Option.toList_some, Option.toList_none, List.cons_append, List.nil_append, zRef_some, true_and, and_true, true_or, or_true, i10, i01, z1o, z1r.2.1, z1r.2.2.2.2.2.2.1, zCt_14.1, sd0, z0.1, z0.2.2.2.2.1, z0.2.2.2.2.2.1, z86.1, e0]
    refine q3 _ ?_
    simp only [u69_69, Option.toList_some, Option.toList_none, List.cons_append, List.nil_append, zRef_some, true_and, and_true, true_or, or_true, i10, i01]
    exact hQ
  by_cases g0 : mCan (cM d 0) (bR d 0).1 = true
  · rw [if_pos g0] at q1
    have e1' : iv5 87 0 = nI (bR d 1).1 := by rw [q2 87 (by omega)]; exact e1
    have hc5 : isCt iv5 14 (setM d 0 (mSet (cM d 0) (bR d 0).1 (mOf (cM d 0) (bR d 0).1 + 1))) := setM_ct hc4 (by omega) q1 (fun c _ _ h => q2 c h)
    have m1 : isMix iv5 (21 + 2) (cM d 1) := (hc4.sd (show 1 < 2 by omega)).2.2.keep (fun c h1 h2 => q2 c (by rw [s1] at h1 h2; omega))
    obtain ⟨iv6, r1, r2, r3⟩ := c_addOne (sc := sc) (p := p) (m := 21 + 2) (v := .null) (y := (bR d 1).1) z1.2.2.2.2.2 m1 (by omega)
    have start2 : ∀ Q, (if zb (mCan (cM d 1) (bR d 1).1) = 0 then zEv sc 69 100 [.ref 1, .ref 76, .ref 78] [] (zst p iv6) Q else zEv sc 69 96 [.ref 1, .ref 76, .ref 78] [] (zst p iv6) Q) → zEv sc 69 0 [.ref 1, .ref 76, .ref 78] [] (zst p iv) Q := by
      intro Q hQ
      refine start Q ?_
      rw [g0, zb_t, if_neg (by decide)]
      simp only [u69_72, u69_73, u69_76, u69_77, u69_80, u69_83, u69_84, u69_87, u69_90, Option.toList_some, Option.toList_none, List.cons_append, List.nil_append, zRef_some, true_and, and_true, true_or, or_true, i10, i01, z1o, z1r.2.1, z1r.2.2.2.2.2.2.2.1, zCt_14.1, sd1, z1.1, z1.2.2.2.2.1, z1.2.2.2.2.2.1, z86.2, e1']
      refine r3 _ ?_
      simp only [u69_93, Option.toList_some, Option.toList_none, List.cons_append, List.nil_append, zRef_some, true_and, and_true, true_or, or_true, i10, i01]
      exact hQ
    have f6 : ∀ c, (c < 14 ∨ 26 ≤ c) → (c < 80 ∨ 88 ≤ c) → iv6 c = iv c := fun c h1 h2 => by rw [r2 c (by omega), q2 c (by omega), f4 c h2]
    by_cases g1 : mCan (cM d 1) (bR d 1).1 = true
    · rw [if_pos g1] at r1
      have hr : rnd1 d = some (setM (setM d 0 (mSet (cM d 0) (bR d 0).1 (mOf (cM d 0) (bR d 0).1 + 1))) 1 (mSet (cM d 1) (bR d 1).1 (mOf (cM d 1) (bR d 1).1 + 1))) := by
        unfold rnd1
        rw [if_pos g0, if_pos g1]
      rw [hr]
      refine ⟨iv6, fun d' e => ?_, f6, fun Q hQ => start2 Q ?_⟩
      · rw [← Option.some.inj e]
        exact setM_ct hc5 (by omega) r1 (fun c _ _ h => r2 c h)
      · rw [g1, zb_t, if_neg (by decide)]
        simp only [u69_96, u69_97, u69_101, u69_100, Option.toList_some, Option.toList_none, List.cons_append, List.nil_append, zRef_some, true_and, and_true, true_or, or_true, i10, i01]
        exact hQ
    · have hr : rnd1 d = none := by
        unfold rnd1
        rw [if_pos g0, if_neg g1]
      rw [hr]
      rw [Bool.not_eq_true] at g1
      refine ⟨iv6, fun d' e => (by cases e), f6, fun Q hQ => start2 Q ?_⟩
      rw [g1, zb_f, if_pos rfl]
      simp only [u69_101, u69_100, Option.toList_some, Option.toList_none, List.cons_append, List.nil_append, zRef_some, true_and, and_true, true_or, or_true, i10, i01]
      exact hQ
  · have hr : rnd1 d = none := by
      unfold rnd1
      rw [if_neg g0]
    rw [hr]
    rw [Bool.not_eq_true] at g0
    refine ⟨iv5, fun d' e => (by cases e), fun c h1 h2 => by rw [q2 c (by omega), f4 c h2], fun Q hQ => start Q ?_⟩
    rw [g0, zb_f, if_pos rfl]
    simp only [u69_101, u69_100, Option.toList_some, Option.toList_none, List.cons_append, List.nil_append, zRef_some, true_and, and_true, true_or, or_true, i10, i01]
    exact hQ
theorem k_round {v2 v3 v4 : Value} (R : RC iv p cs hs t) : OKc sc 71 [.ref 1, .int x, v2, v3, v4] p iv (sRound cs x).1 (nC cs (sRound cs x)) (nH cs hs (sRound cs x)) t := by
  unfold sRound
  by_cases g1 : 1 ≤ x ∧ x ≤ 20
  · have dd1 := decide_eq_true g1
    rw [if_pos g1]
    obtain ⟨n, hn1, hn, rfl⟩ := in_nI2 (l := 1) (k := 20) (by omega) (by omega) g1.1 g1.2
    rw [tn_nI (by omega)]
    by_cases g2 : (cM cs 0).length = 0 ∨ (cM cs 1).length = 0
    · rw [if_pos g2]
      refine ⟨iv, p, R, FC.rf, fun Q hQ => ?_⟩
      simp only [u71_0, u71_1, u71_2, u71_4, u71_7, u71_10, u71_12, u71_13, u71_14, u71_17, u71_20, u71_23, u71_25, c_isIn, dd1, d_lack R, decide_eq_true g2, zb_t, Option.toList_some, Option.toList_none, List.cons_append, List.nil_append, zRef_some, true_and, and_true, true_or, or_true, i10, i01, not_false_eq_true, if_true, if_false, z1o, z1r.1, zCt_2.1]
      exact hQ
    · rw [if_neg g2]
      obtain ⟨iv1, a1, a2, a3, a4⟩ := c_draft (sc := sc) R
      obtain ⟨iv2, b1, b2, b3⟩ := c_freshList (sc := sc) (p := p) (v := .null) a2.1 a2.2.1 (show 0 < 2 by omega)
      have R2 : RC iv2 p cs hs t := a2.keep (fun c hc => b2 c (by show c ≠ 76; omega) (by show c ≠ 76 + 1; omega))
      obtain ⟨iv3, c1, c2, c3⟩ := c_freshList (sc := sc) (p := p) (v := .null) R2.1 R2.2.1 (show 1 < 2 by omega)
      have R3 : RC iv3 p cs hs t := R2.keep (fun c hc => c2 c (by show c ≠ 78; omega) (by show c ≠ 78 + 1; omega))
      rw [nI_0] at b3
      rw [show nI 1 = 1 from rfl] at c3
      have b2 : ∀ c, c ≠ 76 → c ≠ 77 → iv2 c = iv1 c := b2
      have c2 : ∀ c, c ≠ 78 → c ≠ 79 → iv3 c = iv2 c := c2
      have F3 : FC iv3 iv := fun c hc => by rw [c2 c (by omega) (by omega), b2 c (by omega) (by omega), a3 c hc]
      have A0 : isAL iv3 76 (alL cs 0) := isAL.keep (iv := iv2) b1 (fun c _ _ => c2 c (by omega) (by omega))
      have A1 : isAL iv3 78 (alL cs 1) := c1
      have D3 : isCt iv3 14 cs := a1.keep (fun c _ _ => by rw [c2 c (by omega) (by omega), b2 c (by omega) (by omega)])
      have r0 : rOk cs := ⟨R.2.1, fun q hq => ⟨R.mo hq, by rcases (show q = 0 ∨ q = 1 by omega) with rfl | rfl <;> omega⟩⟩
      have start : ∀ Q, zEv sc 71 52 [.ref 1, .int (nI n), .ref 76, .ref 78, .int (nI 0)] [] (zst p iv3) Q → zEv sc 71 0 [.ref 1, .int (nI n), v2, v3, v4] [] (zst p iv) Q := by
        intro Q hQ
        simp only [u71_0, u71_1, u71_2, u71_4, u71_7, u71_10, u71_12, u71_13, u71_14, u71_17, u71_20, u71_23, u71_25, u71_26, u71_27, u71_30, u71_31, u71_34, u71_37, u71_38, u71_39, c_isIn, dd1, d_lack R, decide_eq_false g2, zb_t, zb_f, Option.toList_some, Option.toList_none, List.cons_append, List.nil_append, zRef_some, true_and, and_true, true_or, or_true, i10, i01, not_false_eq_true, if_true, if_false, z1o, z1r.1, z1r.2.1, zCt_2.1, zCt_14.1, a4]
        refine b3 _ ?_
        simp only [u71_42, u71_43, u71_44, u71_45, Option.toList_some, Option.toList_none, List.cons_append, List.nil_append, zRef_some, true_and, and_true, true_or, or_true, i10, i01, z1o]
        refine c3 _ ?_
        simp only [u71_48, u71_49, u71_50, Option.toList_some, Option.toList_none, List.cons_append, List.nil_append, zRef_some, true_and, and_true, true_or, or_true, i10, i01]
        rw [nI_0] at hQ
        exact hQ
      have loop : ∀ d k (e : CS) (iv4 : Nat → Nat → Int32), n - k = d → k ≤ n → isCt iv4 14 e → rOk e → (∀ z, alL e z = alL cs z) → (∀ c, (c < 14 ∨ 26 ≤ c) → (c < 80 ∨ 88 ≤ c) → iv4 c = iv3 c) → ∃ iv5 p5, RC iv5 p5 (nC cs (oRnd (rnd d e))) (nH cs hs (oRnd (rnd d e))) t ∧ FC iv5 iv3 ∧ ∀ (Q : Option Value → zA → Prop), Q (some (.int (oRnd (rnd d e)).1)) (zst p5 iv5) → zEv sc 71 52 [.ref 1, .int (nI n), .ref 76, .ref 78, .int (nI k)] [] (zst p iv4) Q := by
        intro d
        induction d with
        | zero =>
          intro k e iv4 hd hk he hr hal hf
          have : k = n := by omega
          subst this
          have R4 : RC iv4 p cs hs t := R3.keep (fun c hc => hf c (by omega) (by omega))
          obtain ⟨iv5, p5, R5, F5, m5⟩ := c_change (sc := sc) R4 he hr.1
          refine ⟨iv5, p5, R5, fun c hc => by rw [F5 c hc, hf c (by omega) (by omega)], fun Q hQ => ?_⟩
          rw [u71_52, u71_54, u71_55, if_pos (Int32.le_refl _)]
          simp only [u71_76, u71_77, z1o]
          refine m5 _ ?_
          simp only [u71_80, u71_81, u71_84, u71_87, Option.toList_some, Option.toList_none, List.cons_append, List.nil_append, zRef_some, true_and, and_true, true_or, or_true, i10, i01, z1o, z1r.1, zCt_2.1, c_sizeOf zCt_2 R5.1]
          exact hQ
        | succ d ih =>
          intro k e iv4 hd hk he hr hal hf
          have R4 : RC iv4 p cs hs t := R3.keep (fun c hc => hf c (by omega) (by omega))
          have B0 : isAL iv4 76 (alL e 0) := by rw [hal 0]; exact A0.keep (fun c _ _ => hf c (by omega) (by omega))
          have B1 : isAL iv4 78 (alL e 1) := by rw [hal 1]; exact A1.keep (fun c _ _ => hf c (by omega) (by omega))
          obtain ⟨iv5, p1, p2, p3⟩ := c_play (sc := sc) (p := p) he hr B0 B1
          have f5 : ∀ c, (c < 14 ∨ 26 ≤ c) → (c < 80 ∨ 88 ≤ c) → iv5 c = iv3 c := fun c h1 h2 => by rw [p2 c h1 h2, hf c h1 h2]
          have head : ∀ Q, (if ¬ zb (rnd1 e).isSome = 0 then zEv sc 71 70 [.ref 1, .int (nI n), .ref 76, .ref 78, .int (nI k)] [] (zst p iv5) Q else zEv sc 71 67 [.ref 1, .int (nI n), .ref 76, .ref 78, .int (nI k)] [] (zst p iv5) Q) → zEv sc 71 52 [.ref 1, .int (nI n), .ref 76, .ref 78, .int (nI k)] [] (zst p iv4) Q := by
            intro Q hQ
            rw [u71_52, u71_54, u71_55, if_neg (by rw [nI_leI (by omega) (by omega)]; omega)]
            simp only [u71_58, u71_59, u71_60, u71_61, z1o]
            refine p3 _ ?_
            simp only [u71_64, Option.toList_some, Option.toList_none, List.cons_append, List.nil_append, zRef_some, true_and, and_true, true_or, or_true, i10, i01]
            exact hQ
          unfold rnd
          revert p1 head
          have hr1 : ∀ d', rnd1 e = some d' → rOk d' ∧ ∀ z, alL d' z = alL e z := fun d' => rnd1_ok hr
          revert hr1
          generalize rnd1 e = O
          intro hr1 p1 head
          cases O with
          | none =>
            have R5 : RC iv5 p cs hs t := R3.keep (fun c hc => f5 c (by omega) (by omega))
            refine ⟨iv5, p, R5, fun c hc => f5 c (by omega) (by omega), fun Q hQ => head Q ?_⟩
            rw [if_neg (by decide)]
            simp only [u71_67, u71_69]
            exact hQ
          | some e1 =>
            obtain ⟨s1, s2⟩ := hr1 e1 rfl
            obtain ⟨iv6, p6, R6, F6, m6⟩ := ih (k + 1) e1 iv5 (by omega) (by omega) (p1 e1 rfl) s1 (fun z => by rw [s2 z, hal z]) f5
            refine ⟨iv6, p6, R6, F6, fun Q hQ => head Q ?_⟩
            rw [if_pos (show ¬ zb (some e1).isSome = 0 by rw [Option.isSome_some, zb_t]; decide)]
            simp only [u71_70, u71_73, nI_1]
            exact m6 Q hQ
      obtain ⟨iv5, p5, R5, F5, m5⟩ := loop n 0 cs iv3 (by omega) (by omega) D3 r0 (fun _ => rfl) (fun _ _ _ => rfl)
      exact ⟨iv5, p5, R5, fun c hc => by rw [F5 c hc, F3 c hc], fun Q hQ => start Q (m5 Q hQ)⟩
  · rw [if_neg g1]
    refine ⟨iv, p, R, FC.rf, fun Q hQ => ?_⟩
    simp only [u71_0, u71_1, u71_2, u71_4, u71_7, u71_10, u71_12, c_isIn, decide_eq_false g1, zb_f, Option.toList_some, Option.toList_none, List.cons_append, List.nil_append, zRef_some, true_and, and_true, true_or, or_true, i10, i01, not_true_eq_false, if_false]
    exact hQ
theorem k_count (R : RC iv p cs hs t) : OKc sc 81 [.ref 1, .int x] p iv (sCount cs hs.length t.length x) cs hs t := by
  unfold sCount
  have hN := R.2.1.2.1
  have hN2 := R.2.1.1
  have q19 : (19 : Int32) + nI (cN cs) = nI (19 + cN cs) := nI_add 19 (cN cs)
  have q29 : (29 : Int32) + nI (cN cs) = nI (29 + cN cs) := nI_add 29 (cN cs)
  have q39 : (39 : Int32) + nI (cN cs) = nI (39 + cN cs) := nI_add 39 (cN cs)
  refine ⟨iv, p, R, FC.rf, fun Q hQ => ?_⟩
  have z0 := zCt_2.2.2.2.2.2.2.1
  have z1 := zCt_2.2.2.2.2.2.2.2
  have b0 := R.1.2.2.2.1
  have b1 := R.1.2.2.2.2
  have sd0 : ∀ (iv : Nat → Nat → Int32) (Q : Option Value → zA → Prop), zEv sc 14 0 [.ref 2, .int 0] [] (zst p iv) Q ↔ Q (some (.ref 4)) (zst p iv) := fun iv Q => c_side (q := 0) zCt_2 (by omega)
  have sd1 : ∀ (iv : Nat → Nat → Int32) (Q : Option Value → zA → Prop), zEv sc 14 0 [.ref 2, .int 1] [] (zst p iv) Q ↔ Q (some (.ref 9)) (zst p iv) := fun iv Q => c_side (q := 1) zCt_2 (by omega)
  by_cases g1 : 20 ≤ x ∧ x ≤ 19 + nI (cN cs)
  · have d1 := decide_eq_true g1
    rw [if_pos g1] at hQ
    rw [q19] at g1
    obtain ⟨j, hj1, hj2, rfl⟩ := in_nI2 (l := 20) (k := 19 + cN cs) (by omega) (by omega) g1.1 g1.2
    rw [tn_nI (by omega)] at hQ
    have e : nI j - 20 = nI (j - 20) := by rw [show (20 : Int32) = nI 20 from rfl, pk_sub (by omega)]
    simp only [u81_0, u81_1, u81_3, u81_5, u81_6, u81_9, u81_12, u81_13, u81_16, u81_19, u81_20, u81_23, u81_26, u81_27, u81_29, u81_30, u81_31, c_isIn, R.1.1, d1, zb_t, Option.toList_some, Option.toList_none, List.cons_append, List.nil_append, zRef_some, true_and, and_true, true_or, or_true, i10, i01, if_false, z1o, z1r.1, zCt_2.1, zCt_2.2.1, zCt_2.2.2.1, zCt_2.2.2.2.1, e, nI_clamp (show j - 20 < 2 ^ 31 by omega), vp_in_nI (show j - 20 < 4 by omega) (by omega), R.1.2.2.1 (j - 20) (by omega)]
    exact hQ
  · rw [if_neg g1] at hQ
    have d1 := decide_eq_false g1
    by_cases g2 : 30 ≤ x ∧ x ≤ 29 + nI (cN cs)
    · have d2 := decide_eq_true g2
      rw [if_pos g2] at hQ
      rw [q29] at g2
      obtain ⟨j, hj1, hj2, rfl⟩ := in_nI2 (l := 30) (k := 29 + cN cs) (by omega) (by omega) g2.1 g2.2
      rw [tn_nI (by omega)] at hQ
      have e : nI j - 30 = nI (j - 30) := by rw [show (30 : Int32) = nI 30 from rfl, pk_sub (by omega)]
      simp only [u81_0, u81_1, u81_3, u81_5, u81_6, u81_9, u81_12, u81_13, u81_16, u81_32, u81_33, u81_35, u81_37, u81_38, u81_41, u81_44, u81_45, u81_48, u81_51, u81_52, u81_55, u81_56, u81_59, u81_62, u81_63, u81_65, u81_66, u81_67, c_isIn, R.1.1, d1, d2, zb_t, zb_f, Option.toList_some, Option.toList_none, List.cons_append, List.nil_append, zRef_some, true_and, and_true, true_or, or_true, i10, i01, if_true, if_false, z1o, z1r.1, zCt_2.1, sd0, z0.1, z0.2.1, z0.2.2.1, z0.2.2.2.1, e, nI_clamp (show j - 30 < 2 ^ 31 by omega), vp_in_nI (show j - 30 < 4 by omega) (by omega), b0.2.1 (j - 30) (by omega)]
      exact hQ
    · rw [if_neg g2] at hQ
      have d2 := decide_eq_false g2
      by_cases g3 : 40 ≤ x ∧ x ≤ 39 + nI (cN cs)
      · have d3 := decide_eq_true g3
        rw [if_pos g3] at hQ
        rw [q39] at g3
        obtain ⟨j, hj1, hj2, rfl⟩ := in_nI2 (l := 40) (k := 39 + cN cs) (by omega) (by omega) g3.1 g3.2
        rw [tn_nI (by omega)] at hQ
        have e : nI j - 40 = nI (j - 40) := by rw [show (40 : Int32) = nI 40 from rfl, pk_sub (by omega)]
        simp only [u81_0, u81_1, u81_3, u81_5, u81_6, u81_9, u81_12, u81_13, u81_16, u81_32, u81_33, u81_35, u81_37, u81_38, u81_41, u81_44, u81_45, u81_48, u81_68, u81_69, u81_71, u81_73, u81_74, u81_77, u81_80, u81_81, u81_84, u81_87, u81_88, u81_91, u81_92, u81_95, u81_98, u81_99, u81_101, u81_102, u81_103, c_isIn, R.1.1, d1, d2, d3, zb_t, zb_f, Option.toList_some, Option.toList_none, List.cons_append, List.nil_append, zRef_some, true_and, and_true, true_or, or_true, i10, i01, if_true, if_false, z1o, z1r.1, zCt_2.1, sd1, z1.1, z1.2.1, z1.2.2.1, z1.2.2.2.1, e, nI_clamp (show j - 40 < 2 ^ 31 by omega), vp_in_nI (show j - 40 < 4 by omega) (by omega), b1.2.1 (j - 40) (by omega)]
        exact hQ
      · rw [if_neg g3] at hQ
        have d3 := decide_eq_false g3
        have head : zEv sc 81 0 [.ref 1, .int x] [] (zst p iv) Q ↔ zEv sc 81 105 [.ref 1, .int x] [.int x] (zst p iv) Q := by
          simp only [u81_0, u81_1, u81_3, u81_5, u81_6, u81_9, u81_12, u81_13, u81_16, u81_32, u81_33, u81_35, u81_37, u81_38, u81_41, u81_44, u81_45, u81_48, u81_68, u81_69, u81_71, u81_73, u81_74, u81_77, u81_80, u81_81, u81_84, u81_104, c_isIn, R.1.1, d1, d2, d3, zb_f, Option.toList_some, Option.toList_none, List.cons_append, List.nil_append, zRef_some, true_and, and_true, true_or, or_true, i10, i01, if_true, z1o, z1r.1, zCt_2.1]
        rw [head]
        by_cases g4 : 0 ≤ x ∧ x ≤ 10
        · rw [if_pos g4] at hQ
          obtain ⟨j, hj, rfl⟩ := in_nI (k := 10) (by omega) g4.1 g4.2
          rw [tn_nI (by omega)] at hQ
          have ht := R.2.2.2.2
          have hH := R.2.2.1
          have m0 := z0.2.2.2.2.2
          have m1 := z1.2.2.2.2.2
          rcases (show j = 0 ∨ j = 1 ∨ j = 2 ∨ j = 3 ∨ j = 4 ∨ j = 5 ∨ j = 6 ∨ j = 7 ∨ j = 8 ∨ j = 9 ∨ j = 10 by omega) with rfl | rfl | rfl | rfl | rfl | rfl | rfl | rfl | rfl | rfl | rfl
          · rw [show nI 0 = 0 from rfl, u81_105_0]
            simp only [u81_164, u81_165, u81_168, u81_171, zRef_some, z1o, z1r.1, zCt_2.1, R.1.1]
            exact hQ
          · rw [show nI 1 = 1 from rfl, u81_105_1]
            simp only [u81_172, u81_173, u81_176, u81_179, Option.toList_some, Option.toList_none, List.cons_append, List.nil_append, zRef_some, true_and, and_true, true_or, or_true, i10, i01, z1o, z1r.1, zCt_2.1, c_sumOfValues zCt_2 R.1 R.2.1]
            exact hQ
          · rw [show nI 2 = 2 from rfl, u81_105_2]
            simp only [u81_180, u81_181, u81_184, u81_187, zRef_some, z1o, z1r.1, zCt_2.1, R.1.2.1]
            exact hQ
          · rw [show nI 3 = 3 from rfl, u81_105_3]
            simp only [u81_188, u81_189, u81_192, u81_193, u81_194, u81_195, u81_198, u81_201, Option.toList_some, Option.toList_none, List.cons_append, List.nil_append, zRef_some, true_and, and_true, true_or, or_true, i10, i01, z1o, z1r.1, zCt_2.1, show (3 : Int32) - 3 = 0 from rfl, sd0, z0.1, b0.1]
            exact hQ
          · rw [show nI 4 = 4 from rfl, u81_105_4]
            simp only [u81_188, u81_189, u81_192, u81_193, u81_194, u81_195, u81_198, u81_201, Option.toList_some, Option.toList_none, List.cons_append, List.nil_append, zRef_some, true_and, and_true, true_or, or_true, i10, i01, z1o, z1r.1, zCt_2.1, show (4 : Int32) - 3 = 1 from rfl, sd1, z1.1, b1.1]
            exact hQ
          · rw [show nI 5 = 5 from rfl, u81_105_5]
            simp only [u81_202, u81_203, u81_206, u81_207, u81_208, u81_209, u81_212, u81_215, u81_218, Option.toList_some, Option.toList_none, List.cons_append, List.nil_append, zRef_some, true_and, and_true, true_or, or_true, i10, i01, z1o, z1r.1, zCt_2.1, show (5 : Int32) - 5 = 0 from rfl, sd0, z0.1, z0.2.2.2.2.1, m0.1, b0.2.2.2.1]
            exact hQ
          · rw [show nI 6 = 6 from rfl, u81_105_6]
            simp only [u81_202, u81_203, u81_206, u81_207, u81_208, u81_209, u81_212, u81_215, u81_218, Option.toList_some, Option.toList_none, List.cons_append, List.nil_append, zRef_some, true_and, and_true, true_or, or_true, i10, i01, z1o, z1r.1, zCt_2.1, show (6 : Int32) - 5 = 1 from rfl, sd1, z1.1, z1.2.2.2.2.1, m1.1, b1.2.2.2.1]
            exact hQ
          · rw [show nI 7 = 7 from rfl, u81_105_7]
            simp only [u81_219, u81_220, u81_223, u81_224, u81_226, u81_227, u81_230, u81_233, u81_236, Option.toList_some, Option.toList_none, List.cons_append, List.nil_append, zRef_some, true_and, and_true, true_or, or_true, i10, i01, z1o, z1r.1, zCt_2.1, show (7 : Int32) - 7 = 0 from rfl, sd0, z0.1, z0.2.2.2.2.1, m0.1, c_weight m0 b0.2.2]
            exact hQ
          · rw [show nI 8 = 8 from rfl, u81_105_8]
            simp only [u81_219, u81_220, u81_223, u81_224, u81_226, u81_227, u81_230, u81_233, u81_236, Option.toList_some, Option.toList_none, List.cons_append, List.nil_append, zRef_some, true_and, and_true, true_or, or_true, i10, i01, z1o, z1r.1, zCt_2.1, show (8 : Int32) - 7 = 1 from rfl, sd1, z1.1, z1.2.2.2.2.1, m1.1, c_weight m1 b1.2.2]
            exact hQ
          · rw [show nI 9 = 9 from rfl, u81_105_9]
            simp only [u81_237, u81_238, u81_241, u81_244, zRef_some, z1o, z1r.2.2.1, z26.1, hH.2.1]
            exact hQ
          · rw [show nI 10 = 10 from rfl, u81_105_10]
            simp only [u81_245, u81_246, u81_249, u81_252, zRef_some, z1o, z1r.2.2.2.2.2.2.2.2.1, z88.1, ht.1]
            exact hQ
        · rw [if_neg g4] at hQ
          have g5 : x.toInt < 0 ∨ 10 < x.toInt := by
            rw [Int32.le_iff_toInt_le, Int32.le_iff_toInt_le] at g4
            have e0 : (0 : Int32).toInt = 0 := rfl
            have e10 : (10 : Int32).toInt = 10 := rfl
            rw [e0, e10] at g4
            omega
          rw [u81_105_d g5]
          simp only [u81_253, u81_255]
          exact hQ
end ZC5
