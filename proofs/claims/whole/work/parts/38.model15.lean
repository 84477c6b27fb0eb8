/-! ===== FieldMixturesModel: all parts ===== -/
section ZMF
variable {sc : Nat × (Nat → Int32)} {Q : Option Value → zA → Prop} {h : zA} {p : Nat → Option Nat} {iv : Nat → Nat → Int32} {cs d : CS} {hs : List CS} {t : List Nat} {x y z w lo hi : Int32} {q k i n m : Nat}
/-- the reader's fields and the contest's row change, no other -/
def dM (iv2 iv : Nat → Nat → Int32) : Prop := (∀ c, c ≠ 91 → c ≠ 92 → iv2 c = iv c) ∧ ∀ g, g < 10 → iv2 91 g = iv 91 g
theorem dM.tr {a b c : Nat → Nat → Int32} (h1 : dM a b) (h2 : dM b c) : dM a c := ⟨fun x hx hy => (h1.1 x hx hy).trans (h2.1 x hx hy), fun g hg => (h1.2 g hg).trans (h2.2 g hg)⟩
theorem rM.dm {iv2 : Nat → Nat → Int32} (h : rM iv2 iv) : dM iv2 iv := ⟨fun c hc _ => h.1 c hc, h.2⟩
theorem dM.tp {iv2 : Nat → Nat → Int32} (h : dM iv2 iv) (T : tPt iv t) : tPt iv2 t := T.keep (h.2 5 (by omega)) (h.1 95 (by omega) (by omega))
theorem dM.w92 {iv2 : Nat → Nat → Int32} (e : ∀ c, c ≠ 92 → iv2 c = iv c) : dM iv2 iv := ⟨fun c _ hc => e c hc, fun g _ => by rw [e 91 (by omega)]⟩
theorem dp_104 {r : Nat} {iv1 : Nat → Nat → Int32} (hr : r < 10) (e : iv1 91 12 = nI r) : zEv sc 149 104 [.ref 91, .int (nI i)] [] (zst p iv1) Q ↔ (if r = 0 then zEv sc 149 5 [.ref 91, .int (nI i)] [] (zst p iv1) Q else Q (some (.int (nI i))) (zst p iv1)) := by
  simp only [u149_104, u149_105, z91.1, e]
  rw [u149_108]
  by_cases g : r = 0
  · subst g
    rw [if_pos (by decide), if_pos rfl]
    simp only [u149_113]
  · rw [if_neg (nI_nle (by omega) (by omega)), if_neg g]
    simp only [u149_111, u149_112]
theorem m_step (V : isV (iv 92) cs) (o : vOk cs) (T : tPt iv t) (ha : iv 91 10 = nI i) (hi : i < 400) : ∃ iv2, isV (iv2 92) (pSt cs t i).2.2 ∧ iv2 91 10 = nI (pSt cs t i).2.1 ∧ iv2 91 12 = nI (pSt cs t i).1 ∧ dM iv2 iv ∧ ∀ (Q : Option Value → zA → Prop) (v : Value), zEv sc 149 104 [.ref 91, .int (nI i)] [] (zst p iv2) Q → zEv sc 149 16 [.ref 91, v] [] (zst p iv) Q := by
  have hb := frm_b t (cN cs) i o.1.2.1
  obtain ⟨iv1, g1, g2, g3, g4, g5⟩ := m_readPart (sc := sc) (p := p) V o.1.1 o.1.2.1 T ha hi
  have V1 : isV (iv1 92) cs := by rw [g4.1 92 (by omega)]; exact V
  unfold pSt
  obtain ⟨F, hF⟩ : ∃ F, F = frm t (cN cs) i := ⟨_, rfl⟩
  rw [← hF] at g1 g2 g3 hb ⊢
  have head : ∀ Q v, (if ¬ zb F.1 = 0 then zEv sc 149 37 [.ref 91, .int (nI i)] [.ref 91] (zst p iv1) Q else zEv sc 149 33 [.ref 91, .int (nI i)] [.ref 91] (zst p iv1) Q) → zEv sc 149 16 [.ref 91, v] [] (zst p iv) Q := by
    intro Q v hQ
    simp only [u149_16, u149_17, u149_20, u149_21, u149_22, z91.1, ha]
    refine g5 _ ?_
    simp only [u149_25, u149_26, u149_27, u149_30, Option.toList_some, Option.toList_none, List.cons_append, List.nil_append, zRef_some, true_and, and_true, true_or, or_true, i10, i01, z91.1, g2]
    exact hQ
  -- a reason that is not 0, stored
  have bad : ∀ (r : Nat) Q, 0 < r → r < 10 → zEv sc 149 104 [.ref 91, .int (nI i)] [] (zst p (w2 iv1 91 12 (nI r))) Q → zEv sc 149 64 [.ref 91, .int (nI i)] [.int (nI r), .ref 91] (zst p iv1) Q := by
    intro r Q h0 h1 hQ
    simp only [u149_64, u149_67, u149_68, z91.1, w2_eq]
    rw [u149_71, if_pos (nI_ne0 h0 (by omega))]
    exact hQ
  have kb : ∀ r : Nat, dM (w2 iv1 91 12 (nI r)) iv := fun r => rM.dm ((rM.wr (by omega)).tr g4)
  have vb : ∀ r : Nat, isV ((w2 iv1 91 12 (nI r)) 92) cs := fun r => by rw [w2_c (by omega)]; exact V1
  have ab : ∀ r : Nat, (w2 iv1 91 12 (nI r)) 91 10 = nI F.2.1 := fun r => by rw [w2_g (by omega)]; exact g1
  by_cases e0 : F.1 = false
  · rw [if_pos e0]
    refine ⟨w2 iv1 91 12 (nI 1), vb 1, ab 1, w2_eq, kb 1, fun Q v hQ => head Q v ?_⟩
    rw [e0, if_neg (show ¬ ¬ zb false = 0 from fun z => z rfl), u149_33, u149_34]
    exact bad 1 Q (by omega) (by omega) hQ
  · have e0' : F.1 = true := by rw [Bool.not_eq_false] at e0; exact e0
    obtain ⟨b1, b2, b3, b4, b5⟩ := hb.2.2 e0'
    obtain ⟨e3, e4, e5⟩ := g3 e0'
    rw [if_neg e0]
    have isal : ∀ Q, zEv sc 96 0 [.ref 91, .int (nI F.2.2.1), .int (nI F.2.2.2.1), .null, .null, .null, .null, .null] [] (zst p iv1) Q ↔ Q (some (.int (zb (alw (cN cs) (cB cs F.2.2.1) F.2.2.2.1 (cR cs F.2.2.1))))) (zst p iv1) := fun Q => by
      rw [m_isAlloc V1 o.1.w b3]
      unfold isA
      rw [alwI_n (by omega)]
    by_cases e1 : F.2.2.2.2 = 0 ∨ alw (cN cs) (cB cs F.2.2.1) F.2.2.2.1 (cR cs F.2.2.1) = false
    · rw [if_pos e1]
      refine ⟨w2 iv1 91 12 (nI 2), vb 2, ab 2, w2_eq, kb 2, fun Q v hQ => head Q v ?_⟩
      have hfin : zEv sc 149 59 [.ref 91, .int (nI i)] [.ref 91] (zst p iv1) Q := by
        rw [u149_59, u149_60]
        exact bad 2 Q (by omega) (by omega) hQ
      rw [e0', if_pos (show ¬ zb true = 0 by decide)]
      simp only [u149_37, u149_38, z91.1, e5]
      rw [u149_41]
      by_cases e2 : F.2.2.2.2 = 0
      · rw [e2, if_pos (show nI 0 = 0 from rfl)]; exact hfin
      · rw [if_neg (nI_ne0 (by omega) (by omega))]
        simp only [u149_44, u149_45, u149_46, u149_49, u149_50, u149_53, Option.toList_some, Option.toList_none, List.cons_append, List.nil_append, zRef_some, true_and, and_true, true_or, or_true, i10, i01, z91.1, e3, e4, isal, e1.resolve_left e2]
        rw [u149_56, if_neg (show ¬ ¬ zb false = 0 from fun z => z rfl)]
        exact hfin
    · have e2 : ¬ F.2.2.2.2 = 0 := fun z => e1 (Or.inl z)
      have e6 : alw (cN cs) (cB cs F.2.2.1) F.2.2.2.1 (cR cs F.2.2.1) = true := by
        have : ¬ (alw (cN cs) (cB cs F.2.2.1) F.2.2.2.1 (cR cs F.2.2.1) = false) := fun z => e1 (Or.inr z)
        rw [Bool.not_eq_false] at this
        exact this
      rw [if_neg e1]
      obtain ⟨iv2, hiv2⟩ : ∃ iv2, iv2 = w2 iv1 91 12 (nI 0) := ⟨_, rfl⟩
      have V2 : isV (iv2 92) cs := by rw [hiv2]; exact vb 0
      have E3 : iv2 91 13 = nI F.2.2.1 := by rw [hiv2, w2_g (by omega)]; exact e3
      have E4 : iv2 91 14 = nI F.2.2.2.1 := by rw [hiv2, w2_g (by omega)]; exact e4
      have E5 : iv2 91 15 = nI F.2.2.2.2 := by rw [hiv2, w2_g (by omega)]; exact e5
      have A2 : iv2 91 10 = nI F.2.1 := by rw [hiv2]; exact ab 0
      have K2 : dM iv2 iv := by rw [hiv2]; exact kb 0
      have head2 : ∀ Q v, zEv sc 108 0 [.ref 91, .int (nI F.2.2.1), .int (nI F.2.2.2.1), .int (nI F.2.2.2.2), .null, .null, .null, .null] [] (zst p iv2) (fun r h9 => zEv sc 149 91 [.ref 91, .int (nI i)] (r.toList ++ [.ref 91]) h9 Q) → zEv sc 149 16 [.ref 91, v] [] (zst p iv) Q := by
        intro Q v hQ
        refine head Q v ?_
        rw [e0', if_pos (show ¬ zb true = 0 by decide)]
        simp only [u149_37, u149_38, z91.1, e5]
        rw [u149_41, if_neg (nI_ne0 (by omega) (by omega))]
        simp only [u149_44, u149_45, u149_46, u149_49, u149_50, u149_53, Option.toList_some, Option.toList_none, List.cons_append, List.nil_append, zRef_some, true_and, and_true, true_or, or_true, i10, i01, z91.1, e3, e4, isal, e6]
        rw [u149_56, if_pos (show ¬ zb true = 0 by decide)]
        have e12 : (w2 iv1 91 12 0) 91 12 = 0 := w2_eq
        simp only [u149_64, u149_67, u149_68, u149_63, z91.1, e12]
        rw [u149_71, if_neg (fun z => z rfl)]
        rw [nI_0] at hiv2
        rw [← hiv2]
        simp only [u149_74, u149_75, u149_76, u149_77, u149_80, u149_81, u149_84, u149_85, u149_88, Option.toList_some, Option.toList_none, List.cons_append, List.nil_append, zRef_some, true_and, and_true, true_or, or_true, i10, i01, z91.1, E3, E4, E5]
        exact hQ
      by_cases e7 : (cM cs F.2.2.1).length < 12 ∨ mIn (cM cs F.2.2.1) F.2.2.2.1 = true
      · rw [if_neg (fun z => z e7)]
        obtain ⟨iv3, q1, q2, q3⟩ := m_lays (sc := sc) (p := p) (w := F.2.2.2.2) (v4 := .null) (v5 := .null) (v6 := .null) (v7 := .null) V2 o b3 b4 e7
        have hml := (mOf_ok (x := F.2.2.2.1) (o.2 _ b3)).1
        have hne : ¬ nI (mOf (cM cs F.2.2.1) F.2.2.2.1) = -1000003 := by
          intro z
          have h0 := nI_pos' (show mOf (cM cs F.2.2.1) F.2.2.2.1 < 2 ^ 31 by omega)
          rw [z] at h0
          exact absurd h0 (by decide)
        have k3 : dM (w2 iv3 91 12 0) iv3 := rM.dm (rM.wr (by omega))
        refine ⟨w2 iv3 91 12 0, by rw [w2_c (by omega)]; exact q1, by rw [w2_g (by omega), q2 91 (by omega)]; exact A2, w2_eq, k3.tr ((dM.w92 q2).tr K2), fun Q v hQ => head2 Q v (q3 _ ?_)⟩
        simp only [u149_91, Option.toList_some, Option.toList_none, List.cons_append, List.nil_append, zRef_some, true_and, and_true, true_or, or_true, i10, i01]
        rw [u149_93, if_pos hne]
        simp only [u149_101, u149_100, z91.1]
        exact hQ
      · rw [if_pos e7]
        refine ⟨w2 iv2 91 12 (nI 3), by rw [w2_c (by omega)]; exact V2, by rw [w2_g (by omega)]; exact A2, w2_eq, (rM.dm (rM.wr (by omega))).tr K2, fun Q v hQ => head2 Q v ?_⟩
        rw [m_laysNo V2 o b3 b4 e7]
        simp only [u149_91, Option.toList_some, Option.toList_none, List.cons_append, List.nil_append, zRef_some, true_and, and_true, true_or, or_true, i10, i01]
        rw [u149_93, if_neg (fun z => z rfl)]
        simp only [u149_96, u149_97, u149_101, z91.1]
        exact hQ
theorem pSt_v (o : vOk cs) : vOk (pSt cs t i).2.2 := by
  obtain ⟨h1, h2, h3⟩ := pSt_ok (t := t) (i := i) o.1 (o.2 0 (by omega)) (o.2 1 (by omega))
  exact ⟨h1, fun q hq => by rcases (show q = 0 ∨ q = 1 by omega) with rfl | rfl; exact h2; exact h3⟩
def dAns (R : Nat × Nat × Nat × CS) : Int32 := if R.1 = 0 then -1 else nI R.2.1
theorem m_does {v1 : Value} (V : isV (iv 92) cs) (o : vOk cs) (T : tPt iv t) : ∃ iv2, isV (iv2 92) (pR cs t).2.2.2 ∧ vOk (pR cs t).2.2.2 ∧ ((pR cs t).1 ≠ 0 → iv2 91 12 = nI (pR cs t).1 ∧ iv2 91 10 = nI (pR cs t).2.2.1) ∧ dM iv2 iv ∧ ∀ (Q : Option Value → zA → Prop), Q (some (.int (dAns (pR cs t)))) (zst p iv2) → zEv sc 149 0 [.ref 91, v1] [] (zst p iv) Q := by
  have hl := T.2.1
  have loop : ∀ n j (c : CS) (iv1 : Nat → Nat → Int32) (v : Value), t.length ≤ j + n → j ≤ 100 → isV (iv1 92) c → vOk c → dM iv1 iv → iv1 91 10 = nI j → ∃ iv2, isV (iv2 92) (pGo t n c j).2.2.2 ∧ vOk (pGo t n c j).2.2.2 ∧ ((pGo t n c j).1 ≠ 0 → iv2 91 12 = nI (pGo t n c j).1 ∧ iv2 91 10 = nI (pGo t n c j).2.2.1) ∧ dM iv2 iv ∧ ∀ (Q : Option Value → zA → Prop), Q (some (.int (dAns (pGo t n c j)))) (zst p iv2) → zEv sc 149 5 [.ref 91, v] [] (zst p iv1) Q := by
    intro n
    have stop : ∀ j (iv1 : Nat → Nat → Int32) (v : Value), t.length ≤ j → j ≤ 100 → dM iv1 iv → iv1 91 10 = nI j → ∀ (Q : Option Value → zA → Prop), Q (some (.int (-1))) (zst p iv1) → zEv sc 149 5 [.ref 91, v] [] (zst p iv1) Q := by
      intro j iv1 v h1 h2 h3 h4 Q hQ
      have e5 := (h3.tp T).1
      simp only [u149_5, u149_6, u149_9, u149_10, z91.1, h4, e5]
      rw [u149_13, if_pos (by rw [nI_leI (by omega) (by omega)]; omega)]
      simp only [u149_116, u149_117]
      exact hQ
    induction n with
    | zero =>
      intro j c iv1 v hj hj2 V1 o1 K1 a1
      exact ⟨iv1, V1, o1, fun z => absurd rfl z, K1, fun Q hQ => stop j iv1 v (by omega) hj2 K1 a1 Q hQ⟩
    | succ n ih =>
      intro j c iv1 v hj hj2 V1 o1 K1 a1
      unfold pGo
      by_cases h1 : j < t.length
      · rw [if_pos h1]
        have e5 := (K1.tp T).1
        obtain ⟨iv2, g1, g2, g3, g4, g5⟩ := m_step (sc := sc) (p := p) V1 o1 (K1.tp T) a1 (by omega)
        have hb := pSt_b (t := t) (i := j) (cs := c) o1.1.2.1
        have ov := pSt_v (t := t) (i := j) o1
        obtain ⟨S, hS⟩ : ∃ S, S = pSt c t j := ⟨_, rfl⟩
        rw [← hS] at g1 g2 g3 hb ov ⊢
        have K2 := g4.tr K1
        have head : ∀ Q, (if S.1 = 0 then zEv sc 149 5 [.ref 91, .int (nI j)] [] (zst p iv2) Q else Q (some (.int (nI j))) (zst p iv2)) → zEv sc 149 5 [.ref 91, v] [] (zst p iv1) Q := by
          intro Q hQ
          simp only [u149_5, u149_6, u149_9, u149_10, z91.1, a1, e5]
          rw [u149_13, if_neg (by rw [nI_leI (by omega) (by omega)]; omega)]
          refine g5 Q v ?_
          rw [dp_104 (show S.1 < 10 by omega) g3]
          exact hQ
        by_cases h2 : S.1 = 0
        · rw [if_pos h2]
          have hb2 := hb.2.2.1 h2
          obtain ⟨iv3, q1, q2, q3, q4, q5⟩ := ih S.2.1 S.2.2 iv2 (.int (nI j)) (by omega) (by omega) g1 ov K2 g2
          refine ⟨iv3, q1, q2, q3, q4, fun Q hQ => head Q ?_⟩
          rw [if_pos h2]
          exact q5 Q hQ
        · rw [if_neg h2]
          refine ⟨iv2, g1, ov, fun _ => ⟨g3, g2⟩, K2, fun Q hQ => head Q ?_⟩
          rw [if_neg h2]
          have hQ : Q (some (.int (if S.1 = 0 then -1 else nI j))) (zst p iv2) := hQ
          rw [if_neg h2] at hQ
          exact hQ
      · rw [if_neg h1]
        exact ⟨iv1, V1, o1, fun z => absurd rfl z, K1, fun Q hQ => stop j iv1 v (by omega) hj2 K1 a1 Q hQ⟩
  have k1 : dM (w2 iv 91 10 0) iv := rM.dm (rM.wr (by omega))
  obtain ⟨iv2, g1, g2, g3, g4, g5⟩ := loop 80 0 cs (w2 iv 91 10 0) v1 (by omega) (by omega) (by rw [w2_c (by omega)]; exact V) o k1 (by rw [w2_eq]; rfl)
  refine ⟨iv2, g1, g2, g3, g4, fun Q hQ => ?_⟩
  simp only [u149_0, u149_1, u149_2, z91.1]
  exact g5 Q hQ
theorem WM.dm {iv2 : Nat → Nat → Int32} (W : WM iv cs hs t) (K : dM iv2 iv) : WM iv2 cs hs t := W.keep (K.2 3 (by omega)) (K.2 5 (by omega)) (fun c hc => K.1 c (by omega) (by omega))
theorem M_read (R : RM iv cs hs t) : OKm sc 151 [.ref 91] p iv (sRead cs t).1 (nC cs (sRead cs t)) (nH cs hs (sRead cs t)) t := by
  obtain ⟨W, V, F⟩ := R.begin
  have o := R.2.1
  obtain ⟨iv1, g1, g2, g3, g4, g5⟩ := m_does (sc := sc) (p := p) (v1 := .null) V o W.2.2.2
  have hle := pGo_le t 80 cs 0 o.1 (o.2 0 (by omega)) (o.2 1 (by omega))
  have W1 := W.dm g4
  have F1 : FM iv1 iv := fun c hc => by rw [g4.1 c (by omega) (by omega), F c hc]
  unfold sRead
  have hle2 : (pR cs t).1 ≠ 0 → (pR cs t).2.1 < 80 := fun z => by have := (hle.2 z).1; have := W.2.2.2.2.1; show (pGo t 80 cs 0).2.1 < 80; omega
  revert g1 g2 g3 g5 hle2
  generalize pR cs t = G
  intro g1 g2 g3 g5 hle2
  have head : ∀ Q, (if dAns G < 0 then zEv sc 151 12 [.ref 91] [.ref 91] (zst p iv1) Q else zEv sc 151 26 [.ref 91] [.ref 91] (zst p iv1) Q) → zEv sc 151 0 [.ref 91] [] (zst p iv) Q := by
    intro Q hQ
    simp only [u151_0, u151_1, u151_4, u151_5, u151_6, Option.toList_some, Option.toList_none, List.cons_append, List.nil_append, zRef_some, true_and, and_true, true_or, or_true, i10, i01, z91.1, m_begins]
    refine g5 _ ?_
    simp only [u151_9, Option.toList_some, Option.toList_none, List.cons_append, List.nil_append, zRef_some, true_and, and_true, true_or, or_true, i10, i01]
    by_cases e : dAns G < 0
    · rw [if_pos e] at hQ
      rw [if_neg (by rw [← ii_lt]; exact e)]
      exact hQ
    · rw [if_neg e] at hQ
      rw [if_pos (by rw [ii_lt] at e; exact Decidable.of_not_not e)]
      exact hQ
  by_cases e : G.1 = 0
  · rw [if_pos e]
    have ea : dAns G = -1 := by unfold dAns; rw [if_pos e]
    rw [ea] at head
    have l0 := (g2.2 0 (by omega)).1
    have l1 := (g2.2 1 (by omega)).1
    obtain ⟨iv2, q1, q2, q3⟩ := m_acted (sc := sc) (p := p) (n := (cM G.2.2.2 0).length + (cM G.2.2.2 1).length) (v := .null) W1 g1 g2 (by omega)
    refine ⟨iv2, q1, fun c hc => by rw [q2 c hc, F1 c hc], fun Q hQ => head Q ?_⟩
    rw [if_pos (by decide)]
    simp only [u151_12, u151_13, u151_14, u151_17, u151_18, u151_19, u151_22, u151_23, u151_28, Option.toList_some, Option.toList_none, List.cons_append, List.nil_append, zRef_some, true_and, and_true, true_or, or_true, i10, i01, z91.1, mx_0 g1, mx_1 g1, nI_add]
    refine q3 _ ?_
    simp only [u151_31, Option.toList_some, Option.toList_none, List.cons_append, List.nil_append, zRef_some, true_and, and_true, true_or, or_true, i10, i01]
    exact hQ
  · rw [if_neg e]
    have ea : dAns G = nI G.2.1 := by unfold dAns; rw [if_neg e]
    rw [ea] at head
    have := hle2 e
    obtain ⟨iv2, q1, q2, q3⟩ := m_actedNo (sc := sc) (p := p) (a := eNP) (v := .null) W1 le_IA.2.1
    refine ⟨iv2, q1, fun c hc => by rw [q2 c hc, F1 c hc], fun Q hQ => head Q ?_⟩
    rw [if_neg (nI_pos (by omega))]
    simp only [u151_28, u151_26, z91.1]
    refine q3 _ ?_
    simp only [u151_31, Option.toList_some, Option.toList_none, List.cons_append, List.nil_append, zRef_some, true_and, and_true, true_or, or_true, i10, i01]
    exact hQ
theorem M_fault {v2 v3 : Value} (R : RM iv cs hs t) : OKm sc 150 [.ref 91, .int x, v2, v3] p iv (sFault cs t x) cs hs t := by
  unfold sFault
  by_cases g : 0 ≤ x ∧ x ≤ 2
  · have dd1 := decide_eq_true g
    rw [if_pos g]
    obtain ⟨k, hk, rfl⟩ := in_nI (k := 2) (by omega) g.1 g.2
    obtain ⟨W, V, F⟩ := R.begin
    have o := R.2.1
    obtain ⟨iv1, g1, g2, g3, g4, g5⟩ := m_does (sc := sc) (p := p) (v1 := .null) V o W.2.2.2
    have hle := pGo_le t 80 cs 0 o.1 (o.2 0 (by omega)) (o.2 1 (by omega))
    have W1 := W.dm g4
    have F1 : FM iv1 iv := fun c hc => by rw [g4.1 c (by omega) (by omega), F c hc]
    have hle2 : (pR cs t).1 ≠ 0 → (pR cs t).2.1 < 80 ∧ (pR cs t).1 ≤ 3 ∧ (pR cs t).2.1 ≤ (pR cs t).2.2.1 ∧ (pR cs t).2.2.1 < 1000 := fun z => by
      obtain ⟨z1, z2, z3⟩ := hle.2 z
      have z4 := hle.1
      have := W.2.2.2.2.1
      exact ⟨by show (pGo t 80 cs 0).2.1 < 80; omega, z4, z2, by show (pGo t 80 cs 0).2.2.1 < 1000; omega⟩
    revert g1 g2 g3 g5 hle2
    generalize pR cs t = G
    intro g1 g2 g3 g5 hle2
    obtain ⟨w1, w2a, w3, w4⟩ := W1
    have R2 : RM (cp66 iv1 92 93 66) cs hs t := ⟨w1.congr w2a (fun k hk => cp66_in k hk), w2a, hPt.keep (iv := iv1) w3 (by rw [cp66_ne (by omega)]) (cp66_ne (by omega)), tPt.keep (iv := iv1) w4 (by rw [cp66_ne (by omega)]) (cp66_ne (by omega))⟩
    refine ⟨cp66 iv1 92 93 66, R2, fun c hc => by rw [cp66_ne (by omega), F1 c hc], fun Q hQ => ?_⟩
    have h91 : cp66 iv1 92 93 66 91 = iv1 91 := cp66_ne (by omega)
    have head : zEv sc 150 25 [.ref 91, .int (nI k), .int (dAns G), v3] [] (zst p (cp66 iv1 92 93 66)) Q → zEv sc 150 0 [.ref 91, .int (nI k), v2, v3] [] (zst p iv) Q := by
      intro hQ
      simp only [u150_0, u150_1, u150_2, u150_3, u150_6, u150_9, u150_11, u150_12, u150_13, u150_16, u150_17, Option.toList_some, Option.toList_none, List.cons_append, List.nil_append, zRef_some, true_and, and_true, true_or, or_true, i10, i01, z91.1, m_in, dd1, zb_t, not_false_eq_true, if_true, m_begins]
      refine g5 _ ?_
      simp only [u150_20, u150_21, u150_22, Option.toList_some, Option.toList_none, List.cons_append, List.nil_append, zRef_some, true_and, and_true, true_or, or_true, i10, i01, z91.1, m_returns]
      exact hQ
    refine head ?_
    rw [u150_25]
    have no : Q (some (.int eNF)) (zst p (cp66 iv1 92 93 66)) → zEv sc 150 46 [.ref 91, .int (nI k), .int (dAns G), v3] [] (zst p (cp66 iv1 92 93 66)) Q := by
      intro hz
      simp only [u150_47, u150_48, u150_46]
      rw [u150_49, if_neg (fun z => z rfl)]
      simp only [u150_52, u150_54, u150_83]
      exact hz
    by_cases e : G.1 = 0
    · rw [if_pos e] at hQ
      have ea : dAns G = -1 := by unfold dAns; rw [if_pos e]
      rw [ea] at no ⊢
      rw [u150_26, if_pos (by decide)]
      exact no hQ
    · rw [if_neg e] at hQ
      have ea : dAns G = nI G.2.1 := by unfold dAns; rw [if_neg e]
      obtain ⟨l1, l2, l3, l4⟩ := hle2 e
      obtain ⟨e12, e10⟩ := g3 e
      rw [← h91] at e12 e10
      rw [ea] at no ⊢
      have yes : zEv sc 150 57 [.ref 91, .int (nI k), .int (nI G.2.1), .int 1] [] (zst p (cp66 iv1 92 93 66)) Q → zEv sc 150 42 [.ref 91, .int (nI k), .int (nI G.2.1), v3] [] (zst p (cp66 iv1 92 93 66)) Q := by
        intro hz
        simp only [u150_42, u150_43, u150_47, u150_48]
        rw [u150_49, if_pos (by decide)]
        exact hz
      rw [u150_26, if_neg (nI_pos (by omega)), u150_29, u150_30, u150_31]
      rcases (show k = 0 ∨ k = 1 ∨ k = 2 by omega) with rfl | rfl | rfl
      · rw [if_pos (show nI 0 = 0 from rfl)] at hQ
        rw [if_pos (by decide)]
        refine yes ?_
        rw [u150_57, u150_58, if_neg (fun z => z (show nI 0 = 0 from rfl))]
        simp only [u150_61, u150_62, u150_83]
        exact hQ
      · rw [if_neg (by decide), if_pos (show nI 1 = 1 from rfl)] at hQ
        rw [if_pos (by decide)]
        refine yes ?_
        rw [u150_57, u150_58, if_pos (by decide), u150_65, u150_66, u150_67, if_neg (fun z => z (show nI 1 = 1 from rfl))]
        simp only [u150_70, u150_71, u150_74, u150_83, z91.1, e12]
        exact hQ
      · rw [if_neg (by decide), if_neg (by decide)] at hQ
        rw [if_neg (by decide)]
        simp only [u150_34, u150_35, u150_38, z91.1, e12]
        rw [u150_39, show (1 : Int32) = nI 1 from rfl]
        simp only [nI_eq (show G.1 < 2 ^ 31 by omega) (show 1 < 2 ^ 31 by omega)]
        by_cases e3 : G.1 = 1
        · rw [if_pos e3] at hQ
          rw [if_neg (fun z => z e3)]
          refine yes ?_
          rw [u150_57, u150_58, if_pos (by decide), u150_65, u150_66, u150_67, if_pos (by decide)]
          simp only [u150_83, u150_77, u150_78, u150_81, u150_82, z91.1, e10]
          exact hQ
        · rw [if_neg e3] at hQ
          rw [if_pos e3]
          exact no hQ
  · rw [if_neg g]
    refine ⟨iv, R, FM.rf, fun Q hQ => ?_⟩
    simp only [u150_0, u150_1, u150_2, u150_3, u150_6, u150_9, u150_11, Option.toList_some, Option.toList_none, List.cons_append, List.nil_append, zRef_some, true_and, and_true, true_or, or_true, i10, i01, m_in, decide_eq_false g, zb_f, not_true_eq_false, if_false]
    exact hQ
end ZMF
