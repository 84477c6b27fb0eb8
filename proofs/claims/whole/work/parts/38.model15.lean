/-! ===== FieldMixturesModel: all parts ===== -/
section ZMF
variable {sc : Nat × (Nat → Int32)} {Q : Option Value → zA → Prop} {h : zA} {p : Nat → Option Nat} {iv : Nat → Nat → Int32} {cs d : CS} {hs : List CS} {t : List Nat} {x y z w lo hi : Int32} {q k i n m : Nat}
/-- the reader's fields and the contest's row change, no other -/
def dM (iv2 iv : Nat → Nat → Int32) : Prop := (∀ c, c ≠ 91 → c ≠ 92 → iv2 c = iv c) ∧ ∀ g, g < 10 → iv2 91 g = iv 91 g
theorem dM.tr {a b c : Nat → Nat → Int32} (h1 : dM a b) (h2 : dM b c) : dM a c := ⟨fun x hx hy => (h1.1 x hx hy).trans (h2.1 x hx hy), fun g hg => (h1.2 g hg).trans (h2.2 g hg)⟩
theorem rM.dm {iv2 : Nat → Nat → Int32} (h : rM iv2 iv) : dM iv2 iv := ⟨fun c hc _ => h.1 c hc, h.2⟩
theorem dM.tp {iv2 : Nat → Nat → Int32} (h : dM iv2 iv) (T : tPt iv t) : tPt iv2 t := T.keep (h.2 5 (by omega)) (h.1 95 (by omega) (by omega))
theorem dM.w92 {iv2 : Nat → Nat → Int32} (e : ∀ c, c ≠ 92 → iv2 c = iv c) : dM iv2 iv := ⟨fun c _ hc => e c hc, fun g _ => by rw [e 91 (by omega)]⟩
theorem dp_104 {r : Nat} {iv1 : Nat → Nat → Int32} (hr : r < 10) (e : iv1 91 12 = nI r) : zEv sc 149 104 [.ref 91, .int (nI i)] [] (zst p iv1) Q ↔ (if r = 0 then zEv sc 149 5 [.ref 91, .int (nI i)] [] (zst p iv1) Q else Q (some (.int (nI i))) (zst p iv1)) := by
  simp only [u149_104, u149_105, z91.1, e]
  rw [u149_108]
  by_cases g : r = 0
  · subst g
    rw [if_pos (by decide), if_pos rfl]
    simp only [u149_113]
  · rw [if_neg (nI_nle (by omega) (by omega)), if_neg g]
    simp only [u149_111, u149_112]
theorem m_step (V : isV (iv 92) cs) (o : vOk cs) (T : tPt iv t) (ha : iv 91 10 = nI i) (hi : i < 400) : ∃ iv2, isV (iv2 92) (pSt cs t i).2.2 ∧ iv2 91 10 = nI (pSt cs t i).2.1 ∧ iv2 91 12 = nI (pSt cs t i).1 ∧ dM iv2 iv ∧ ∀ (Q : Option Value → zA → Prop) (v : Value), zEv sc 149 104 [.ref 91, .int (nI i)] [] (zst p iv2) Q → zEv sc 149 16 [.ref 91, v] [] (zst p iv) Q := by
  have hb := frm_b t (cN cs) i o.1.2.1
  obtain ⟨iv1, g1, g2, g3, g4, g5⟩ := m_readPart (sc := sc) (p := p) V o.1.1 o.1.2.1 T ha hi
  have V1 : isV (iv1 92) cs := by rw [g4.1 92 (by omega)]; exact V
  unfold pSt
  obtain ⟨F, hF⟩ : ∃ F, F = frm t (cN cs) i := ⟨_, rfl⟩
  rw [← hF] at g1 g2 g3 hb ⊢
  have head : ∀ Q v, (if ¬ zb F.1 = 0 then zEv sc 149 37 [.ref 91, .int (nI i)] [.ref 91] (zst p iv1) Q else zEv sc 149 33 [.ref 91, .int (nI i)] [.ref 91] (zst p iv1) Q) → zEv sc 149 16 [.ref 91, v] [] (zst p iv) Q := by
    intro Q v hQ
    simp only [u149_16, u149_17, u149_20, u149_21, u149_22, z91.1, ha]
    refine g5 _ ?_
    simp only [u149_25, u149_26, u149_27, u149_30, Option.toList_some, Option.toList_none, List.cons_append, List.nil_append, zRef_some, true_and, and_true, true_or, or_true, i10, i01, z91.1, g2]
    exact hQ
  -- a reason that is not 0, stored
  have bad : ∀ (r : Nat) Q, 0 < r → r < 10 → zEv sc 149 104 [.ref 91, .int (nI i)] [] (zst p (w2 iv1 91 12 (nI r))) Q → zEv sc 149 64 [.ref 91, .int (nI i)] [.int (nI r), .ref 91] (zst p iv1) Q := by
    intro r Q h0 h1 hQ
    simp only [u149_64, u149_67, u149_68, z91.1, w2_eq]
    rw [u149_71, if_pos (nI_ne0 h0 (by omega))]
    exact hQ
  have kb : ∀ r : Nat, dM (w2 iv1 91 12 (nI r)) iv := fun r => rM.dm ((rM.wr (by omega)).tr g4)
  have vb : ∀ r : Nat, isV ((w2 iv1 91 12 (nI r)) 92) cs := fun r => by rw [w2_c (by omega)]; exact V1
  have ab : ∀ r : Nat, (w2 iv1 91 12 (nI r)) 91 10 = nI F.2.1 := fun r => by rw [w2_g (by omega)]; exact g1
  by_cases e0 : F.1 = false
  · rw [if_pos e0]
    refine ⟨w2 iv1 91 12 (nI 1), vb 1, ab 1, w2_eq, kb 1, fun Q v hQ => head Q v ?_⟩
    rw [e0, if_neg (show ¬ ¬ zb false = 0 from fun z => z rfl), u149_33, u149_34]
    exact bad 1 Q (by omega) (by omega) hQ
  · have e0' : F.1 = true := by rw [Bool.not_eq_false] at e0; exact e0
    obtain ⟨b1, b2, b3, b4, b5⟩ := hb.2.2 e0'
    obtain ⟨e3, e4, e5⟩ := g3 e0'
    rw [if_neg e0]
    have isal : ∀ Q, zEv sc 96 0 [.ref 91, .int (nI F.2.2.1), .int (nI F.2.2.2.1), .null, .null, .null, .null, .null] [] (zst p iv1) Q ↔ Q (some (.int (zb (alw (cN cs) (cB cs F.2.2.1) F.2.2.2.1 (cR cs F.2.2.1))))) (zst p iv1) := fun Q => by
      rw [m_isAlloc V1 o.1.w b3]
      unfold isA
      rw [alwI_n (by omega)]
    by_cases e1 : F.2.2.2.2 = 0 ∨ alw (cN cs) (cB cs F.2.2.1) F.2.2.2.1 (cR cs F.2.2.1) = false
    · rw [if_pos e1]
      refine ⟨w2 iv1 91 12 (nI 2), vb 2, ab 2, w2_eq, kb 2, fun Q v hQ => head Q v ?_⟩
      have hfin : zEv sc 149 59 [.ref 91, .int (nI i)] [.ref 91] (zst p iv1) Q := by
        rw [u149_59, u149_60]
        exact bad 2 Q (by omega) (by omega) hQ
      rw [e0', if_pos (show ¬ zb true = 0 by decide)]
      simp only [u149_37, u149_38, z91.1, e5]
      rw [u149_41]
      by_cases e2 : F.2.2.2.2 = 0
      · rw [e2, if_pos (show nI 0 = 0 from rfl)]; exact hfin
      · rw [if_neg (nI_ne0 (by omega) (by omega))]
        simp only [u149_44, u149_45, u149_46, u149_49, u149_50, u149_53, Option.toList_some, Option.toList_none, List.cons_append, List.nil_append, zRef_some, true_and, and_true, true_or, or_true, i10, i01, z91.1, e3, e4, isal, e1.resolve_left e2]
        rw [u149_56, if_neg (show ¬ ¬ zb false = 0 from fun z => z rfl)]
        exact hfin
    · have e2 : ¬ F.2.2.2.2 = 0 := fun z => e1 (Or.inl z)
      have e6 : alw (cN cs) (cB cs F.2.2.1) F.2.2.2.1 (cR cs F.2.2.1) = true := by
        have : ¬ (alw (cN cs) (cB cs F.2.2.1) F.2.2.2.1 (cR cs F.2.2.1) = false) := fun z => e1 (Or.inr z)
        rw [Bool.not_eq_false] at this
        exact this
      rw [if_neg e1]
      obtain ⟨iv2, hiv2⟩ : ∃ iv2, iv2 = w2 iv1 91 12 (nI 0) := ⟨_, rfl⟩
      have V2 : isV (iv2 92) cs := by rw [hiv2]; exact vb 0
      have E3 : iv2 91 13 = nI F.2.2.1 := by rw [hiv2, w2_g (by omega)]; exact e3
      have E4 : iv2 91 14 = nI F.2.2.2.1 := by rw [hiv2, w2_g (by omega)]; exact e4
      have E5 : iv2 91 15 = nI F.2.2.2.2 := by rw [hiv2, w2_g (by omega)]; exact e5
      have A2 : iv2 91 10 = nI F.2.1 := by rw [hiv2]; exact ab 0
      have K2 : dM iv2 iv := by rw [hiv2]; exact kb 0
      have head2 : ∀ Q v, zEv sc 108 0 [.ref 91, .int (nI F.2.2.1), .int (nI F.2.2.2.1), .int (nI F.2.2.2.2), .null, .null, .null, .null] [] (zst p iv2) (fun r h9 => zEv sc 149 91 [.ref 91, .int (nI i)] (r.toList ++ [.ref 91]) h9 Q) → zEv sc 149 16 [.ref 91, v] [] (zst p iv) Q := by
        intro Q v hQ
        refine head Q v ?_
        rw [e0', if_pos (show ¬ zb true = 0 by decide)]
        simp only [u149_37, u149_38, z91.1, e5]
        rw [u149_41, if_neg (nI_ne0 (by omega) (by omega))]
        simp only [u149_44, u149_45, u149_46, u149_49, u149_50, u149_53, Option.toList_some, Option.toList_none, List.cons_append, List.nil_append, zRef_some, true_and, and_true, true_or, or_true, i10, i01, z91.1, e3, e4, isal, e6]
        rw [u149_56, if_pos (show ¬ zb true = 0 by decide)]
        have e12 : (w2 iv1 91 12 0) 91 12 = 0 := w2_eq
        simp only [u149_64, u149_67, u149_68, u149_63, z91.1, e12]
        rw [u149_71, if_neg (fun z => z rfl)]
        rw [nI_0] at hiv2
        rw [← hiv2]
        simp only [u149_74, u149_75, u149_76, u149_77, u149_80, u149_81, u149_84, u149_85, u149_88, Option.toList_some, Option.toList_none, List.cons_append, List.nil_append, zRef_some, true_and, and_true, true_or, or_true, i10, i01, z91.1, E3, E4, E5]
        exact hQ
      by_cases e7 : (cM cs F.2.2.1).length < 12 ∨ mIn (cM cs F.2.2.1) F.2.2.2.1 = true
      · rw [if_neg (fun z => z e7)]
        obtain ⟨iv3, q1, q2, q3⟩ := m_lays (sc := sc) (p := p) (w := F.2.2.2.2) (v4 := .null) (v5 := .null) (v6 := .null) (v7 := .null) V2 o b3 b4 e7
        have hml := (mOf_ok (x := F.2.2.2.1) (o.2 _ b3)).1
        have hne : ¬ nI (mOf (cM cs F.2.2.1) F.2.2.2.1) = -1000003 := by
          intro z
          have h0 := nI_pos' (show mOf (cM cs F.2.2.1) F.2.2.2.1 < 2 ^ 31 by omega)
          rw [z] at h0
          exact absurd h0 (by decide)
        have k3 : dM (w2 iv3 91 12 0) iv3 := rM.dm (rM.wr (by omega))
        refine ⟨w2 iv3 91 12 0, by rw [w2_c (by omega)]; exact q1, by rw [w2_g (by omega), q2 91 (by omega)]; exact A2, w2_eq, k3.tr ((dM.w92 q2).tr K2), fun Q v hQ => head2 Q v (q3 _ ?_)⟩
        simp only [u149_91, Option.toList_some, Option.toList_none, List.cons_append, List.nil_append, zRef_some, true_and, and_true, true_or, or_true, i10, i01]
        rw [u149_93, if_pos hne]
        simp only [u149_101, u149_100, z91.1]
        exact hQ
      · rw [if_pos e7]
        refine ⟨w2 iv2 91 12 (nI 3), by rw [w2_c (by omega)]; exact V2, by rw [w2_g (by omega)]; exact A2, w2_eq, (rM.dm (rM.wr (by omega))).tr K2, fun Q v hQ => head2 Q v ?_⟩
        rw [m_laysNo V2 o b3 b4 e7]
        simp only [u149_91, Option.toList_some, Option.toList_none, List.cons_append, List.nil_append, zRef_some, true_and, and_true, true_or, or_true, i10, i01]
        rw [u149_93, if_neg (fun z => z rfl)]
        simp only [u149_96, u149_97, u149_101, z91.1]
        exact hQ
end ZMF
