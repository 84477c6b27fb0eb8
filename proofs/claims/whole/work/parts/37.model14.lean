/-! ===== FieldMixturesModel: a part, all parts ===== -/
section ZME
variable {sc : Nat × (Nat → Int32)} {Q : Option Value → zA → Prop} {h : zA} {p : Nat → Option Nat} {iv : Nat → Nat → Int32} {cs d : CS} {hs : List CS} {t : List Nat} {x y z w lo hi : Int32} {q k i n m : Nat}
/-- from the weight on -/
theorem rp_w (T : tPt iv t) (hf : iv 91 11 = 1) (ha : iv 91 10 = nI i) (hi : i < 480) (hw : iv 91 15 = 1) : ∃ iv2, iv2 91 10 = nI (frmW t i).2.1 ∧ iv2 91 11 = zb (frmW t i).1 ∧ ((frmW t i).1 = true → iv2 91 15 = nI (frmW t i).2.2) ∧ (∀ g, g ≠ 10 → g ≠ 11 → g ≠ 15 → iv2 91 g = iv 91 g) ∧ rM iv2 iv ∧ ∀ (Q : Option Value → zA → Prop), zEv sc 148 122 [.ref 91] [] (zst p iv2) Q → zEv sc 148 86 [.ref 91] [] (zst p iv) Q := by
  have he := hr_eq (i := i) (c := 42) T (by omega) (by omega)
  have head : ∀ Q, zEv sc 148 86 [.ref 91] [] (zst p iv) Q ↔ (if ¬ hr t i = nI 42 then zEv sc 148 122 [.ref 91] [] (zst p iv) Q else zEv sc 148 102 [.ref 91] [] (zst p iv) Q) := by
    intro Q
    simp only [u148_86, u148_87, z91.1, hf]
    rw [u148_90, if_neg (by decide)]
    simp only [u148_93, u148_94, u148_97, Option.toList_some, Option.toList_none, List.cons_append, List.nil_append, zRef_some, true_and, and_true, true_or, or_true, i10, i01, z91.1, m_here T ha (show i < 1000 by omega)]
    rw [u148_99]
    rfl
  unfold frmW
  by_cases e : chr t i = 42
  · rw [if_pos e, rdW_G]
    have k1 : rM (w2 iv 91 10 (nI (i + 1))) iv := rM.wr (by omega)
    obtain ⟨iv2, g1, g2, g3, g4, g5⟩ := m_readDigits (sc := sc) (p := p) (v3 := .null) (v4 := .null) (m := 2) (n := 1) (k1.tp T) (by rw [w2_g (by omega)]; exact hf) w2_eq (show i + 1 < 500 by omega) (by omega) (by omega)
    refine ⟨w2 iv2 91 15 (nI (rdG t 2 (i + 1) 0).2), by rw [w2_g (by omega)]; exact g1, by rw [w2_g (by omega)]; exact g2, fun _ => w2_eq, fun g e1 e2 e3 => by rw [w2_g e3, g3 g e1 e2, w2_g e1], (rM.wr (by omega)).tr (g4.tr k1), fun Q hQ => (head Q).mpr ?_⟩
    rw [if_neg (fun z => z (he.mpr e))]
    simp only [u148_102, u148_103, u148_104, u148_107, u148_108, u148_109, u148_112, u148_113, u148_114, u148_115, u148_116, z91.1, ha, nI_1]
    refine g5 _ ?_
    simp only [u148_119, Option.toList_some, Option.toList_none, List.cons_append, List.nil_append, zRef_some, true_and, and_true, true_or, or_true, i10, i01, z91.1]
    exact hQ
  · rw [if_neg e]
    refine ⟨iv, ha, hf, fun _ => hw, fun _ _ _ _ => rfl, rM.rf, fun Q hQ => (head Q).mpr ?_⟩
    rw [if_pos (fun z => e (he.mp z))]
    exact hQ
theorem m_readPart (V : isV (iv 92) cs) (hn2 : 2 ≤ cN cs) (hn : cN cs ≤ 4) (T : tPt iv t) (ha : iv 91 10 = nI i) (hi : i < 400) : ∃ iv2, iv2 91 10 = nI (frm t (cN cs) i).2.1 ∧ iv2 91 11 = zb (frm t (cN cs) i).1 ∧ ((frm t (cN cs) i).1 = true → iv2 91 13 = nI (frm t (cN cs) i).2.2.1 ∧ iv2 91 14 = nI (frm t (cN cs) i).2.2.2.1 ∧ iv2 91 15 = nI (frm t (cN cs) i).2.2.2.2) ∧ rM iv2 iv ∧ ∀ (Q : Option Value → zA → Prop), Q none (zst p iv2) → zEv sc 148 0 [.ref 91] [] (zst p iv) Q := by
  unfold frm
  obtain ⟨b, hb⟩ : ∃ b, b = decide (chr t i = 48 ∨ chr t i = 49) := ⟨_, rfl⟩
  obtain ⟨iv1, hiv1⟩ : ∃ iv1, iv1 = w2 (w2 (w2 (w2 (w2 iv 91 11 1) 91 15 1) 91 13 (hr t i - 48)) 91 11 (zb b)) 91 10 (nI (i + b.toNat)) := ⟨_, rfl⟩
  have s0 : ∀ Q, zEv sc 148 0 [.ref 91] [] (zst p iv) Q ↔ zEv sc 148 48 [.ref 91] [] (zst p iv1) Q := fun Q => by rw [rp_0 T ha (by omega), hiv1, hb]
  have k1 : rM iv1 iv := by rw [hiv1]; exact (rM.wr (by omega)).tr ((rM.wr (by omega)).tr ((rM.wr (by omega)).tr ((rM.wr (by omega)).tr (rM.wr (by omega)))))
  have a1 : iv1 91 10 = nI (i + b.toNat) := by rw [hiv1, w2_eq]
  have f1 : iv1 91 11 = zb b := by rw [hiv1, w2_g (by omega), w2_eq]
  have p1 : iv1 91 13 = hr t i - 48 := by rw [hiv1, w2_g (by omega), w2_g (by omega), w2_eq]
  have w1 : iv1 91 15 = 1 := by rw [hiv1, w2_g (by omega), w2_g (by omega), w2_g (by omega), w2_eq]
  have V1 : isV (iv1 92) cs := by rw [k1.1 92 (by omega)]; exact V
  have T1 := k1.tp T
  have hbl : b.toNat ≤ 1 := by cases b <;> decide
  obtain ⟨c, hc⟩ : ∃ c, c = (b && decide (chr t (i + b.toNat) = 58)) := ⟨_, rfl⟩
  obtain ⟨iv2, hiv2⟩ : ∃ iv2, iv2 = w2 (w2 iv1 91 11 (zb c)) 91 10 (nI (i + b.toNat + c.toNat)) := ⟨_, rfl⟩
  have s1 : ∀ Q, zEv sc 148 0 [.ref 91] [] (zst p iv) Q ↔ zEv sc 148 66 [.ref 91] [] (zst p iv2) Q := fun Q => by rw [s0, rp_48 T1 f1 a1 (by omega), hiv2, hc]
  have k2 : rM iv2 iv := by rw [hiv2]; exact ((rM.wr (by omega)).tr (rM.wr (by omega))).tr k1
  have a2 : iv2 91 10 = nI (i + b.toNat + c.toNat) := by rw [hiv2, w2_eq]
  have f2 : iv2 91 11 = zb c := by rw [hiv2, w2_g (by omega), w2_eq]
  have p2 : iv2 91 13 = hr t i - 48 := by rw [hiv2, w2_g (by omega), w2_g (by omega)]; exact p1
  have w2' : iv2 91 15 = 1 := by rw [hiv2, w2_g (by omega), w2_g (by omega)]; exact w1
  have V2 : isV (iv2 92) cs := by rw [k2.1 92 (by omega)]; exact V
  have T2 := k2.tp T
  have hcl : c.toNat ≤ 1 := by cases c <;> decide
  have fail : c = false → ∀ j, j = i + b.toNat → ∃ iv3, iv3 91 10 = nI j ∧ iv3 91 11 = zb false ∧ rM iv3 iv ∧ ∀ (Q : Option Value → zA → Prop), Q none (zst p iv3) → zEv sc 148 0 [.ref 91] [] (zst p iv) Q := by
    intro hcf j hj
    rw [hcf] at f2 a2
    have a2 : iv2 91 10 = nI (i + b.toNat) := a2
    obtain ⟨iv3, g1, g2, g3, -, g5⟩ := rp_fail (sc := sc) (p := p) (cs := cs) T2 f2 a2 (by omega)
    exact ⟨iv3, by rw [g1, hj], g2, g3.tr k2, fun Q hQ => (s1 Q).mpr (g5 Q V2 hQ)⟩
  by_cases e0 : chr t i = 48 ∨ chr t i = 49
  · have hbt : b = true := by rw [hb, decide_eq_true e0]
    rw [if_neg (fun z => z e0)]
    rw [hbt] at hc a2 fail
    by_cases e1 : chr t (i + 1) = 58
    · have hct : c = true := by rw [hc]; show (true && decide (chr t (i + 1) = 58)) = true; rw [decide_eq_true e1]; rfl
      rw [if_neg (fun z => z e1)]
      rw [hct] at f2 a2
      have a2 : iv2 91 10 = nI (i + 2) := a2
      have f2 : iv2 91 11 = 1 := f2
      obtain ⟨iv3, g1, g2, g3, g4, g5⟩ := m_readDigits (sc := sc) (p := p) (v3 := .null) (v4 := .null) (m := cN cs) (n := cN cs) T2 f2 a2 (by omega) hn hn
      have hG := rdA_G t (cN cs) (i + 2) 0
      have hGb := rdG_b t (cN cs) (i + 2) 0
      obtain ⟨A, hA⟩ : ∃ A, A = rdA t (cN cs) (i + 2) 0 := ⟨_, rfl⟩
      have r1 : A.1 = decide (cN cs ≤ (rdG t (cN cs) (i + 2) 0).1 - (i + 2)) := by rw [hA, hG]
      have r2 : A.2.1 = (rdG t (cN cs) (i + 2) 0).1 := by rw [hA, hG]
      have r3 : A.2.2 = (rdG t (cN cs) (i + 2) 0).2 := by rw [hA, hG]
      rw [← hA]
      rw [← r2] at g1 hGb
      rw [← r1] at g2
      rw [← r3] at g5
      obtain ⟨iv4, hiv4⟩ : ∃ iv4, iv4 = w2 iv3 91 14 (nI A.2.2) := ⟨_, rfl⟩
      have k4 : rM iv4 iv := by rw [hiv4]; exact (rM.wr (by omega)).tr (g4.tr k2)
      have a4 : iv4 91 10 = nI A.2.1 := by rw [hiv4, w2_g (by omega)]; exact g1
      have f4 : iv4 91 11 = zb A.1 := by rw [hiv4, w2_g (by omega)]; exact g2
      have p4 : iv4 91 13 = hr t i - 48 := by rw [hiv4, w2_g (by omega), g3 13 (by omega) (by omega)]; exact p2
      have w4 : iv4 91 15 = 1 := by rw [hiv4, w2_g (by omega), g3 15 (by omega) (by omega)]; exact w2'
      have v4 : iv4 91 14 = nI A.2.2 := by rw [hiv4, w2_eq]
      have T4 := k4.tp T
      have s2 : ∀ Q, zEv sc 148 86 [.ref 91] [] (zst p iv4) Q → zEv sc 148 0 [.ref 91] [] (zst p iv) Q := by
        intro Q hQ
        rw [s1]
        simp only [u148_66, u148_67, u148_68, u148_69, u148_72, u148_73, u148_74, u148_75, u148_78, u148_79, u148_80, Option.toList_some, Option.toList_none, List.cons_append, List.nil_append, zRef_some, true_and, and_true, true_or, or_true, i10, i01, z91.1, z91.2.1, z91r.1, z92l.1, c0, v0, V2.1]
        refine g5 _ ?_
        simp only [u148_83, Option.toList_some, Option.toList_none, List.cons_append, List.nil_append, zRef_some, true_and, and_true, true_or, or_true, i10, i01, z91.1]
        rw [← hiv4]
        exact hQ
      by_cases e2 : A.1 = false
      · rw [if_pos e2]
        rw [e2] at f4
        refine ⟨w2 (w2 iv4 91 11 (zb (false && decide (chr t A.2.1 = 59)))) 91 10 (nI (A.2.1 + (false && decide (chr t A.2.1 = 59)).toNat)), w2_eq, by rw [w2_g (by omega), w2_eq]; rfl, fun z => (by cases z), ((rM.wr (by omega)).tr (rM.wr (by omega))).tr k4, fun Q hQ => s2 Q ?_⟩
        simp only [u148_86, u148_87, z91.1, f4]
        rw [u148_90, if_pos (show zb false = 0 from rfl)]
        exact (rp_last T4 f4 a4 (by omega)).mpr hQ
      · rw [if_neg e2]
        rw [Bool.not_eq_false] at e2
        rw [e2] at f4
        obtain ⟨iv5, q1, q2, q3, q4, q5, q6⟩ := rp_w (sc := sc) (p := p) T4 f4 a4 (by omega) w4
        have hWb := frmW_b t A.2.1
        obtain ⟨B, hB⟩ : ∃ B, B = frmW t A.2.1 := ⟨_, rfl⟩
        rw [← hB] at q1 q2 q3 hWb ⊢
        have k5 := q5.tr k4
        have T5 := k5.tp T
        have last := fun Q => rp_last (sc := sc) (p := p) (Q := Q) T5 q2 q1 (by omega)
        have kl : rM (w2 (w2 iv5 91 11 (zb (B.1 && decide (chr t B.2.1 = 59)))) 91 10 (nI (B.2.1 + (B.1 && decide (chr t B.2.1 = 59)).toNat))) iv := ((rM.wr (by omega)).tr (rM.wr (by omega))).tr k5
        have fin : ∀ (Q : Option Value → zA → Prop), Q none (zst p (w2 (w2 iv5 91 11 (zb (B.1 && decide (chr t B.2.1 = 59)))) 91 10 (nI (B.2.1 + (B.1 && decide (chr t B.2.1 = 59)).toNat)))) → zEv sc 148 0 [.ref 91] [] (zst p iv) Q := fun Q hQ => s2 Q (q6 Q ((last Q).mpr hQ))
        refine ⟨_, ?_, ?_, ?_, kl, fin⟩
        · rw [w2_eq]
          by_cases e3 : B.1 = false
          · rw [if_pos e3, e3]; rfl
          · rw [if_neg e3]
            rw [Bool.not_eq_false] at e3
            by_cases e4 : chr t B.2.1 = 59
            · rw [if_pos e4, e3, decide_eq_true e4]; rfl
            · rw [if_neg e4, e3, decide_eq_false e4]; rfl
        · rw [w2_g (by omega), w2_eq]
          by_cases e3 : B.1 = false
          · rw [if_pos e3, e3]; rfl
          · rw [if_neg e3]
            rw [Bool.not_eq_false] at e3
            by_cases e4 : chr t B.2.1 = 59
            · rw [if_pos e4, e3, decide_eq_true e4]; rfl
            · rw [if_neg e4, e3, decide_eq_false e4]; rfl
        · by_cases e3 : B.1 = false
          · rw [if_pos e3]; intro z; cases z
          · rw [if_neg e3]
            rw [Bool.not_eq_false] at e3
            by_cases e4 : chr t B.2.1 = 59
            · rw [if_pos e4]
              intro _
              have hil := chr_in (t := t) (i := i) (by omega)
              refine ⟨?_, ?_, ?_⟩
              · rw [w2_g (by omega), w2_g (by omega), q4 13 (by omega) (by omega) (by omega), p4]
                unfold hr
                rw [if_pos hil, show (48 : Int32) = nI 48 from rfl, pk_sub (by omega)]
              · rw [w2_g (by omega), w2_g (by omega), q4 14 (by omega) (by omega) (by omega), v4]
              · rw [w2_g (by omega), w2_g (by omega)]
                exact q3 e3
            · rw [if_neg e4]; intro z; cases z
    · have hcf : c = false := by rw [hc]; show (true && decide (chr t (i + 1) = 58)) = false; rw [decide_eq_false e1]; rfl
      rw [if_pos e1]
      obtain ⟨iv3, g1, g2, g3, g4⟩ := fail hcf (i + 1) rfl
      exact ⟨iv3, g1, g2, fun z => (by cases z), g3, g4⟩
  · have hbf : b = false := by rw [hb, decide_eq_false e0]
    rw [if_pos e0]
    rw [hbf] at hc fail
    obtain ⟨iv3, g1, g2, g3, g4⟩ := fail (by rw [hc]; rfl) i rfl
    exact ⟨iv3, g1, g2, fun z => (by cases z), g3, g4⟩
end ZME
