/-! ===== the law's 'reads': of every state with a text ===== -/
/-- what an act may leave: all as it was, or one state more in the history -/
def rNext (cs : CS) (hs : List CS) (cs' : CS) (hs' : List CS) : Prop := (cs' = cs ∧ hs' = hs) ∨ hs' = hRec hs cs
def siz (c : CS) : Nat := (cM c 0).length + (cM c 1).length
theorem mSet_len {l : List (Nat × Nat)} {x w : Nat} : 0 < (mSet l x w).length := by
  by_cases h : mIn l x = true
  · rw [(mSet_in (w := w) h).1]
    have := (mIn_iff.mp h).1
    omega
  · rw [(mSet_new (w := w) h).1]
    omega
theorem cM_set {c : CS} {q : Nat} {l : List (Nat × Nat)} : cM (setM c q l) q = l := by
  show (if q = q then l else cM c q) = l
  exact if_pos rfl
theorem siz_set {c : CS} {q x w : Nat} (hq : q < 2) : 0 < siz (setM c q (mSet (cM c q) x w)) := by
  have h := mSet_len (l := cM c q) (x := x) (w := w)
  have e : cM (setM c q (mSet (cM c q) x w)) q = mSet (cM c q) x w := cM_set
  have h2 : 0 < (cM (setM c q (mSet (cM c q) x w)) q).length := by rw [e]; exact h
  unfold siz
  rcases q01 hq with rfl | rfl
  · omega
  · omega
theorem pSt_siz {t : List Nat} {c : CS} {i : Nat} (hN : cN c ≤ 4) (h : (pSt c t i).1 = 0) : 0 < siz (pSt c t i).2.2 := by
  have hb := frm_b t (cN c) i hN
  revert h
  unfold pSt
  split
  next => intro h; cases h
  next g0 =>
    have g0 : (frm t (cN c) i).1 = true := by rw [Bool.not_eq_false] at g0; exact g0
    obtain ⟨-, -, b3, -, -⟩ := hb.2.2 g0
    split
    next => intro h; cases h
    next =>
      split
      next => intro h; cases h
      next => intro _; exact siz_set b3
theorem pGo_siz (t : List Nat) : ∀ d (c : CS) i, cOk c → mOk (cM c 0) → mOk (cM c 1) → 0 < siz c → (pGo t d c i).1 = 0 → 0 < siz (pGo t d c i).2.2.2 := by
  intro d
  induction d with
  | zero => intro c i _ _ _ h _; exact h
  | succ d ih =>
    intro c i ho h0 h1 hz
    have hok := pSt_ok (t := t) (i := i) ho h0 h1
    unfold pGo
    by_cases h2 : i < t.length
    · rw [if_pos h2]
      by_cases h3 : (pSt c t i).1 = 0
      · rw [if_pos h3]
        exact ih _ _ hok.1 hok.2.1 hok.2.2 (pSt_siz ho.2.1 h3)
      · rw [if_neg h3]
        intro z
        exact absurd z h3
    · rw [if_neg h2]
      intro _
      exact hz
theorem pR_siz {t : List Nat} {c : CS} (hsk : sOk c) (ht : 0 < t.length) (h : (pR c t).1 = 0) : 0 < siz (pR c t).2.2.2 := by
  have ho := hsk.1
  have h0 := hsk.2 0 (by omega)
  have h1 := hsk.2 1 (by omega)
  have hok := pSt_ok (t := t) (i := 0) ho h0 h1
  have e : pR c t = if 0 < t.length then (if (pSt c t 0).1 = 0 then pGo t 79 (pSt c t 0).2.2 (pSt c t 0).2.1 else ((pSt c t 0).1, 0, (pSt c t 0).2.1, (pSt c t 0).2.2)) else (0, 0, 0, c) := rfl
  rw [if_pos ht] at e
  by_cases h3 : (pSt c t 0).1 = 0
  · rw [if_pos h3] at e
    rw [e] at h ⊢
    exact pGo_siz t 79 _ _ hok.1 hok.2.1 hok.2.2 (pSt_siz ho.2.1 h3) h
  · rw [if_neg h3] at e
    rw [e] at h
    exact absurd h h3
theorem flt_no {c : CS} {t : List Nat} {x : Int32} (h : (pR c t).1 = 0) (hx : 0 ≤ x ∧ x ≤ 2) : sFault c t x = eNF := by
  unfold sFault
  rw [if_pos hx, if_pos h]
theorem flt_0 {c : CS} {t : List Nat} (h : ¬ (pR c t).1 = 0) : sFault c t 0 = nI (pR c t).2.1 := by
  unfold sFault
  rw [if_pos ⟨by decide, by decide⟩, if_neg h, if_pos rfl]
theorem flt_1 {c : CS} {t : List Nat} (h : ¬ (pR c t).1 = 0) : sFault c t 1 = nI (pR c t).1 := by
  unfold sFault
  rw [if_pos ⟨by decide, by decide⟩, if_neg h, if_neg (by decide), if_pos rfl]
theorem flt_2 {c : CS} {t : List Nat} (h : ¬ (pR c t).1 = 0) : sFault c t 2 = if (pR c t).1 = 1 then nI (pR c t).2.2.1 - nI (pR c t).2.1 else eNF := by
  unfold sFault
  rw [if_pos ⟨by decide, by decide⟩, if_neg h, if_neg (by decide), if_neg (by decide)]
section ZRE
variable {sc : Nat × (Nat → Int32)} {cs : CS} {hs : List CS} {t : List Nat} {E : Value × CS × List CS × List Nat}
theorem read_end {l1 l2 l3 l5 l6 l7 : Value} {csE : CS} {hsE : List CS} (hsk : sOk csE) : ZR sc 91 144 [.ref 1, l1, l2, l3, .int (nI t.length), l5, l6, l7] [] csE hsE t (.int 1, csE, hsE, t) := by
  rw [v91_144, v91_145]
  refine v91_147 ?_
  rw [cnt_10 hsk.1, v91_150, v91_152, if_neg (fun z => z rfl), v91_155, v91_156]
  exact v91_160 (Or.inr rfl)
theorem reads_1 (hsk : sOk cs) (hl : t.length ≤ 80) (ht : 0 < t.length) : ∃ cs' hs', rNext cs hs cs' hs' ∧ ZR sc 91 0 [.ref 1, .null, .null, .null, .null, .null, .null, .null] [] cs hs t (.int 1, cs', hs', t) := by
  have ho := hsk.1
  have hg := pGo_le t 80 cs 0 ho (hsk.2 0 (by omega)) (hsk.2 1 (by omega))
  have hg : (pR cs t).1 ≤ 3 ∧ ((pR cs t).1 ≠ 0 → (pR cs t).2.1 < t.length ∧ (pR cs t).2.1 ≤ (pR cs t).2.2.1 ∧ (pR cs t).2.2.1 ≤ (pR cs t).2.1 + 20) := hg
  by_cases c : (pR cs t).1 = 0
  · have hz := pR_siz hsk ht c
    refine ⟨(pR cs t).2.2.2, hRec hs cs, Or.inr rfl, ?_⟩
    have er : sRead cs t = (szM (pR cs t).2.2.2, some (pR cs t).2.2.2) := if_pos c
    rw [v91_0, v91_1]
    refine v91_2 ?_
    rw [flt_no c ⟨by decide, by decide⟩, v91_5, v91_6, v91_7]
    refine v91_8 ?_
    rw [flt_no c ⟨by decide, by decide⟩, v91_11, v91_12, v91_13]
    refine v91_14 ?_
    rw [flt_no c ⟨by decide, by decide⟩, v91_17, v91_18, v91_19]
    refine v91_21 ?_
    rw [cnt_10 ho, v91_24, v91_26]
    refine v91_27 ?_
    rw [er]
    show ZR sc 91 30 _ _ (pR cs t).2.2.2 (hRec hs cs) t _
    refine ZR_of fun hsk' _ _ => ?_
    have l0 := (hsk'.2 0 (by omega)).1
    have l1 := (hsk'.2 1 (by omega)).1
    have es : szM (pR cs t).2.2.2 = nI (siz (pR cs t).2.2.2) := rfl
    have hs2 : siz (pR cs t).2.2.2 < 2 ^ 31 := by
      unfold siz
      omega
    show ZR sc 91 30 [.ref 1, .int eNF, .int eNF, .int eNF, .int (nI t.length), .null, .null, .null] [.int (szM (pR cs t).2.2.2)] (pR cs t).2.2.2 (hRec hs cs) t _
    rw [es, v91_30, v91_32, v91_33, v91_35, if_neg (fun z => z rfl), v91_38, v91_39, v91_41, if_neg (fun z => z rfl), v91_44, v91_45, v91_47, if_neg (fun z => z rfl), v91_50, v91_52, if_neg (nI_nle hz hs2), v91_55, v91_57, v91_58]
    refine v91_59 ?_
    rw [cnt_5 hsk'.1, v91_62, v91_63]
    refine v91_65 ?_
    rw [cnt_6 hsk'.1, v91_68, nI_add, v91_69, if_neg (fun z => z rfl), v91_72, v91_73, v91_77, v91_79, v91_80, if_pos (by decide), v91_131, v91_132, v91_134, v91_136, if_pos (by decide)]
    exact read_end hsk'
  · obtain ⟨h1, h2, h3⟩ := hg.2 c
    have hr := hg.1
    refine ⟨cs, hs, Or.inl ⟨rfl, rfl⟩, ?_⟩
    have er : sRead cs t = (eNP, none) := if_neg c
    rw [v91_0, v91_1]
    refine v91_2 ?_
    rw [flt_0 c, v91_5, v91_6, v91_7]
    refine v91_8 ?_
    rw [flt_1 c, v91_11, v91_12, v91_13]
    refine v91_14 ?_
    rw [flt_2 c, v91_17, v91_18, v91_19]
    refine v91_21 ?_
    rw [cnt_10 ho, v91_24, v91_26]
    refine v91_27 ?_
    rw [er]
    have hne : ¬ nI (pR cs t).2.1 = -1000004 := fun z => nI_pos (n := (pR cs t).2.1) (by omega) (by rw [z]; decide)
    have h4 : ¬ (4 : Int32) ≤ nI (pR cs t).1 := nI_ge (b := 4) (by omega) (by omega)
    show ZR sc 91 30 [.ref 1, .int (nI (pR cs t).2.1), .int (nI (pR cs t).1), .int (if (pR cs t).1 = 1 then nI (pR cs t).2.2.1 - nI (pR cs t).2.1 else eNF), .int (nI t.length), .null, .null, .null] [.int eNP] cs hs t (.int 1, cs, hs, t)
    rw [v91_30, v91_32, v91_33, v91_35, if_pos hne, v91_76, v91_77, v91_79, v91_80, if_neg (nI_pos (by omega)), v91_83, v91_84, v91_86, if_neg (nI_ge h1 (by omega)), v91_89, v91_91, v91_93, if_neg (fun z => z rfl), v91_96, v91_97, if_neg (nI_nle (by omega) (by omega)), v91_100, v91_101, v91_102, if_neg h4, v91_105, v91_106, v91_107]
    by_cases c1 : (pR cs t).1 = 1
    · have e1 : nI (pR cs t).1 = 1 := by rw [c1]; rfl
      rw [if_neg (fun z => z e1), v91_110, v91_111, v91_115, v91_116, if_pos c1, pk_sub h2, if_neg (nI_pos (by omega)), v91_119, v91_120, v91_124, if_neg (fun z => z rfl), v91_127, v91_128, v91_132, v91_134, v91_136, if_neg (fun z => z rfl), v91_139, v91_141, if_neg (by decide)]
      exact read_end hsk
    · have e1 : ¬ nI (pR cs t).1 = 1 := fun z => c1 ((nI_eq (b := 1) (by omega) (by omega)).mp z)
      rw [if_pos e1, v91_114, v91_115, v91_116, if_neg c1, if_pos (by decide), v91_123, v91_124, if_neg (fun z => z rfl), v91_127, v91_128, v91_132, v91_134, v91_136, if_neg (fun z => z rfl), v91_139, v91_141, if_neg (by decide)]
      exact read_end hsk
end ZRE
