/-! ===== FieldMixturesModel: reading a part ===== -/
/-- up to so many digits: where they end, their number -/
def rdG (t : List Nat) : Nat → Nat → Nat → Nat × Nat
  | 0, i, acc => (i, acc)
  | k + 1, i, acc => if isDg (chr t i) then rdG t k (i + 1) (acc * 10 + (chr t i - 48)) else (i, acc)
theorem rdG_b (t : List Nat) : ∀ k i acc, i ≤ (rdG t k i acc).1 ∧ (rdG t k i acc).1 ≤ i + k := by
  intro k
  induction k with
  | zero => intro i acc; exact ⟨Nat.le_refl _, Nat.le_refl _⟩
  | succ k ih =>
    intro i acc
    unfold rdG
    split
    · have := ih (i + 1) (acc * 10 + (chr t i - 48))
      omega
    · exact ⟨Nat.le_refl _, by show i ≤ _; omega⟩
theorem rdA_G (t : List Nat) : ∀ k i acc, rdA t k i acc = (decide (k ≤ (rdG t k i acc).1 - i), (rdG t k i acc).1, (rdG t k i acc).2) := by
  intro k
  induction k with
  | zero => intro i acc; unfold rdA rdG; rw [decide_eq_true (Nat.zero_le _)]
  | succ k ih =>
    intro i acc
    unfold rdA rdG
    by_cases h : isDg (chr t i) = true
    · rw [if_pos h, if_pos h, ih]
      have := rdG_b t k (i + 1) (acc * 10 + (chr t i - 48))
      congr 1
      exact decide_eq_decide.mpr (by omega)
    · rw [if_neg h, if_neg h]
      congr 1
      exact (decide_eq_false (by show ¬ k + 1 ≤ i - i; omega)).symm
theorem rdW_G (t : List Nat) (i : Nat) : rdW t i = (decide (1 ≤ (rdG t 2 i 0).1 - i), (rdG t 2 i 0).1, (rdG t 2 i 0).2) := by
  unfold rdW
  show _ = (decide (1 ≤ (if isDg (chr t i) then (if isDg (chr t (i + 1)) then (i + 1 + 1, (0 * 10 + (chr t i - 48)) * 10 + (chr t (i + 1) - 48)) else (i + 1, 0 * 10 + (chr t i - 48))) else (i, 0) : Nat × Nat).1 - i), (if isDg (chr t i) then (if isDg (chr t (i + 1)) then (i + 1 + 1, (0 * 10 + (chr t i - 48)) * 10 + (chr t (i + 1) - 48)) else (i + 1, 0 * 10 + (chr t i - 48))) else (i, 0) : Nat × Nat).1, (if isDg (chr t i) then (if isDg (chr t (i + 1)) then (i + 1 + 1, (0 * 10 + (chr t i - 48)) * 10 + (chr t (i + 1) - 48)) else (i + 1, 0 * 10 + (chr t i - 48))) else (i, 0) : Nat × Nat).2)
  rw [Nat.zero_mul, Nat.zero_add]
  by_cases h : isDg (chr t i) = true
  · rw [if_pos h, if_pos h]
    by_cases h2 : isDg (chr t (i + 1)) = true
    · rw [if_pos h2, if_pos h2, decide_eq_true (by show 1 ≤ i + 1 + 1 - i; omega)]
    · rw [if_neg h2, if_neg h2, decide_eq_true (by show 1 ≤ i + 1 - i; omega)]
  · rw [if_neg h, if_neg h, decide_eq_false (by show ¬ 1 ≤ i - i; omega)]
section ZMD
variable {sc : Nat × (Nat → Int32)} {Q : Option Value → zA → Prop} {h : zA} {p : Nat → Option Nat} {iv : Nat → Nat → Int32} {cs d : CS} {hs : List CS} {t : List Nat} {x y z w lo hi : Int32} {q k i n m : Nat}
/-- the reader's fields change, no other -/
def rM (iv2 iv : Nat → Nat → Int32) : Prop := (∀ c, c ≠ 91 → iv2 c = iv c) ∧ ∀ g, g < 10 → iv2 91 g = iv 91 g
theorem rM.rf : rM iv iv := ⟨fun _ _ => rfl, fun _ _ => rfl⟩
theorem rM.tr {a b c : Nat → Nat → Int32} (h1 : rM a b) (h2 : rM b c) : rM a c := ⟨fun x hx => (h1.1 x hx).trans (h2.1 x hx), fun g hg => (h1.2 g hg).trans (h2.2 g hg)⟩
theorem rM.wr {f : Nat} {x : Int32} (hf : 10 ≤ f) : rM (w2 iv 91 f x) iv := ⟨fun c hc => w2_c hc, fun g hg => w2_g (by omega)⟩
theorem rM.tp {iv2 : Nat → Nat → Int32} (h : rM iv2 iv) (T : tPt iv t) : tPt iv2 t := T.keep (h.2 5 (by omega)) (h.1 95 (by omega))
theorem m_takes {f b : Bool} (hf : iv 91 11 = zb f) (ha : iv 91 10 = nI i) : zEv sc 146 0 [.ref 91, .int (zb b)] [] (zst p iv) Q ↔ Q none (zst p (w2 (w2 iv 91 11 (zb (f && b))) 91 10 (nI (i + (f && b).toNat)))) := by
  have tail : ∀ b : Bool, zEv sc 146 17 [.ref 91, .int (zb b)] [.int (zb b), .ref 91] (zst p iv) Q ↔ zEv sc 146 17 [.ref 91, .int (zb b)] [.int (zb b), .ref 91] (zst p iv) Q := fun _ => Iff.rfl
  have fin : ∀ (g : Bool) (w : Value), zEv sc 146 17 [.ref 91, w] [.int (zb g), .ref 91] (zst p iv) Q ↔ Q none (zst p (w2 (w2 iv 91 11 (zb g)) 91 10 (nI (i + g.toNat)))) := by
    intro g w
    have e10 : (w2 iv 91 11 (zb g)) 91 10 = nI i := by rw [w2_g (by omega)]; exact ha
    simp only [u146_17, u146_20, u146_21, u146_22, u146_25, u146_26, zb_01, true_and, z91.1, e10, w2_eq]
    rw [u146_29]
    cases g with
    | true =>
      rw [zb_t, if_neg (by decide)] at *
      simp only [u146_32, u146_33, u146_37, u146_38, u146_41, u146_36, z91.1, nI_1]
      rfl
    | false =>
      rw [zb_f, if_pos rfl] at *
      simp only [u146_37, u146_38, u146_41, u146_36, z91.1, ← nI_0, nI_add]
      rfl
  simp only [u146_0, u146_1, u146_2, z91.1, hf]
  rw [u146_5]
  cases f with
  | true =>
    rw [zb_t, if_neg (by decide), u146_8, u146_9]
    cases b with
    | true =>
      rw [zb_t, if_neg (by decide)]
      simp only [u146_12, u146_13]
      exact fin true _
    | false =>
      rw [zb_f, if_pos rfl, u146_16]
      exact fin false _
  | false =>
    rw [zb_f, if_pos rfl, u146_16]
    exact fin false _
theorem m_readDigits {v3 v4 : Value} (T : tPt iv t) (hf : iv 91 11 = 1) (ha : iv 91 10 = nI i) (hi : i < 500) (hm : m ≤ 4) (hn : n ≤ 4) : ∃ iv2, iv2 91 10 = nI (rdG t m i 0).1 ∧ iv2 91 11 = zb (decide (n ≤ (rdG t m i 0).1 - i)) ∧ (∀ g, g ≠ 10 → g ≠ 11 → iv2 91 g = iv 91 g) ∧ rM iv2 iv ∧ ∀ (Q : Option Value → zA → Prop), Q (some (.int (nI (rdG t m i 0).2))) (zst p iv2) → zEv sc 147 0 [.ref 91, .int (nI n), .int (nI m), v3, v4] [] (zst p iv) Q := by
  have endd : ∀ (iv1 : Nat → Nat → Int32) (a c : Nat), iv1 91 11 = 1 → c ≤ 4 → ∀ (Q : Option Value → zA → Prop), Q (some (.int (nI a))) (zst p (w2 iv1 91 11 (zb (decide (n ≤ c))))) → zEv sc 147 54 [.ref 91, .int (nI n), .int (nI m), .int (nI a), .int (nI c)] [] (zst p iv1) Q := by
    intro iv1 a c h1 hc Q hQ
    simp only [u147_54, u147_55, u147_56, z91.1, h1]
    rw [u147_59, if_neg (by decide), u147_62, u147_64, u147_65]
    by_cases e : n ≤ c
    · rw [decide_eq_true e] at hQ
      rw [if_neg (by rw [nI_ltI (by omega) (by omega)]; omega)]
      simp only [u147_68, u147_69, u147_73, u147_76, u147_77, u147_72, z91.1, Option.toList_some, Option.toList_none, List.cons_append, List.nil_append, zRef_some, true_and, and_true, true_or, or_true, i10, i01]
      exact hQ
    · rw [decide_eq_false e] at hQ
      rw [if_pos (by rw [nI_ltI (by omega) (by omega)]; omega)]
      simp only [u147_73, u147_76, u147_77, u147_72, z91.1, Option.toList_some, Option.toList_none, List.cons_append, List.nil_append, zRef_some, true_and, and_true, true_or, or_true, i10, i01]
      exact hQ
  have loop : ∀ d c j acc (iv1 : Nat → Nat → Int32), m - c = d → c ≤ m → j = i + c → acc < 10 ^ c → iv1 91 11 = 1 → iv1 91 10 = nI j → rM iv1 iv → (∀ g, g ≠ 10 → g ≠ 11 → iv1 91 g = iv 91 g) → ∃ iv2, iv2 91 10 = nI (rdG t d j acc).1 ∧ iv2 91 11 = zb (decide (n ≤ (rdG t d j acc).1 - i)) ∧ (∀ g, g ≠ 10 → g ≠ 11 → iv2 91 g = iv 91 g) ∧ rM iv2 iv ∧ ∀ (Q : Option Value → zA → Prop), Q (some (.int (nI (rdG t d j acc).2))) (zst p iv2) → zEv sc 147 5 [.ref 91, .int (nI n), .int (nI m), .int (nI acc), .int (nI c)] [] (zst p iv1) Q := by
    intro d
    induction d with
    | zero =>
      intro c j acc iv1 hd hc hj hacc h1 h2 h3 h4
      have : c = m := by omega
      subst this
      refine ⟨w2 iv1 91 11 (zb (decide (n ≤ j - i))), by rw [w2_g (by omega)]; exact h2, w2_eq, fun g e1 e2 => by rw [w2_g e2]; exact h4 g e1 e2, (rM.wr (by omega)).tr h3, fun Q hQ => ?_⟩
      rw [u147_5]
      simp only [u147_6, z91.1, h1]
      rw [u147_9, if_neg (by decide), u147_12, u147_14, u147_15, if_pos (Int32.le_refl _)]
      refine endd iv1 acc c h1 (by omega) Q ?_
      rw [show j - i = c by omega] at hQ
      exact hQ
    | succ d ih =>
      intro c j acc iv1 hd hc hj hacc h1 h2 h3 h4
      have T1 := h3.tp T
      have hcl : chr t j ≤ 126 := by
        by_cases e : j < t.length
        · exact (T.2.2 j e).2.2
        · rw [chr_out (by omega)]; omega
      have hacc4 : acc < 10000 := Nat.lt_of_lt_of_le hacc (by
        rcases (show c = 0 ∨ c = 1 ∨ c = 2 ∨ c = 3 by omega) with rfl | rfl | rfl | rfl <;> decide)
      unfold rdG
      have head : ∀ Q, zEv sc 147 5 [.ref 91, .int (nI n), .int (nI m), .int (nI acc), .int (nI c)] [] (zst p iv1) Q ↔ (if zb (isDg (chr t j)) = 0 then zEv sc 147 54 [.ref 91, .int (nI n), .int (nI m), .int (nI acc), .int (nI c)] [] (zst p iv1) Q else zEv sc 147 25 [.ref 91, .int (nI n), .int (nI m), .int (nI acc), .int (nI c)] [] (zst p iv1) Q) := by
        intro Q
        rw [u147_5]
        simp only [u147_6, z91.1, h1]
        rw [u147_9, if_neg (by decide), u147_12, u147_14, u147_15, if_neg (by rw [nI_leI (by omega) (by omega)]; omega)]
        simp only [u147_18, u147_19, u147_22, Option.toList_some, Option.toList_none, List.cons_append, List.nil_append, zRef_some, true_and, and_true, true_or, or_true, i10, i01, z91.1, m_isDigit T1 h2 (show j < 1000 by omega)]
      by_cases hd2 : isDg (chr t j) = true
      · rw [if_pos hd2]
        have hd3 := of_decide_eq_true hd2
        have hjl : j < t.length := chr_in (by omega)
        have hhr : hr t j = nI (chr t j) := by unfold hr; rw [if_pos hjl]
        obtain ⟨iv2, g1, g2, g3, g4, g5⟩ := ih (c + 1) (j + 1) (acc * 10 + (chr t j - 48)) (w2 iv1 91 10 (nI (j + 1))) (by omega) (by omega) (by omega) (by rw [Nat.pow_succ]; omega) (by rw [w2_g (by omega)]; exact h1) w2_eq ((rM.wr (by omega)).tr h3) (fun g e1 e2 => by rw [w2_g e1]; exact h4 g e1 e2)
        refine ⟨iv2, g1, g2, g3, g4, fun Q hQ => (head Q).mpr ?_⟩
        rw [hd2, zb_t, if_neg (by decide)]
        have ev : nI 10 * nI acc + nI (chr t j) - nI 48 = nI (acc * 10 + (chr t j - 48)) := by
          rw [pk_mul, nI_add, pk_sub (by omega)]
          congr 1
          omega
        simp only [u147_25, u147_27, u147_28, u147_29, u147_30, Option.toList_some, Option.toList_none, List.cons_append, List.nil_append, zRef_some, true_and, and_true, true_or, or_true, i10, i01, z91.1, m_here T1 h2 (show j < 1000 by omega), hhr]
        simp only [u147_33, u147_34, u147_36, u147_37, u147_38, u147_39, u147_40, u147_43, u147_44, u147_45, u147_48, u147_51, z91.1, h2, nI_1]
        rw [show (10 : Int32) = nI 10 from rfl, show (48 : Int32) = nI 48 from rfl, ev]
        exact g5 Q hQ
      · rw [if_neg hd2]
        refine ⟨w2 iv1 91 11 (zb (decide (n ≤ j - i))), by rw [w2_g (by omega)]; exact h2, w2_eq, fun g e1 e2 => by rw [w2_g e2]; exact h4 g e1 e2, (rM.wr (by omega)).tr h3, fun Q hQ => (head Q).mpr ?_⟩
        rw [Bool.not_eq_true] at hd2
        rw [hd2, zb_f, if_pos rfl]
        refine endd iv1 acc c h1 (by omega) Q ?_
        have hQ : Q (some (.int (nI acc))) (zst p (w2 iv1 91 11 (zb (decide (n ≤ j - i))))) := hQ
        rw [show j - i = c by omega] at hQ
        exact hQ
  obtain ⟨iv2, g1, g2, g3, g4, g5⟩ := loop m 0 i 0 iv (by omega) (by omega) rfl (by decide) hf ha rM.rf (fun _ _ _ => rfl)
  refine ⟨iv2, g1, g2, g3, g4, fun Q hQ => ?_⟩
  have l0 := g5 Q hQ
  rw [nI_0] at l0
  simp only [u147_0, u147_1, u147_2, u147_3]
  exact l0
/-- a test of the sign here -/
theorem m_rdNo {v3 v4 : Value} {l m : Int32} (hf : iv 91 11 = 0) : zEv sc 147 0 [.ref 91, .int l, .int m, v3, v4] [] (zst p iv) Q ↔ Q (some (.int 0)) (zst p (w2 iv 91 11 0)) := by
  simp only [u147_0, u147_1, u147_2, u147_3, u147_5, u147_6, z91.1, hf]
  rw [u147_9, if_pos rfl]
  simp only [u147_54, u147_55, u147_56, z91.1, hf]
  rw [u147_59, if_pos rfl]
  simp only [u147_73, u147_76, u147_77, u147_72, z91.1, Option.toList_some, Option.toList_none, List.cons_append, List.nil_append, zRef_some, true_and, and_true, true_or, or_true, i10, i01]
theorem rp_last (T : tPt iv t) {f : Bool} (hf : iv 91 11 = zb f) (ha : iv 91 10 = nI i) (hi : i < 1000) : zEv sc 148 122 [.ref 91] [] (zst p iv) Q ↔ Q none (zst p (w2 (w2 iv 91 11 (zb (f && decide (chr t i = 59)))) 91 10 (nI (i + (f && decide (chr t i = 59)).toNat)))) := by
  have he := hr_eq (i := i) (c := 59) T (by omega) (by omega)
  have tk := fun b => m_takes (sc := sc) (p := p) (Q := fun r h9 => zEv sc 148 140 [.ref 91] (r.toList ++ []) h9 Q) (b := b) hf ha
  simp only [u148_122, u148_123, u148_124, u148_127, Option.toList_some, Option.toList_none, List.cons_append, List.nil_append, zRef_some, true_and, and_true, true_or, or_true, i10, i01, z91.1, m_here T ha hi]
  rw [u148_129, show (59 : Int32) = nI 59 from rfl]
  by_cases e : chr t i = 59
  · rw [if_neg (fun z => z (he.mpr e)), u148_132, u148_133, u148_137 z91.1]
    have k := tk true
    rw [zb_t] at k
    rw [k, decide_eq_true e]
    simp only [u148_140, Option.toList_some, Option.toList_none, List.cons_append, List.nil_append, zRef_some, true_and, and_true, true_or, or_true, i10, i01]
  · rw [if_pos (fun z => e (he.mp z)), u148_136, u148_137 z91.1]
    have k := tk false
    rw [zb_f] at k
    rw [k, decide_eq_false e]
    simp only [u148_140, Option.toList_some, Option.toList_none, List.cons_append, List.nil_append, zRef_some, true_and, and_true, true_or, or_true, i10, i01]
theorem rp_fail (T : tPt iv t) (hf : iv 91 11 = 0) (ha : iv 91 10 = nI i) (hi : i < 1000) : ∃ iv2, iv2 91 10 = nI i ∧ iv2 91 11 = 0 ∧ rM iv2 iv ∧ iv2 91 12 = iv 91 12 ∧ ∀ (Q : Option Value → zA → Prop), isV (iv 92) cs → Q none (zst p iv2) → zEv sc 148 66 [.ref 91] [] (zst p iv) Q := by
  obtain ⟨iv1, hiv1⟩ : ∃ iv1, iv1 = w2 (w2 iv 91 11 0) 91 14 0 := ⟨_, rfl⟩
  have k1 : rM iv1 iv := by rw [hiv1]; exact (rM.wr (by omega)).tr (rM.wr (by omega))
  have f1 : iv1 91 11 = zb false := by rw [hiv1, w2_g (by omega), w2_eq]; rfl
  have a1 : iv1 91 10 = nI i := by rw [hiv1, w2_g (by omega), w2_g (by omega)]; exact ha
  refine ⟨w2 (w2 iv1 91 11 (zb (false && decide (chr t i = 59)))) 91 10 (nI (i + (false && decide (chr t i = 59)).toNat)), w2_eq, by rw [w2_g (by omega), w2_eq]; rfl, ((rM.wr (by omega)).tr (rM.wr (by omega))).tr k1, by rw [w2_g (by omega), w2_g (by omega), hiv1, w2_g (by omega), w2_g (by omega)], fun Q V hQ => ?_⟩
  simp only [u148_66, u148_67, u148_68, u148_69, u148_72, u148_73, u148_74, u148_75, u148_78, u148_79, u148_80, u148_83, Option.toList_some, Option.toList_none, List.cons_append, List.nil_append, zRef_some, true_and, and_true, true_or, or_true, i10, i01, z91.1, z91.2.1, z91r.1, z92l.1, c0, v0, m_rdNo hf]
  rw [← hiv1]
  simp only [u148_86, u148_87, z91.1, f1]
  rw [u148_90, if_pos (show zb false = 0 from rfl)]
  exact (rp_last (k1.tp T) f1 a1 hi).mpr hQ
theorem rp_48 (T : tPt iv t) {f : Bool} (hf : iv 91 11 = zb f) (ha : iv 91 10 = nI i) (hi : i < 1000) : zEv sc 148 48 [.ref 91] [] (zst p iv) Q ↔ zEv sc 148 66 [.ref 91] [] (zst p (w2 (w2 iv 91 11 (zb (f && decide (chr t i = 58)))) 91 10 (nI (i + (f && decide (chr t i = 58)).toNat)))) Q := by
  have he := hr_eq (i := i) (c := 58) T (by omega) (by omega)
  have tk := fun b => m_takes (sc := sc) (p := p) (Q := fun r h9 => zEv sc 148 66 [.ref 91] (r.toList ++ []) h9 Q) (b := b) hf ha
  simp only [u148_48, u148_49, u148_50, u148_53, Option.toList_some, Option.toList_none, List.cons_append, List.nil_append, zRef_some, true_and, and_true, true_or, or_true, i10, i01, z91.1, m_here T ha hi]
  rw [u148_55, show (58 : Int32) = nI 58 from rfl]
  by_cases e : chr t i = 58
  · rw [if_neg (fun z => z (he.mpr e)), u148_58, u148_59, u148_63 z91.1]
    have k := tk true
    rw [zb_t] at k
    rw [k, decide_eq_true e]
    simp only [Option.toList_some, Option.toList_none, List.cons_append, List.nil_append, zRef_some, true_and, and_true, true_or, or_true, i10, i01]
  · rw [if_pos (fun z => e (he.mp z)), u148_62, u148_63 z91.1]
    have k := tk false
    rw [zb_f] at k
    rw [k, decide_eq_false e]
    simp only [Option.toList_some, Option.toList_none, List.cons_append, List.nil_append, zRef_some, true_and, and_true, true_or, or_true, i10, i01]
theorem rp_0 (T : tPt iv t) (ha : iv 91 10 = nI i) (hi : i < 1000) : zEv sc 148 0 [.ref 91] [] (zst p iv) Q ↔ zEv sc 148 48 [.ref 91] [] (zst p (w2 (w2 (w2 (w2 (w2 iv 91 11 1) 91 15 1) 91 13 (hr t i - 48)) 91 11 (zb (decide (chr t i = 48 ∨ chr t i = 49)))) 91 10 (nI (i + (decide (chr t i = 48 ∨ chr t i = 49)).toNat)))) Q := by
  obtain ⟨iv1, hiv1⟩ : ∃ iv1, iv1 = w2 (w2 (w2 iv 91 11 1) 91 15 1) 91 13 (hr t i - 48) := ⟨_, rfl⟩
  have k1 : rM iv1 iv := by rw [hiv1]; exact (rM.wr (by omega)).tr ((rM.wr (by omega)).tr (rM.wr (by omega)))
  have k0 : rM (w2 (w2 iv 91 11 1) 91 15 1) iv := (rM.wr (by omega)).tr (rM.wr (by omega))
  have T1 := k1.tp T
  have T0 := k0.tp T
  have a0 : (w2 (w2 iv 91 11 1) 91 15 1) 91 10 = nI i := by rw [w2_g (by omega), w2_g (by omega)]; exact ha
  have a1 : iv1 91 10 = nI i := by rw [hiv1, w2_g (by omega)]; exact a0
  have f1 : iv1 91 11 = zb true := by rw [hiv1, w2_g (by omega), w2_g (by omega), w2_eq]; rfl
  have he8 := hr_eq (i := i) (c := 48) T (by omega) (by omega)
  have he9 := hr_eq (i := i) (c := 49) T (by omega) (by omega)
  have tk := fun b => m_takes (sc := sc) (p := p) (Q := fun r h9 => zEv sc 148 48 [.ref 91] (r.toList ++ []) h9 Q) (b := b) f1 a1
  simp only [u148_0, u148_1, u148_2, u148_5, u148_6, u148_7, u148_10, u148_11, u148_12, u148_15, u148_17, u148_18, Option.toList_some, Option.toList_none, List.cons_append, List.nil_append, zRef_some, true_and, and_true, true_or, or_true, i10, i01, z91.1, m_here T0 a0 hi]
  rw [← hiv1]
  simp only [u148_21, u148_22, u148_23, u148_26, Option.toList_some, Option.toList_none, List.cons_append, List.nil_append, zRef_some, true_and, and_true, true_or, or_true, i10, i01, z91.1, m_here T1 a1 hi]
  rw [u148_28, show (48 : Int32) = nI 48 from rfl]
  have yes : ∀ (e : chr t i = 48 ∨ chr t i = 49), zEv sc 148 40 [.ref 91] [.ref 91] (zst p iv1) Q ↔ zEv sc 148 48 [.ref 91] [] (zst p (w2 (w2 iv1 91 11 (zb (decide (chr t i = 48 ∨ chr t i = 49)))) 91 10 (nI (i + (decide (chr t i = 48 ∨ chr t i = 49)).toNat)))) Q := by
    intro e
    rw [u148_40, u148_41, u148_45 z91.1]
    have k := tk true
    rw [zb_t] at k
    rw [k, decide_eq_true e]
    simp only [Option.toList_some, Option.toList_none, List.cons_append, List.nil_append, zRef_some, true_and, and_true, true_or, or_true, i10, i01, Bool.true_and]
  by_cases e : chr t i = 48
  · rw [if_pos (he8.mpr e)]
    exact yes (Or.inl e)
  · rw [if_neg (fun z => e (he8.mp z))]
    simp only [u148_31, u148_32, u148_35, Option.toList_some, Option.toList_none, List.cons_append, List.nil_append, zRef_some, true_and, and_true, true_or, or_true, i10, i01, z91.1, m_here T1 a1 hi]
    rw [u148_37, show (49 : Int32) = nI 49 from rfl]
    by_cases e2 : chr t i = 49
    · rw [if_neg (fun z => z (he9.mpr e2))]
      exact yes (Or.inr e2)
    · rw [if_pos (fun z => e2 (he9.mp z)), u148_44, u148_45 z91.1]
      have k := tk false
      rw [zb_f] at k
      rw [k, decide_eq_false (show ¬ (chr t i = 48 ∨ chr t i = 49) from fun z => z.elim e e2)]
      simp only [Option.toList_some, Option.toList_none, List.cons_append, List.nil_append, zRef_some, true_and, and_true, true_or, or_true, i10, i01, Bool.true_and]
end ZMD
