/-! ===== FieldMixturesModel: undo, texts, the calls that ask ===== -/
section ZM8
variable {sc : Nat × (Nat → Int32)} {Q : Option Value → zA → Prop} {h : zA} {p : Nat → Option Nat} {iv : Nat → Nat → Int32} {cs d : CS} {hs : List CS} {t : List Nat} {x y z w lo hi : Int32} {q k i : Nat}
def bkF (iv : Nat → Nat → Int32) (s n : Nat) : Nat → Nat → Int32 := fun c g => if c = 92 ∧ g < n then iv 94 (s + g) else iv c g
theorem bkF_s {s n : Nat} : w2 (bkF iv s n) 92 n (bkF iv s n 94 (s + n)) = bkF iv s (n + 1) := by
  funext c g
  rw [w2_at]
  unfold bkF
  rw [if_neg (show ¬ (94 = 92 ∧ s + n < n) by omega)]
  by_cases e : c = 92
  · by_cases e2 : g = n
    · rw [if_pos ⟨e, e2⟩, if_pos (by omega), e2]
    · rw [if_neg (fun z => e2 z.2)]
      by_cases e3 : g < n
      · rw [if_pos ⟨e, e3⟩, if_pos (by omega)]
      · rw [if_neg (fun z => e3 z.2), if_neg (by omega)]
  · rw [if_neg (fun z => e z.1), if_neg (fun z => e z.1), if_neg (fun z => e z.1)]
theorem M_undo {v1 : Value} (R : RM iv cs hs t) : OKm sc 141 [.ref 91, v1] p iv (sUndo cs hs).1 (sUndo cs hs).2.1 (sUndo cs hs).2.2 t := by
  obtain ⟨r1, r2, ⟨r3, r4, r5⟩, r6⟩ := id R
  unfold sUndo
  rcases List.eq_nil_or_concat hs with e | ⟨hs', d, e⟩
  · subst e
    refine ⟨iv, R, FM.rf, fun Q hQ => ?_⟩
    have e1 : iv 91 3 = 0 := r3
    simp only [u141_0, u141_1, u141_4, u141_7, u141_9, z91.1, e1, not_true_eq_false, if_false]
    exact hQ
  · rw [List.concat_eq_append] at e
    subst e
    rw [List.getLast?_concat, List.dropLast_concat]
    show OKm sc 141 [.ref 91, v1] p iv (nI ((hs' ++ [d]).length - 1)) d hs' t
    rw [List.length_append, List.length_singleton] at r3 r4
    have hj := r5 hs'.length d (by rw [List.getElem?_append_right (Nat.le_refl _), Nat.sub_self]; rfl)
    have vne : ∀ n c, c ≠ 92 → bkF (w2 iv 91 3 (nI hs'.length)) (66 * hs'.length) n c = w2 iv 91 3 (nI hs'.length) c := fun n c hc => by
      funext g
      unfold bkF
      rw [if_neg (fun z => hc z.1)]
    refine ⟨bkF (w2 iv 91 3 (nI hs'.length)) (66 * hs'.length) 66, ⟨hj.1.congr hj.2 (fun k hk => ?_), hj.2, ⟨by rw [vne _ _ (by omega), w2_eq], by omega, fun j c hc => ?_⟩, by rw [vne _ _ (by omega), w2_g (by omega)]; exact r6.1, r6.2.1, by rw [vne _ _ (by omega), w2_c (by omega)]; exact r6.2.2⟩, fun c hc => by rw [vne _ _ (by omega), w2_c (by omega)], fun Q hQ => ?_⟩
    · show bkF (w2 iv 91 3 (nI hs'.length)) (66 * hs'.length) 66 92 k = iv 94 (66 * hs'.length + k)
      unfold bkF
      rw [if_pos ⟨rfl, hk⟩, w2_c (by omega)]
    · have hlt : j < hs'.length := by
        by_cases e9 : j < hs'.length
        · exact e9
        · rw [List.getElem?_eq_none (by omega)] at hc; cases hc
      have := r5 j c (by rw [List.getElem?_append_left hlt]; exact hc)
      rw [vne _ _ (by omega), w2_c (by omega)]
      exact this
    · have hQ : Q (some (.int (nI ((hs' ++ [d]).length - 1)))) (zst p (bkF (w2 iv 91 3 (nI hs'.length)) (66 * hs'.length) 66)) := hQ
      rw [List.length_append, List.length_singleton, Nat.add_sub_cancel] at hQ
      have e913 : ∀ n, bkF (w2 iv 91 3 (nI hs'.length)) (66 * hs'.length) n 91 3 = nI hs'.length := fun n => by rw [vne _ _ (by omega), w2_eq]
      have loop : ∀ d n, 66 - n = d → n ≤ 66 → zEv sc 141 22 [.ref 91, .int (nI n)] [] (zst p (bkF (w2 iv 91 3 (nI hs'.length)) (66 * hs'.length) n)) Q := by
        intro d
        induction d with
        | zero =>
          intro n hd hn
          have : n = 66 := by omega
          subst this
          rw [u141_22, u141_23, u141_25, if_pos (by decide)]
          simp only [u141_54, u141_55, u141_58, z91.1, e913]
          exact hQ
        | succ d ih =>
          intro n hd hn
          have ih1 := ih (n + 1) (by omega) (by omega)
          rw [u141_22, u141_23, u141_25, n66, if_neg (by rw [nI_leI (by omega) (by omega)]; omega)]
          simp only [u141_28, u141_29, u141_32, u141_33, u141_34, u141_37, u141_39, u141_40, u141_43, u141_44, u141_45, u141_46, u141_47, u141_48, u141_51, zRef_some, true_and, z91.1, z91.2.1, z91.2.2.2.1, z91r.1, z91r.2.2.1, z92l.1, z92l.2.2.1, e913, n66, pk_mul, nI_add, okN (show n < 66 by omega), nI_clamp (show n < 2 ^ 31 by omega), vp_in_nI (show 66 * hs'.length + n < 264 by omega) (by omega), nI_clamp (show 66 * hs'.length + n < 2 ^ 31 by omega), bkF_s, nI_1]
          exact ih1
      have l0 := loop _ 0 rfl (by omega)
      have e5 : bkF (w2 iv 91 3 (nI hs'.length)) (66 * hs'.length) 0 = w2 iv 91 3 (nI hs'.length) := by
        funext c g
        unfold bkF
        rw [if_neg (by omega)]
      rw [e5, nI_0] at l0
      simp only [u141_0, u141_1, u141_4, u141_7, u141_9, u141_10, u141_11, u141_12, u141_15, u141_16, u141_17, u141_20, u141_21, z91.1, r3, nI_ne0 (show 0 < hs'.length + 1 by omega) (show hs'.length + 1 < 2 ^ 31 by omega), not_false_eq_true, if_true, nI_pred]
      exact l0
theorem M_clear {v1 : Value} (R : RM iv cs hs t) : OKm sc 143 [.ref 91, v1] p iv (nI t.length) cs hs [] := by
  obtain ⟨r1, r2, ⟨r3, r4, r5⟩, r6⟩ := id R
  refine ⟨w2 iv 91 5 0, ⟨by rw [w2_c (by omega)]; exact r1, r2, ⟨by rw [w2_g (by omega)]; exact r3, r4, by rw [w2_c (by omega)]; exact r5⟩, w2_eq, Nat.zero_le _, fun k hk => absurd hk (Nat.not_lt_zero _)⟩, fun c hc => w2_c (by omega), fun Q hQ => ?_⟩
  simp only [u143_0, u143_1, u143_4, u143_5, u143_6, u143_7, u143_10, u143_11, z91.1, r6.1]
  exact hQ
theorem M_type (R : RM iv cs hs t) : OKm sc 142 [.ref 91, .int x] p iv (sType t x).1 cs hs (sType t x).2 := by
  obtain ⟨r1, r2, ⟨r3, r4, r5⟩, r6, r7, r8⟩ := id R
  unfold sType
  by_cases g1 : 32 ≤ x ∧ x ≤ 126
  · have d1 := decide_eq_true g1
    rw [if_pos g1]
    obtain ⟨k, hk1, hk2, rfl⟩ := in_nI2 (l := 32) (k := 126) (by omega) (by omega) g1.1 g1.2
    have head : ∀ Q, zEv sc 142 0 [.ref 91, .int (nI k)] [] (zst p iv) Q ↔ (if ¬ t.length = 80 then zEv sc 142 26 [.ref 91, .int (nI k)] [] (zst p iv) Q else zEv sc 142 23 [.ref 91, .int (nI k)] [] (zst p iv) Q) := by
      intro Q
      simp only [u142_0, u142_1, u142_3, u142_5, u142_8, u142_11, u142_13, u142_14, u142_15, u142_18, m_in, d1, zb_t, Option.toList_some, Option.toList_none, List.cons_append, List.nil_append, zRef_some, true_and, and_true, true_or, or_true, i10, i01, not_false_eq_true, if_true, z91.1, r6]
      rw [u142_20, show (80 : Int32) = nI 80 from rfl]
      simp only [nI_eq (show t.length < 2 ^ 31 by omega) (show 80 < 2 ^ 31 by omega)]
    by_cases g2 : 80 ≤ t.length
    · rw [if_pos g2]
      refine ⟨iv, R, FM.rf, fun Q hQ => ?_⟩
      rw [head, if_neg (by omega)]
      simp only [u142_23, u142_25]
      exact hQ
    · rw [if_neg g2, tn_nI (by omega)]
      refine ⟨w2 (w2 iv 95 t.length (nI k)) 91 5 (nI (t.length + 1)), ⟨by rw [w2_c (by omega), w2_c (by omega)]; exact r1, r2, ⟨by rw [w2_g (by omega), w2_c (by omega)]; exact r3, r4, by rw [w2_c (by omega), w2_c (by omega)]; exact r5⟩, by rw [w2_eq, List.length_append]; rfl, by rw [List.length_append, List.length_singleton]; omega, fun j hj => ?_⟩, fun c hc => by rw [w2_c (by omega), w2_c (by omega)], fun Q hQ => ?_⟩
      · rw [List.length_append, List.length_singleton] at hj
        rw [chr_snoc, w2_c (by omega), w2_at]
        by_cases e : j = t.length
        · rw [if_pos e, if_pos ⟨rfl, e⟩]; exact ⟨rfl, hk1, hk2⟩
        · rw [if_neg e, if_neg (fun z => e z.2)]; exact r8 j (by omega)
      · rw [head, if_pos (by omega)]
        simp only [u142_26, u142_27, u142_30, u142_31, u142_34, u142_35, u142_36, u142_37, u142_38, u142_41, u142_42, u142_43, u142_46, u142_47, u142_50, zRef_some, true_and, z91.1, z91.2.2.2.2.1, z91r.2.2.2.1, z92l.2.2.2.1, r6, w2_c (show (91 : Nat) ≠ 95 by omega), vp_in_nI (show t.length < 80 by omega) (by omega), nI_clamp (show t.length < 2 ^ 31 by omega), nI_1, w2_eq]
        exact hQ
  · rw [if_neg g1]
    refine ⟨iv, R, FM.rf, fun Q hQ => ?_⟩
    simp only [u142_0, u142_1, u142_3, u142_5, u142_8, u142_11, u142_13, m_in, decide_eq_false g1, zb_f, Option.toList_some, Option.toList_none, List.cons_append, List.nil_append, zRef_some, true_and, and_true, true_or, or_true, i10, i01, not_true_eq_false, if_false]
    exact hQ
theorem lists_kp {iv2 : Nat → Nat → Int32} (e : ∀ c, c ≠ 96 → c ≠ 97 → iv2 c = iv c) : mKp iv2 iv := ⟨fun c hc => e c (by omega) (by omega), by rw [e 91 (by omega) (by omega)], by rw [e 91 (by omega) (by omega)]⟩
theorem M_alloc (R : RM iv cs hs t) : OKm sc 128 [.ref 91, .int x, .int y] p iv (sAlloc cs x y) cs hs t := by
  obtain ⟨V, o⟩ := R.v
  unfold sAlloc
  by_cases g1 : isQ x
  · have d1 := decide_eq_true g1
    by_cases g2 : -1 ≤ y
    · rw [if_pos ⟨g1, g2⟩]
      obtain ⟨q, hq, rfl⟩ := isQ_nI g1
      rw [tn_nI (by omega)]
      obtain ⟨iv2, q1, q2, -, q3⟩ := m_lists (sc := sc) (p := p) (v2 := .null) (v3 := .null) V o.1 hq
      have K := lists_kp q2
      refine ⟨iv2, R.keep K, K.fm, fun Q hQ => ?_⟩
      revert q1 hQ
      generalize alL cs q = L
      intro q1 hQ
      have hl := q1.2.1
      rw [show zEv sc 128 0 [.ref 91, .int (nI q), .int y] [] (zst p iv) Q ↔ zEv sc 97 0 [.ref 91, .int (nI q), .null, .null] [] (zst p iv) (fun r h9 => zEv sc 128 20 [.ref 91, .int (nI q), .int y] (r.toList ++ []) h9 Q) by
        simp only [u128_0, u128_1, u128_4, u128_7, u128_8, u128_9, u128_15, u128_16, u128_17, u128_12, u128_14, m_isPlayer, d1, zb_t, Option.toList_some, Option.toList_none, List.cons_append, List.nil_append, zRef_some, true_and, and_true, true_or, or_true, i10, i01, if_false, if_pos g2, z91.1]]
      refine q3 _ ?_
      simp only [u128_20, u128_21, Option.toList_some, Option.toList_none, List.cons_append, List.nil_append, zRef_some, true_and, and_true, true_or, or_true, i10, i01]
      by_cases g3 : y = -1
      · rw [if_pos g3] at hQ
        subst g3
        rw [if_neg (by decide)]
        simp only [u128_24, u128_25, u128_28, u128_29, u128_30, u128_60, zRef_some, true_and, z91.1, z91.2.2.2.2.2.2, z91r.2.2.2.2.2, z92l.2.2.2.2.2, vp_in_nI (show q < 2 by omega) (show (2 : Nat) < 2 ^ 31 by omega), nI_clamp (show q < 2 ^ 31 by omega), q1.1]
        exact hQ
      · rw [if_neg g3] at hQ
        have g4 := m1_le.mp ⟨g2, g3⟩
        rw [if_pos g4]
        have hx : ¬ y < 0 := by
          rw [Int32.lt_iff_toInt_lt]
          rw [Int32.le_iff_toInt_le] at g4
          omega
        obtain ⟨k, hk, rfl⟩ := nI_of hx
        rw [tn_nI hk] at hQ
        have g6 : nI k < nI L.length ↔ k < L.length := nI_ltI hk (by omega)
        simp only [u128_33, u128_34, u128_35, u128_38, u128_39, zRef_some, true_and, z91.1, z91.2.2.2.2.2.2, z91r.2.2.2.2.2, z92l.2.2.2.2.2, vp_in_nI (show q < 2 by omega) (show (2 : Nat) < 2 ^ 31 by omega), nI_clamp (show q < 2 ^ 31 by omega), q1.1]
        rw [u128_40]
        by_cases g5 : k < L.length
        · rw [if_pos (g6.mpr g5)] at hQ
          rw [if_neg (by rw [nI_leI (by omega) hk]; omega)]
          simp only [u128_60, u128_43, u128_44, u128_47, u128_50, u128_51, u128_52, u128_53, u128_54, u128_55, u128_58, zRef_some, true_and, z91.1, z91.2.2.2.2.2.1, z91r.2.2.2.2.1, z92l.2.2.2.2.1, n170, pk_mul, nI_add, vp_in_nI (show 170 * q + k < 340 by omega) (by omega), nI_clamp (show 170 * q + k < 2 ^ 31 by omega), q1.2.2 k g5]
          exact hQ
        · rw [if_neg (fun z => g5 (g6.mp z))] at hQ
          rw [if_pos (by rw [nI_leI (by omega) hk]; omega)]
          simp only [u128_60, u128_58]
          exact hQ
    · rw [if_neg (fun z => g2 z.2)]
      refine ⟨iv, R, FM.rf, fun Q hQ => ?_⟩
      simp only [u128_0, u128_1, u128_4, u128_7, u128_8, u128_9, u128_12, u128_14, m_isPlayer, d1, if_neg g2, zb_t, Option.toList_some, Option.toList_none, List.cons_append, List.nil_append, zRef_some, true_and, and_true, true_or, or_true, i10, i01, if_false]
      exact hQ
  · rw [if_neg (fun z => g1 z.1)]
    refine ⟨iv, R, FM.rf, fun Q hQ => ?_⟩
    simp only [u128_0, u128_1, u128_4, u128_7, u128_8, u128_9, u128_12, u128_14, m_isPlayer, decide_eq_false g1, zb_f, Option.toList_some, Option.toList_none, List.cons_append, List.nil_append, zRef_some, true_and, and_true, true_or, or_true, i10, i01, if_true]
    exact hQ
theorem M_gains (R : RM iv cs hs t) : OKm sc 129 [.ref 91, .int x, .int y] p iv (sGains cs x y) cs hs t := by
  obtain ⟨V, o⟩ := R.v
  have a0 : ∀ Q x, zEv sc 96 0 [.ref 91, .int 0, .int x, .null, .null, .null, .null, .null] [] (zst p iv) Q ↔ Q (some (.int (zb (isA cs 0 x)))) (zst p iv) := fun Q x => m_isAlloc (q := 0) V o.1.w (by omega)
  have a1 : ∀ Q x, zEv sc 96 0 [.ref 91, .int 1, .int x, .null, .null, .null, .null, .null] [] (zst p iv) Q ↔ Q (some (.int (zb (isA cs 1 x)))) (zst p iv) := fun Q x => m_isAlloc (q := 1) V o.1.w (by omega)
  unfold sGains
  refine ⟨iv, R, FM.rf, fun Q hQ => ?_⟩
  by_cases g1 : isA cs 0 x = true
  · by_cases g2 : isA cs 1 y = true
    · rw [if_pos ⟨g1, g2⟩] at hQ
      obtain ⟨a, ha, rfl, -⟩ := alwI_of o.1 (show 0 < 2 by omega) g1
      obtain ⟨b, hb, rfl, -⟩ := alwI_of o.1 (show 1 < 2 by omega) g2
      rw [tn_nI (by omega), tn_nI (by omega), Int32.add_comm] at hQ
      simp only [u129_0, u129_1, u129_2, u129_3, u129_6, u129_9, u129_10, u129_11, u129_12, u129_15, u129_18, u129_19, u129_20, u129_21, u129_24, u129_27, u129_28, u129_33, u129_31, z91.1, a0, a1, g1, g2, zb_t, Option.toList_some, Option.toList_none, List.cons_append, List.nil_append, zRef_some, true_and, and_true, true_or, or_true, i10, i01, if_false, m_gain V o.1 (show a < 10000 by omega) (show b < 10000 by omega)]
      exact hQ
    · rw [if_neg (fun z => g2 z.2)] at hQ
      rw [Bool.not_eq_true] at g2
      simp only [u129_0, u129_1, u129_2, u129_3, u129_6, u129_9, u129_10, u129_11, u129_12, u129_15, u129_18, u129_19, u129_20, u129_21, u129_24, u129_27, u129_28, u129_33, u129_31, z91.1, a0, a1, g1, g2, zb_t, zb_f, Option.toList_some, Option.toList_none, List.cons_append, List.nil_append, zRef_some, true_and, and_true, true_or, or_true, i10, i01, if_true, if_false]
      exact hQ
  · rw [if_neg (fun z => g1 z.1)] at hQ
    rw [Bool.not_eq_true] at g1
    simp only [u129_0, u129_1, u129_2, u129_3, u129_6, u129_9, u129_10, u129_11, u129_12, u129_15, u129_18, u129_19, u129_20, u129_21, u129_24, u129_27, u129_28, u129_33, u129_31, z91.1, a0, g1, zb_f, Option.toList_some, Option.toList_none, List.cons_append, List.nil_append, zRef_some, true_and, and_true, true_or, or_true, i10, i01, if_true]
    exact hQ
end ZM8
