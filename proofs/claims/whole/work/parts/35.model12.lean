/-! ===== FieldMixturesModel: better; reading ===== -/
section ZMC
variable {sc : Nat × (Nat → Int32)} {Q : Option Value → zA → Prop} {h : zA} {p : Nat → Option Nat} {iv : Nat → Nat → Int32} {cs d : CS} {hs : List CS} {t : List Nat} {x y z w lo hi : Int32} {q k i : Nat}
theorem M_better {v3 : Value} (R : RM iv cs hs t) : OKm sc 131 [.ref 91, .int x, .int y, v3] p iv (sBetter cs x y) cs hs t := by
  obtain ⟨V, o⟩ := R.v
  unfold sBetter
  by_cases g1 : isQ x ∧ isA cs (tn x) y = true
  · have d1 := decide_eq_true g1
    rw [if_pos g1]
    obtain ⟨q, hq, rfl⟩ := isQ_nI g1.1
    obtain ⟨g1a, g1b⟩ := g1
    rw [tn_nI (by omega)] at g1b ⊢
    obtain ⟨a, ha, rfl, -⟩ := alwI_of o.1 hq g1b
    rw [tn_nI (by omega)]
    obtain ⟨iv1, a1, a2, -, a4⟩ := m_lists (sc := sc) (p := p) (v2 := .null) (v3 := .null) V o.1 (show 0 < 2 by omega)
    have V1 : isV (iv1 92) cs := by rw [a2 92 (by omega) (by omega)]; exact V
    obtain ⟨iv2, b1, b2, b3, b4⟩ := m_lists (sc := sc) (p := p) (v2 := .null) (v3 := .null) V1 o.1 (show 1 < 2 by omega)
    have A0 : isLL iv2 0 (alL cs 0) := b3 _ a1
    rw [nI_0] at a4
    rw [show nI 1 = 1 from rfl] at b4
    have K : mKp iv2 iv := (lists_kp b2).tr (lists_kp a2)
    have V2 : isV (iv2 92) cs := by rw [b2 92 (by omega) (by omega)]; exact V1
    have Aq : isLL iv2 q (alL cs q) := by
      rcases (show q = 0 ∨ q = 1 by omega) with rfl | rfl
      · exact A0
      · exact b1
    have Aq1 : isLL iv2 (1 - q) (alL cs (1 - q)) := by
      rcases (show q = 0 ∨ q = 1 by omega) with rfl | rfl
      · exact b1
      · exact A0
    refine ⟨iv2, R.keep K, K.fm, fun Q hQ => ?_⟩
    obtain ⟨F, hF⟩ : ∃ F, F = fun z => bet cs q z a := ⟨_, rfl⟩
    rw [← hF] at hQ
    have hB : ∀ y, y < 10000 → ∀ Q, zEv sc 130 0 [.ref 91, .int (nI q), .int (nI y), .int (nI a), .null, .null, .null, .null, .null] [] (zst p iv2) Q ↔ Q (some (.int (zb (F y)))) (zst p iv2) := by
      intro y hy Q
      rw [hF]
      unfold bet
      exact m_isBetter V2 o hq hy (by omega) Aq1 (fun k hk => by have := (alL_at hk).1; omega)
    have hlt : ∀ k, k < (alL cs q).length → (alL cs q).getD k 0 < 10000 := fun k hk => by have := (alL_at hk).1; omega
    clear hF
    revert hQ Aq hlt
    generalize alL cs q = L
    intro Aq hQ hlt
    have hl := Aq.2.1
    have loop : ∀ d i, L.length - i = d → i ≤ L.length → Q (some (.int (opN ((L.drop i).find? F)))) (zst p iv2) → zEv sc 131 24 [.ref 91, .int (nI q), .int (nI a), .int (nI i)] [] (zst p iv2) Q := by
      intro d
      induction d with
      | zero =>
        intro i hd hi hQ
        have : i = L.length := by omega
        subst this
        rw [List.drop_length] at hQ
        rw [u131_24]
        simp only [u131_25, u131_26, u131_29, u131_30, zRef_some, true_and, z91.1, z91.2.2.2.2.2.2, z91r.2.2.2.2.2, z92l.2.2.2.2.2, vp_in_nI (show q < 2 by omega) (show (2 : Nat) < 2 ^ 31 by omega), nI_clamp (show q < 2 ^ 31 by omega), Aq.1]
        rw [u131_31, if_pos (Int32.le_refl _)]
        simp only [u131_74, u131_76]
        exact hQ
      | succ d ih =>
        intro i hd hi hQ
        have hi2 : i < L.length := by omega
        rw [drop_getD hi2] at hQ
        have hL := hlt i hi2
        have e1 := Aq.2.2 i hi2
        rw [u131_24]
        simp only [u131_25, u131_26, u131_29, u131_30, zRef_some, true_and, z91.1, z91.2.2.2.2.2.2, z91r.2.2.2.2.2, z92l.2.2.2.2.2, vp_in_nI (show q < 2 by omega) (show (2 : Nat) < 2 ^ 31 by omega), nI_clamp (show q < 2 ^ 31 by omega), Aq.1]
        rw [u131_31, if_neg (by rw [nI_leI (by omega) (by omega)]; omega)]
        simp only [u131_34, u131_35, u131_36, u131_37, u131_40, u131_43, u131_44, u131_45, u131_46, u131_47, u131_48, u131_49, Option.toList_some, Option.toList_none, List.cons_append, List.nil_append, zRef_some, true_and, and_true, true_or, or_true, i10, i01, z91.1, z91.2.2.2.2.2.1, z91r.2.2.2.2.1, z92l.2.2.2.2.1, n170, pk_mul, nI_add, vp_in_nI (show 170 * q + i < 340 by omega) (by omega), nI_clamp (show 170 * q + i < 2 ^ 31 by omega), e1, hB _ hL]
        rw [u131_52]
        rcases Bool.eq_false_or_eq_true (F (L.getD i 0)) with hb | hb
        · rw [List.find?_cons_of_pos hb] at hQ
          rw [hb, zb_t, if_neg (by decide)]
          simp only [u131_55, u131_56, u131_59, u131_62, u131_63, u131_64, u131_65, u131_66, u131_67, zRef_some, true_and, z91.1, z91.2.2.2.2.2.1, z91r.2.2.2.2.1, z92l.2.2.2.2.1, n170, pk_mul, nI_add, vp_in_nI (show 170 * q + i < 340 by omega) (by omega), nI_clamp (show 170 * q + i < 2 ^ 31 by omega), e1]
          exact hQ
        · rw [List.find?_cons_of_neg (by rw [hb]; exact Bool.false_ne_true)] at hQ
          rw [hb, zb_f, if_pos rfl]
          simp only [u131_68, u131_71, nI_1]
          exact ih (i + 1) (by omega) (by omega) hQ
    have l0 := loop _ 0 rfl (by omega) hQ
    rw [nI_0] at l0
    simp only [u131_0, u131_1, u131_2, u131_3, u131_6, u131_9, u131_11, u131_12, u131_13, u131_14, Option.toList_some, Option.toList_none, List.cons_append, List.nil_append, zRef_some, true_and, and_true, true_or, or_true, i10, i01, z91.1, m_isOwn V o, d1, zb_t, not_false_eq_true, if_true]
    refine a4 _ ?_
    simp only [u131_17, u131_18, u131_19, Option.toList_some, Option.toList_none, List.cons_append, List.nil_append, zRef_some, true_and, and_true, true_or, or_true, i10, i01, z91.1]
    refine b4 _ ?_
    simp only [u131_22, u131_23, Option.toList_some, Option.toList_none, List.cons_append, List.nil_append, zRef_some, true_and, and_true, true_or, or_true, i10, i01]
    exact l0
  · rw [if_neg g1]
    refine ⟨iv, R, FM.rf, fun Q hQ => ?_⟩
    simp only [u131_0, u131_1, u131_2, u131_3, u131_6, u131_9, u131_11, Option.toList_some, Option.toList_none, List.cons_append, List.nil_append, zRef_some, true_and, and_true, true_or, or_true, i10, i01, z91.1, m_isOwn V o, decide_eq_false g1, zb_f, not_true_eq_false, if_false]
    exact hQ
-- reading
/-- the sign here, -1 behind the end -/
def hr (t : List Nat) (i : Nat) : Int32 := if i < t.length then nI (chr t i) else -1
theorem m_here (T : tPt iv t) (ha : iv 91 10 = nI i) (hi : i < 1000) : zEv sc 144 0 [.ref 91] [] (zst p iv) Q ↔ Q (some (.int (hr t i))) (zst p iv) := by
  obtain ⟨t1, t2, t3⟩ := T
  unfold hr
  simp only [u144_0, u144_1, u144_4, u144_5, z91.1, ha, t1]
  rw [u144_8]
  simp only [nI_leI (show t.length < 2 ^ 31 by omega) (show i < 2 ^ 31 by omega)]
  by_cases e : i < t.length
  · rw [if_neg (by omega), if_pos e]
    simp only [u144_11, u144_12, u144_15, u144_16, u144_19, u144_20, u144_24, u144_23, zRef_some, true_and, z91.1, z91.2.2.2.2.1, z91r.2.2.2.1, z92l.2.2.2.1, ha, vp_in_nI (show i < 80 by omega) (by omega), nI_clamp (show i < 2 ^ 31 by omega), (t3 i e).1]
  · rw [if_pos (by omega), if_neg e]
    simp only [u144_24, u144_23]
theorem hr_eq {c : Nat} (T : tPt iv t) (hc : 32 ≤ c) (hc2 : c < 1000) : (hr t i = nI c) ↔ chr t i = c := by
  unfold hr
  by_cases e : i < t.length
  · rw [if_pos e]
    have := (T.2.2 i e).2
    exact nI_eq (by omega) (by omega)
  · rw [if_neg e, chr_out (by omega)]
    refine ⟨fun z => ?_, fun z => by omega⟩
    have h0 := nI_pos' (show c < 2 ^ 31 by omega)
    rw [← z] at h0
    exact absurd h0 (by decide)
theorem m_isDigit (T : tPt iv t) (ha : iv 91 10 = nI i) (hi : i < 1000) : zEv sc 145 0 [.ref 91] [] (zst p iv) Q ↔ Q (some (.int (zb (isDg (chr t i))))) (zst p iv) := by
  have e : decide ((48 : Int32) ≤ hr t i ∧ hr t i ≤ 57) = isDg (chr t i) := by
    unfold hr
    by_cases e : i < t.length
    · rw [if_pos e]
      have := (T.2.2 i e).2
      exact isDg_I (by omega)
    · rw [if_neg e, chr_out (by omega)]
      decide
  simp only [u145_0, u145_1, u145_4, u145_6, u145_8, u145_11, Option.toList_some, Option.toList_none, List.cons_append, List.nil_append, zRef_some, true_and, and_true, true_or, or_true, i10, i01, z91.1, m_here T ha hi, m_in, e, zb_01]
end ZMC
