/-! ===== best replies, rounds, fractions ===== -/
/-- what a reply's object holds -/
def isBR (iv : Nat → Nat → Int32) (a : Nat) (s : Nat × Int × Nat) : Prop := iv a 2 = nI s.2.2 ∧ (0 < s.2.2 → iv a 0 = nI s.1 ∧ iv a 1 = iI s.2.1)
theorem isBR.keep {iv iv2 : Nat → Nat → Int32} {a : Nat} {s : Nat × Int × Nat} (h : isBR iv a s) (e : iv2 a = iv a) : isBR iv2 a s := by
  unfold isBR
  rw [e]
  exact h
section ZREP
variable {sc : Nat × (Nat → Int32)} {Q : Option Value → zA → Prop} {h : zA} {p : Nat → Option Nat} {iv : Nat → Nat → Int32} {b q n r a s : Nat} {cs : CS} {x lo hi : Int32} {bd : Nat → Nat} {l own : List (Nat × Nat)} {lst : List Nat}
theorem c_find {v1 v2 : Value} (ha : a = 86 ∨ a = 87) (ho : cOk cs) (om : mOk l) (hA : isAL iv (aL s) lst) (hs : isSc iv cs q l) (hlt : ∀ k, k < lst.length → lst.getD k 0 < 10000) : ∃ iv2, isBR iv2 a (bst (sco cs q l) lst) ∧ (∀ c, c ≠ a → iv2 c = iv c) ∧ ∀ (Q : Option Value → zA → Prop), Q none (zst p iv2) → zEv sc 5 0 [.ref a, .ref (aL s), .ref 80, v1, v2] [] (zst p iv) Q := by
  have hz : zO a 1 := by rcases ha with rfl | rfl; exact z86.1; exact z86.2
  obtain ⟨o1, o2, o3, o4⟩ := zAl_q (q := s)
  have hb := aL_b s
  have hn := ho.2.1
  have hlen := hA.2.1
  have habs : ∀ y, (sco cs q l y).natAbs < 2 ^ 31 := fun y => by have := sco_abs ho q om y; omega
  have loop := z_loop (σ := (Nat → Nat → Int32) × Value) (fun k st Q => zEv sc 5 7 [.ref a, .ref (aL s), .ref 80, .int (nI k), st.2] [] (zst p st.1) Q) (fun k st => isBR st.1 a (bst (sco cs q l) (lst.take k)) ∧ ∀ c, c ≠ a → st.1 c = iv c) lst.length (by
    intro k st hk ⟨g1, g2⟩
    have hA2 : isAL st.1 (aL s) lst := hA.keep (fun c e1 e2 => g2 c (by omega))
    have hs2 : isSc st.1 cs q l := hs.keep hn (fun c e1 e2 => g2 c (by omega))
    have hx := hlt k hk
    have hinv := bst_inv (sco cs q l) lst k (by omega)
    obtain ⟨t0, ht0⟩ : ∃ t0, t0 = bst (sco cs q l) (lst.take k) := ⟨_, rfl⟩
    obtain ⟨y, hy⟩ : ∃ y, y = lst.getD k 0 := ⟨_, rfl⟩
    rw [← ht0] at g1 hinv
    have hstep := bst_s (sco cs q l) lst k hk
    rw [← ht0, ← hy] at hstep
    rw [← hy] at hx
    have start : ∀ Q, zEv sc 5 7 [.ref a, .ref (aL s), .ref 80, .int (nI k), st.2] [] (zst p st.1) Q ↔ (if nI t0.2.2 = 0 then zEv sc 5 43 [.ref a, .ref (aL s), .ref 80, .int (nI k), .int (iI (sco cs q l y))] [] (zst p st.1) Q else if iI (sco cs q l y) ≤ st.1 a 1 then zEv sc 5 67 [.ref a, .ref (aL s), .ref 80, .int (nI k), .int (iI (sco cs q l y))] [] (zst p st.1) Q else zEv sc 5 43 [.ref a, .ref (aL s), .ref 80, .int (nI k), .int (iI (sco cs q l y))] [] (zst p st.1) Q) := by
      intro Q
      rw [u5_7, u5_8, u5_9 o1, hA2.1, u5_12, if_neg (by rw [nI_leI (by omega) (by omega)]; omega)]
      simp only [u5_15, u5_16, u5_17, u5_20, u5_21, u5_22, u5_25, u5_27, u5_28, u5_31, u5_34, u5_36, u5_37, u5_40, o1, o2, o3, o4, z80.1, hz, zRef_some, nI_clamp (show k < 2 ^ 31 by omega), vp_in_nI (show k < 165 by omega) (by omega), true_and, hA2.2.2 k hk, ← hy, c_of ho hs2 hx, Option.toList_some, Option.toList_none, List.cons_append, List.nil_append, zRef_some, true_and, and_true, true_or, or_true, i10, i01, g1.1]
    by_cases c1 : t0.2.2 = 0 ∨ t0.2.1 < sco cs q l y
    · refine ⟨(w2 (w2 (w2 st.1 a 0 (nI y)) a 1 (iI (sco cs q l y))) a 2 1, .int (iI (sco cs q l y))), ⟨?_, fun c hc => by show w2 _ _ _ _ c = _; rw [w2_c hc, w2_c hc, w2_c hc]; exact g2 c hc⟩, fun Q hQ => (start Q).mpr ?_⟩
      · rw [hstep]
        unfold bst1
        rw [if_pos c1]
        refine ⟨by show w2 _ _ _ _ _ _ = _; rw [w2_eq]; rfl, fun _ => ⟨?_, ?_⟩⟩
        · show w2 _ _ _ _ _ _ = _
          rw [w2_g (by omega), w2_g (by omega), w2_eq]
        · show w2 _ _ _ _ _ _ = _
          rw [w2_g (by omega), w2_eq]
      · have fin : zEv sc 5 43 [.ref a, .ref (aL s), .ref 80, .int (nI k), .int (iI (sco cs q l y))] [] (zst p st.1) Q := by
          simp only [u5_43, u5_44, u5_45, u5_48, u5_49, u5_50, u5_53, u5_54, u5_56, u5_59, u5_60, u5_61, u5_64, o1, o2, o3, o4, hz, zRef_some, nI_clamp (show k < 2 ^ 31 by omega), vp_in_nI (show k < 165 by omega) (by omega), true_and, hA2.2.2 k hk, ← hy]
          rw [u5_86, u5_89, nI_1]
          exact hQ
        by_cases c2 : t0.2.2 = 0
        · rw [c2, if_pos (show nI 0 = 0 from rfl)]; exact fin
        · have c3 := c1.resolve_left c2
          rw [if_neg (nI_ne0 (by omega) (by omega)), (g1.2 (by omega)).2, (hinv.2.2 (by omega)).2, if_neg (by rw [iI_le (habs _) (habs _), ← (hinv.2.2 (by omega)).2]; omega)]
          exact fin
    · have c2 : ¬ t0.2.2 = 0 := fun z => c1 (Or.inl z)
      have c3 : ¬ t0.2.1 < sco cs q l y := fun z => c1 (Or.inr z)
      have e1 := (g1.2 (by omega)).2
      have e2 := (hinv.2.2 (by omega)).2
      have start2 : ∀ Q, zEv sc 5 7 [.ref a, .ref (aL s), .ref 80, .int (nI k), st.2] [] (zst p st.1) Q ↔ (if ¬ iI (sco cs q l y) = iI t0.2.1 then zEv sc 5 86 [.ref a, .ref (aL s), .ref 80, .int (nI k), .int (iI (sco cs q l y))] [] (zst p st.1) Q else zEv sc 5 76 [.ref a, .ref (aL s), .ref 80, .int (nI k), .int (iI (sco cs q l y))] [] (zst p st.1) Q) := by
        intro Q
        rw [start, if_neg (nI_ne0 (by omega) (by omega)), e1, e2, if_pos (by rw [iI_le (habs _) (habs _), ← e2]; omega)]
        simp only [u5_67, u5_69, u5_70, u5_73, hz, e1, e2]
      by_cases c4 : sco cs q l y = t0.2.1
      · refine ⟨(w2 st.1 a 2 (nI (t0.2.2 + 1)), .int (iI (sco cs q l y))), ⟨?_, fun c hc => by show w2 _ _ _ _ c = _; rw [w2_c hc]; exact g2 c hc⟩, fun Q hQ => (start2 Q).mpr ?_⟩
        · rw [hstep]
          unfold bst1
          rw [if_neg c1, if_pos c4]
          refine ⟨by show w2 _ _ _ _ _ _ = _; rw [w2_eq], fun _ => ⟨?_, ?_⟩⟩
          · show w2 _ _ _ _ _ _ = _
            rw [w2_g (by omega)]; exact (g1.2 (by omega)).1
          · show w2 _ _ _ _ _ _ = _
            rw [w2_g (by omega)]; exact e1
        · rw [if_neg (fun z => z (by rw [c4]))]
          simp only [u5_76, u5_77, u5_78, u5_81, u5_82, u5_83, hz, g1.1, nI_1]
          rw [u5_86, u5_89, nI_1]
          exact hQ
      · refine ⟨(st.1, .int (iI (sco cs q l y))), ⟨?_, g2⟩, fun Q hQ => (start2 Q).mpr ?_⟩
        · rw [hstep]
          unfold bst1
          rw [if_neg c1, if_neg c4]
          exact g1
        · rw [if_pos (by rw [e2, iI_eq (habs _) (habs _), ← e2]; exact c4), u5_86, u5_89, nI_1]
          exact hQ)
  obtain ⟨⟨iv2, v9⟩, ⟨g1, g2⟩, g3⟩ := loop _ 0 (w2 iv a 2 0, v2) rfl (Nat.zero_le _) ⟨⟨by show w2 _ _ _ _ _ _ = _; rw [w2_eq]; rfl, fun z => by simp [bst] at z⟩, fun c hc => w2_c hc⟩
  dsimp only at g1 g2 g3
  rw [List.take_length] at g1
  refine ⟨iv2, g1, g2, fun Q hQ => ?_⟩
  have hA3 : isAL iv2 (aL s) lst := hA.keep (fun c e1 e2 => g2 c (by omega))
  have l1 := g3 Q (by
    rw [u5_7, u5_8, u5_9 o1, hA3.1, u5_12, if_pos (Int32.le_refl _)]
    simp only [u5_92]
    exact hQ)
  rw [nI_0] at l1
  simp only [u5_0, u5_1, u5_2, u5_5, u5_6, hz]
  exact l1
/-- one more of an allocation, if there is room -/
def mCan (l : List (Nat × Nat)) (x : Nat) : Bool := decide (mOf l x + 1 ≤ 99 ∧ (l.length < 12 ∨ mIn l x = true))
theorem c_addOne {m y : Nat} {v : Value} (hm : zMx m) (hl : isMix iv m l) (hy : y < 10000) : ∃ iv2, isMix iv2 m (if mCan l y then mSet l y (mOf l y + 1) else l) ∧ (∀ c, c < m ∨ m + 3 ≤ c → iv2 c = iv c) ∧ ∀ (Q : Option Value → zA → Prop), Q (some (.int (zb (mCan l y)))) (zst p iv2) → zEv sc 35 0 [.ref m, .int (nI y), v] [] (zst p iv) Q := by
  have hw := mOf_ok (x := y) hl.1
  have start : ∀ Q, zEv sc 35 0 [.ref m, .int (nI y), v] [] (zst p iv) Q ↔ (if (99 : Int32) < nI (mOf l y + 1) then zEv sc 35 22 [.ref m, .int (nI y), .int (nI (mOf l y + 1))] [] (zst p iv) Q else zEv sc 35 14 [.ref m, .int (nI y), .int (nI (mOf l y + 1))] [] (zst p iv) Q) := by
    intro Q
    simp only [u35_0, u35_1, u35_2, u35_5, u35_6, u35_7, u35_8, u35_9, u35_11, hm.1, c_weightOf hm hl hy, Option.toList_some, Option.toList_none, List.cons_append, List.nil_append, zRef_some, true_and, and_true, true_or, or_true, i10, i01, nI_1]
  by_cases h1 : mOf l y + 1 ≤ 99
  · have start2 : ∀ Q, zEv sc 35 0 [.ref m, .int (nI y), v] [] (zst p iv) Q ↔ (if ¬ zb (decide (l.length < 12 ∨ mIn l y = true)) = 0 then zEv sc 35 24 [.ref m, .int (nI y), .int (nI (mOf l y + 1))] [] (zst p iv) Q else zEv sc 35 22 [.ref m, .int (nI y), .int (nI (mOf l y + 1))] [] (zst p iv) Q) := by
      intro Q
      rw [start, show (99 : Int32) = nI 99 from rfl, if_neg (by rw [nI_ltI (by omega) (by omega)]; omega)]
      simp only [u35_14, u35_15, u35_16, u35_19, hm.1, c_hasRoomFor hm hl hy, Option.toList_some, Option.toList_none, List.cons_append, List.nil_append, zRef_some, true_and, and_true, true_or, or_true, i10, i01]
    by_cases h2 : l.length < 12 ∨ mIn l y = true
    · obtain ⟨iv2, g1, g2, g3⟩ := c_setWeight (sc := sc) (p := p) (w := mOf l y + 1) hm hl hy h2 (by omega) h1
      have e : mCan l y = true := decide_eq_true ⟨h1, h2⟩
      rw [e, if_pos rfl]
      refine ⟨iv2, g1, g2, fun Q hQ => (start2 Q).mpr ?_⟩
      rw [decide_eq_true h2, if_pos (by decide)]
      simp only [u35_24, u35_25, u35_26, u35_27, u35_30, u35_31, hm.1, g3, Option.toList_some, Option.toList_none, List.cons_append, List.nil_append, zRef_some, true_and, and_true, true_or, or_true, i10, i01]
      exact hQ
    · have e : mCan l y = false := decide_eq_false (fun z => h2 z.2)
      rw [e]
      refine ⟨iv, hl, fun c _ => rfl, fun Q hQ => (start2 Q).mpr ?_⟩
      rw [decide_eq_false h2, if_neg (by decide)]
      simp only [u35_22, u35_23, Option.toList_some, Option.toList_none, List.cons_append, List.nil_append, zRef_some, true_and, and_true, true_or, or_true, i10, i01]
      exact hQ
  · have e : mCan l y = false := decide_eq_false (fun z => h1 z.1)
    rw [e]
    refine ⟨iv, hl, fun c _ => rfl, fun Q hQ => (start Q).mpr ?_⟩
    rw [show (99 : Int32) = nI 99 from rfl, if_pos (by rw [nI_ltI (by omega) (by omega)]; omega)]
    simp only [u35_22, u35_23, Option.toList_some, Option.toList_none, List.cons_append, List.nil_append, zRef_some, true_and, and_true, true_or, or_true, i10, i01]
    exact hQ
-- fractions
theorem c_commonDivisor {u d : Nat} {v1 v2 v3 v4 : Value} (hu : u < 2 ^ 31) (hd0 : 0 < d) (hd : d < 2 ^ 31) : zEv sc 72 0 [.int (nI u), .int (nI d), v1, v2, v3, v4] [] h Q ↔ Q (some (.int (nI (Nat.gcd u d)))) h := by
  have loop : ∀ (t : Nat) (k A B : Nat) (v : Value), B < 2 ^ t → 2 * t + 1 + k ≤ 64 → A < 2 ^ 31 → B < 2 ^ 31 → Nat.gcd A B = Nat.gcd u d → (zEv sc 72 7 [.int (nI u), .int (nI d), .int (nI A), .int (nI B), .int (nI k), v] [] h Q ↔ Q (some (.int (nI (Nat.gcd u d)))) h) := by
    have done : ∀ (k A : Nat) (v : Value), k < 64 → A < 2 ^ 31 → Nat.gcd A 0 = Nat.gcd u d → (zEv sc 72 7 [.int (nI u), .int (nI d), .int (nI A), .int (nI 0), .int (nI k), v] [] h Q ↔ Q (some (.int (nI (Nat.gcd u d)))) h) := by
      intro k A v hk hA hg
      rw [Nat.gcd_zero_right] at hg
      have hpos : 0 < A := by
        rw [hg]
        exact Nat.gcd_pos_of_pos_right u hd0
      rw [u72_7, u72_9, show (64 : Int32) = nI 64 from rfl, u72_11, if_neg (by rw [nI_leI (by omega) (by omega)]; omega), u72_14, u72_15, if_pos (by decide)]
      simp only [u72_34, u72_35, u72_36, u72_39]
      rw [show (1 : Int32) = nI 1 from rfl, if_neg (by rw [nI_ltI (by omega) (by omega)]; omega), hg]
    have one : ∀ (k A B : Nat) (v : Value), k < 64 → A < 2 ^ 31 → 0 < B → B < 2 ^ 31 → (zEv sc 72 7 [.int (nI u), .int (nI d), .int (nI A), .int (nI B), .int (nI k), v] [] h Q ↔ zEv sc 72 7 [.int (nI u), .int (nI d), .int (nI B), .int (nI (A % B)), .int (nI (k + 1)), .int (nI (A % B))] [] h Q) := by
      intro k A B v hk hA hB hB2
      rw [u72_7, u72_9, show (64 : Int32) = nI 64 from rfl, u72_11, if_neg (by rw [nI_leI (by omega) (by omega)]; omega), u72_14, u72_15, if_neg (nI_nle hB hB2)]
      simp only [u72_18, u72_19, u72_20, u72_21, u72_23, u72_24, u72_25, u72_27, u72_28, u72_31, nI_ne0 hB hB2, not_false_eq_true, true_and, pk_rem hA hB hB2, nI_1]
    intro t
    induction t with
    | zero =>
      intro k A B v h1 h2 h3 h4 h5
      have : B = 0 := by
        rw [Nat.pow_zero] at h1
        omega
      subst this
      exact done k A v (by omega) h3 h5
    | succ t ih =>
      intro k A B v h1 h2 h3 h4 h5
      by_cases hB : B = 0
      · subst hB
        exact done k A v (by omega) h3 h5
      · have hm : A % B < B := Nat.mod_lt _ (by omega)
        have hg1 : Nat.gcd B (A % B) = Nat.gcd u d := by
          rw [← h5, Nat.gcd_comm B (A % B), ← Nat.gcd_rec, Nat.gcd_comm]
        rw [one k A B v (by omega) h3 (by omega) h4]
        by_cases hC : A % B = 0
        · rw [hC] at hg1 ⊢
          exact done (k + 1) B _ (by omega) h4 hg1
        · have hm2 : B % (A % B) < A % B := Nat.mod_lt _ (by omega)
          have hhalf : B % (A % B) < 2 ^ t := by
            have e1 := Nat.div_add_mod B (A % B)
            have e2 : 1 ≤ B / (A % B) := Nat.div_pos (by omega) (by omega)
            have e3 : A % B ≤ (A % B) * (B / (A % B)) := Nat.le_mul_of_pos_right _ (by omega)
            rw [Nat.pow_succ] at h1
            omega
          have hg2 : Nat.gcd (A % B) (B % (A % B)) = Nat.gcd u d := by
            rw [← hg1, Nat.gcd_comm (A % B) (B % (A % B)), ← Nat.gcd_rec, Nat.gcd_comm]
          rw [one (k + 1) B (A % B) _ (by omega) h4 (by omega) (by omega)]
          exact ih (k + 1 + 1) (A % B) (B % (A % B)) _ hhalf (by omega) (by omega) (by omega) hg2
  have l0 := loop 31 0 u d v4 (by omega) (by omega) hu hd rfl
  rw [nI_0] at l0
  simp only [u72_0, u72_1, u72_2, u72_3, u72_4, u72_5]
  exact l0
theorem iI_abs {u : Int} (hu : u.natAbs < 2 ^ 31) : (if 0 ≤ iI u then iI u else 0 - iI u) = nI u.natAbs := by
  by_cases h : 0 ≤ u
  · have h1 : (0 : Int32) ≤ iI u := by
      rw [Int32.le_iff_toInt_le, iI_toInt hu]
      exact h
    rw [if_pos h1, nI_iI]
    congr 1
    omega
  · have h1 : ¬ (0 : Int32) ≤ iI u := by
      rw [Int32.le_iff_toInt_le, iI_toInt hu]
      exact h
    rw [if_neg h1, show (0 : Int32) = iI 0 from rfl, iI_sub, nI_iI]
    congr 1
    omega
theorem prt_pos {u : Int} {d : Nat} (hd0 : 0 < d) (hd : d < 2 ^ 31) : ¬ nI (Nat.gcd u.natAbs d) = 0 := nI_ne0 (Nat.gcd_pos_of_pos_right _ hd0) (Nat.lt_of_le_of_lt (Nat.gcd_le_right _ hd0) hd)
theorem c_partOf {w : Int32} {u : Int} {d : Nat} {v : Value} (hu : u.natAbs < 2 ^ 31) (hd0 : 0 < d) (hd : d < 2 ^ 31) : zEv sc 73 0 [.int w, .int (iI u), .int (nI d), v] [] h Q ↔ Q (some (.int (prt w u d))) h := by
  have hg := prt_pos (u := u) hd0 hd
  have hgl : Nat.gcd u.natAbs d ≤ d := Nat.gcd_le_right _ hd0
  have hgp : 0 < Nat.gcd u.natAbs d := Nat.gcd_pos_of_pos_right _ hd0
  simp only [u73_0, u73_1, u73_4, u73_5, u73_8, u73_9, u73_10, u73_13, u73_16, u73_17, u73_18, u73_19, u73_20, u73_26, u73_23, u73_24, u73_25, iI_abs hu, c_commonDivisor hu hd0 hd, Option.toList_some, Option.toList_none, List.cons_append, List.nil_append, zRef_some, true_and, and_true, true_or, or_true, i10, i01, hg, not_false_eq_true, pk_div hd hgp (show Nat.gcd u.natAbs d < 2 ^ 31 by omega)]
  unfold prt
  by_cases e : w = 0
  · rw [if_neg (fun z => z e), if_pos e]
  · rw [if_pos e, if_neg e]
end ZREP
