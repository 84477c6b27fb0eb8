/-! ===== FieldMixturesModel: lists, fractions, replies, acted ===== -/
/-- a player's list in the model's rows -/
def isLL (iv : Nat → Nat → Int32) (q : Nat) (L : List Nat) : Prop := iv 97 q = nI L.length ∧ L.length ≤ 165 ∧ ∀ k, k < L.length → iv 96 (170 * q + k) = nI (L.getD k 0)
section ZM4
variable {sc : Nat × (Nat → Int32)} {Q : Option Value → zA → Prop} {h : zA} {p : Nat → Option Nat} {iv : Nat → Nat → Int32} {cs : CS} {hs : List CS} {t : List Nat} {x y z w lo hi : Int32} {q k i : Nat}
theorem m_lists {v2 v3 : Value} (hv : isV (iv 92) cs) (ho : cOk cs) (hq : q < 2) : ∃ iv2, isLL iv2 q (alL cs q) ∧ (∀ c, c ≠ 96 → c ≠ 97 → iv2 c = iv c) ∧ (∀ L, isLL iv (1 - q) L → isLL iv2 (1 - q) L) ∧ ∀ (Q : Option Value → zA → Prop), Q none (zst p iv2) → zEv sc 97 0 [.ref 91, .int (nI q), v2, v3] [] (zst p iv) Q := by
  obtain ⟨A, hA⟩ : ∃ A : Nat → List Nat, A = alsUp (cN cs) (cB cs q) (cR cs q) := ⟨_, rfl⟩
  have hlen : ∀ m, (A m).length ≤ 165 := fun m => by rw [hA]; exact alsUp_len ho.1 ho.2.1 (ho.2.2.2.2 q hq).1 m
  have hS : ∀ m, A (m + 1) = A m ++ (if alw (cN cs) (cB cs q) m (cR cs q) = true then [m] else []) := fun m => by rw [hA]; exact alsUp_s _ _ _ m
  have h0 : A 0 = [] := by rw [hA]; rfl
  have h9 : A 9000 = alL cs q := by rw [hA]; rfl
  clear hA
  have loop := z_loop (σ := Nat → Nat → Int32) (fun m iv2 Q => zEv sc 97 4 [.ref 91, .int (nI q), .int (nI (A m).length), .int (nI m)] [] (zst p iv2) Q) (fun m iv2 => (∀ k, k < (A m).length → iv2 96 (170 * q + k) = nI ((A m).getD k 0)) ∧ (∀ g, g < 170 * q ∨ 170 * q + 165 ≤ g → iv2 96 g = iv 96 g) ∧ ∀ c, c ≠ 96 → iv2 c = iv c) 9000 (by
    intro m iv1 hm ⟨g1, g2, g3⟩
    have hl := hlen m
    have hl1 := hlen (m + 1)
    have hv1 : isV (iv1 92) cs := by rw [g3 92 (by omega)]; exact hv
    have eA : isA cs q (nI m) = alw (cN cs) (cB cs q) m (cR cs q) := alwI_n (by omega)
    have start : ∀ Q, zEv sc 97 4 [.ref 91, .int (nI q), .int (nI (A m).length), .int (nI m)] [] (zst p iv1) Q ↔ (if zb (alw (cN cs) (cB cs q) m (cR cs q)) = 0 then zEv sc 97 36 [.ref 91, .int (nI q), .int (nI (A m).length), .int (nI m)] [] (zst p iv1) Q else zEv sc 97 20 [.ref 91, .int (nI q), .int (nI (A m).length), .int (nI m)] [] (zst p iv1) Q) := by
      intro Q
      rw [u97_4, u97_5, u97_8, show (9000 : Int32) = nI 9000 from rfl, if_neg (by rw [nI_leI (by omega) (by omega)]; omega)]
      simp only [u97_11, u97_12, u97_13, u97_14, u97_17, Option.toList_some, Option.toList_none, List.cons_append, List.nil_append, zRef_some, true_and, and_true, true_or, or_true, i10, i01, z91.1, m_isAlloc hv1 ho.w hq, eA]
    by_cases e : alw (cN cs) (cB cs q) m (cR cs q) = true
    · have hs := hS m
      rw [if_pos e] at hs
      have hl2 : (A (m + 1)).length = (A m).length + 1 := by rw [hs, List.length_append]; rfl
      refine ⟨w2 iv1 96 (170 * q + (A m).length) (nI m), ⟨fun k hk => ?_, fun g hg => by rw [w2_g (by omega)]; exact g2 g hg, fun c hc => by rw [w2_c hc]; exact g3 c hc⟩, fun Q hQ => (start Q).mpr ?_⟩
      · rw [hl2] at hk
        rw [hs, w2_at, List.getD_eq_getElem?_getD]
        by_cases e2 : k = (A m).length
        · rw [if_pos ⟨rfl, by omega⟩, e2, List.getElem?_append_right (Nat.le_refl _), Nat.sub_self]
          rfl
        · rw [if_neg (fun z => by have := z.2; omega), List.getElem?_append_left (by omega), ← List.getD_eq_getElem?_getD]
          exact g1 k (by omega)
      · rw [e, if_neg (by decide)]
        rw [hl2] at hQ
        simp only [u97_20, u97_21, u97_24, u97_27, u97_28, u97_29, u97_30, u97_31, u97_32, u97_33, u97_36, u97_39, zRef_some, true_and, z91.1, z91.2.2.2.2.2.1, z91r.2.2.2.2.1, z92l.2.2.2.2.1, n170, pk_mul, nI_add, vp_in_nI (show 170 * q + (A m).length < 340 by omega) (by omega), nI_clamp (show 170 * q + (A m).length < 2 ^ 31 by omega), nI_1]
        exact hQ
    · have hs := hS m
      rw [if_neg e, List.append_nil] at hs
      refine ⟨iv1, ⟨by rw [hs]; exact g1, g2, g3⟩, fun Q hQ => (start Q).mpr ?_⟩
      rw [Bool.not_eq_true] at e
      rw [e, if_pos (show zb false = 0 from rfl), u97_36, u97_39, nI_1]
      rw [hs] at hQ
      exact hQ)
  obtain ⟨iv1, ⟨g1, g2, g3⟩, g4⟩ := loop 9000 0 iv rfl (by omega) ⟨by rw [h0]; exact fun k hk => absurd hk (Nat.not_lt_zero _), fun _ _ => rfl, fun _ _ => rfl⟩
  have hl := hlen 9000
  rw [h9] at g1 g4 hl
  refine ⟨w2 iv1 97 q (nI (alL cs q).length), ⟨w2_eq, hl, fun k hk => by rw [w2_c (by omega)]; exact g1 k hk⟩, fun c hc hc2 => by rw [w2_c hc2]; exact g3 c hc, fun L hL => ⟨by rw [w2_g (by omega), g3 97 (by omega)]; exact hL.1, hL.2.1, fun k hk => by have := hL.2.1; rw [w2_c (by omega), g2 _ (by omega)]; exact hL.2.2 k hk⟩, fun Q hQ => ?_⟩
  have l0 := g4 Q (by
    rw [u97_4, u97_5, u97_8, show (9000 : Int32) = nI 9000 from rfl, if_pos (Int32.le_refl _)]
    simp only [u97_42, u97_43, u97_46, u97_47, u97_48, u97_49, zRef_some, true_and, z91.1, z91.2.2.2.2.2.2, z91r.2.2.2.2.2, z92l.2.2.2.2.2, vp_in_nI (show q < 2 by omega) (show (2 : Nat) < 2 ^ 31 by omega), nI_clamp (show q < 2 ^ 31 by omega)]
    exact hQ)
  rw [h0, show ([] : List Nat).length = 0 from rfl, nI_0] at l0
  simp only [u97_0, u97_1, u97_2, u97_3]
  exact l0
theorem m_common {u : Int} {d : Nat} {v2 v3 v4 : Value} (hu : u.natAbs < 2 ^ 31) (hd : d < 2 ^ 31) : zEv sc 112 0 [.int (iI u), .int (nI d), v2, v3, v4] [] h Q ↔ Q (some (.int (nI (Nat.gcd u.natAbs d)))) h := by
  have loop : ∀ (n A B : Nat) (v : Value), B ≤ n → A < 2 ^ 31 → B < 2 ^ 31 → Nat.gcd A B = Nat.gcd u.natAbs d → (zEv sc 112 13 [.int (iI u), .int (nI d), .int (nI A), .int (nI B), v] [] h Q ↔ Q (some (.int (nI (Nat.gcd u.natAbs d)))) h) := by
    intro n
    induction n with
    | zero =>
      intro A B v hB hA hB2 hg
      have : B = 0 := by omega
      subst this
      rw [Nat.gcd_zero_right] at hg
      rw [u112_13, u112_14, if_pos (show nI 0 = 0 from rfl), hg]
      simp only [u112_30, u112_31]
    | succ n ih =>
      intro A B v hB hA hB2 hg
      by_cases e : B = 0
      · exact ih A B v (by omega) hA hB2 hg
      · have hm : A % B < B := Nat.mod_lt _ (by omega)
        have hg1 : Nat.gcd B (A % B) = Nat.gcd u.natAbs d := by
          rw [← hg, Nat.gcd_comm B (A % B), ← Nat.gcd_rec, Nat.gcd_comm]
        rw [u112_13, u112_14, if_neg (nI_ne0 (by omega) hB2)]
        simp only [u112_17, u112_18, u112_19, u112_20, u112_22, u112_23, u112_24, u112_26, u112_27, nI_ne0 (show 0 < B by omega) hB2, not_false_eq_true, true_and, pk_rem hA (show 0 < B by omega) hB2]
        exact ih B (A % B) _ (by omega) hB2 (by omega) hg1
  have f0 : (0 ≤ iI u) ↔ 0 ≤ u := by rw [show (0 : Int32) = iI 0 from rfl, iI_le (by omega) hu]
  have l0 := loop d u.natAbs d v4 (Nat.le_refl _) hu hd rfl
  rw [u112_0, u112_1]
  by_cases e : 0 ≤ u
  · rw [if_pos (f0.mpr e)]
    have e1 : iI u = nI u.natAbs := by rw [nI_iI]; congr 1; omega
    simp only [u112_10, u112_11, u112_12, u112_9]
    rw [← e1] at l0
    exact l0
  · rw [if_neg (fun z => e (f0.mp z))]
    have e1 : iI (-u) = nI u.natAbs := by rw [nI_iI]; congr 1; omega
    simp only [u112_4, u112_5, u112_6, u112_10, u112_11, u112_12, u112_9, iI_neg, e1]
    exact l0
theorem m_part {u : Int} {d : Nat} {v : Value} (hu : u.natAbs < 2 ^ 31) (hd0 : 0 < d) (hd : d < 2 ^ 31) : zEv sc 113 0 [.int (iI u), .int (nI d), .int w, v] [] h Q ↔ Q (some (.int (prt w u d))) h := by
  have hg := prt_pos (u := u) hd0 hd
  have hgl : Nat.gcd u.natAbs d ≤ d := Nat.gcd_le_right _ hd0
  have hgp : 0 < Nat.gcd u.natAbs d := Nat.gcd_pos_of_pos_right _ hd0
  simp only [u113_0, u113_1, u113_2, u113_5, u113_6, u113_7, u113_10, u113_12, u113_13, u113_14, u113_15, u113_16, u113_22, u113_19, u113_20, u113_21, m_common hu hd, Option.toList_some, Option.toList_none, List.cons_append, List.nil_append, zRef_some, true_and, and_true, true_or, or_true, i10, i01, hg, not_false_eq_true, pk_div hd hgp (show Nat.gcd u.natAbs d < 2 ^ 31 by omega)]
  unfold prt
  by_cases e : w = 0
  · rw [if_neg (fun z => z e), if_pos e]
  · rw [if_pos e, if_neg e]
def bFnd (B : Nat × Int × Nat) : Int32 := if B.2.2 = 0 then -1 else nI B.1
theorem m_best {v2 v3 v4 v5 : Value} (hv : isV (iv 92) cs) (o : vOk cs) (hq : q < 2) : ∃ iv2, iv2 91 8 = iI (bR cs q).2.1 ∧ iv2 91 9 = nI (bR cs q).2.2 ∧ mKp iv2 iv ∧ iv2 93 = iv 93 ∧ ∀ (Q : Option Value → zA → Prop), Q (some (.int (bFnd (bR cs q)))) (zst p iv2) → zEv sc 114 0 [.ref 91, .int (nI q), v2, v3, v4, v5] [] (zst p iv) Q := by
  obtain ⟨iv1, a1, a2, -, a4⟩ := m_lists (sc := sc) (p := p) (v2 := .null) (v3 := .null) hv o.1 hq
  have hlt : ∀ k, k < (alL cs q).length → (alL cs q).getD k 0 < 10000 := fun k hk => by have := (alL_at hk).1; omega
  unfold bR
  revert a1 hlt
  generalize alL cs q = L
  intro a1 hlt
  obtain ⟨G, hG⟩ : ∃ G : Nat → Int, G = sco cs q (oM cs q) := ⟨_, rfl⟩
  rw [← hG]
  have om : mOk (oM cs q) := o.2 (1 - q) (by omega)
  have hGa : ∀ x, (G x).natAbs ≤ 42768 := fun x => by rw [hG]; exact sco_abs o.1 q om x
  have hl := a1.2.1
  have hI := bst_inv G L
  have hvb : ∀ k, k ≤ L.length → (bst G (L.take k)).2.1.natAbs ≤ 42768 := by
    intro k
    induction k with
    | zero => intro _; rw [List.take_zero]; show (0 : Int).natAbs ≤ 42768; decide
    | succ k ih =>
      intro hk
      have ih1 := ih (by omega)
      rw [bst_s G L k (by omega)]
      unfold bst1
      split
      · exact hGa _
      · split
        · exact ih1
        · exact ih1
  have loop := z_loop (σ := (Nat → Nat → Int32) × Value × Value) (fun k s Q => zEv sc 114 19 [.ref 91, .int (nI q), .int (bFnd (bst G (L.take k))), .int (nI k), s.2.1, s.2.2] [] (zst p s.1) Q) (fun k s => s.1 91 8 = iI (bst G (L.take k)).2.1 ∧ s.1 91 9 = nI (bst G (L.take k)).2.2 ∧ (∀ c, c ≠ 91 → s.1 c = iv1 c) ∧ ∀ g, g < 8 → s.1 91 g = iv1 91 g) L.length (by
    intro k s hk ⟨b1, b2, b3, b4⟩
    obtain ⟨iv3, w4, w5⟩ := s
    dsimp only at b1 b2 b3 b4 ⊢
    have hv3 : isV (iv3 92) cs := by rw [b3 92 (by omega), a2 92 (by omega) (by omega)]; exact hv
    have e96 := a1.2.2 k hk
    rw [← b3 96 (by omega)] at e96
    have e97 : iv3 97 q = nI L.length := by rw [b3 97 (by omega)]; exact a1.1
    have hL := hlt k hk
    have hg := hGa (L.getD k 0)
    have hv2 := hvb k (by omega)
    have hi1 := (hI k (by omega)).1
    have hsum : ∀ Q, zEv sc 110 0 [.ref 91, .int (nI q), .int (nI (L.getD k 0)), .null, .null] [] (zst p iv3) Q ↔ Q (some (.int (iI (G (L.getD k 0))))) (zst p iv3) := fun Q => by rw [hG]; exact m_sumOf hv3 o hq hL
    rw [bst_s G L k hk]
    obtain ⟨S, hS⟩ : ∃ S, S = bst G (L.take k) := ⟨_, rfl⟩
    rw [← hS] at b1 b2 hv2 hi1 ⊢
    obtain ⟨y, hy⟩ : ∃ y, y = L.getD k 0 := ⟨_, rfl⟩
    rw [← hy] at e96 hL hg hsum ⊢
    have head : ∀ Q, zEv sc 114 19 [.ref 91, .int (nI q), .int (bFnd S), .int (nI k), w4, w5] [] (zst p iv3) Q ↔ zEv sc 114 48 [.ref 91, .int (nI q), .int (bFnd S), .int (nI k), .int (iI (G y)), w5] [] (zst p iv3) Q := by
      intro Q
      rw [u114_19]
      simp only [u114_20, u114_21, u114_24, u114_25, zRef_some, true_and, z91.1, z91.2.2.2.2.2.2, z91r.2.2.2.2.2, z92l.2.2.2.2.2, vp_in_nI (show q < 2 by omega) (show (2 : Nat) < 2 ^ 31 by omega), nI_clamp (show q < 2 ^ 31 by omega), e97]
      rw [u114_26, if_neg (by rw [nI_leI (by omega) (by omega)]; omega)]
      simp only [u114_29, u114_30, u114_31, u114_32, u114_35, u114_38, u114_39, u114_40, u114_41, u114_42, u114_43, u114_46, Option.toList_some, Option.toList_none, List.cons_append, List.nil_append, zRef_some, true_and, and_true, true_or, or_true, i10, i01, z91.1, z91.2.2.2.2.2.1, z91r.2.2.2.2.1, z92l.2.2.2.2.1, n170, pk_mul, nI_add, vp_in_nI (show 170 * q + k < 340 by omega) (by omega), nI_clamp (show 170 * q + k < 2 ^ 31 by omega), e96, hsum]
    have cmp : (iI S.2.1 < iI (G y)) ↔ S.2.1 < G y := iI_lt (by omega) (by omega)
    have cmp2 : (iI (G y) ≤ iI S.2.1) ↔ G y ≤ S.2.1 := iI_le (by omega) (by omega)
    have cmpe : (iI (G y) = iI S.2.1) ↔ G y = S.2.1 := iI_eq (by omega) (by omega)
    have hf : (bFnd S < 0) ↔ S.2.2 = 0 := by
      unfold bFnd
      by_cases e : S.2.2 = 0
      · rw [if_pos e]; exact ⟨fun _ => e, fun _ => by decide⟩
      · rw [if_neg e]
        have hin := (hI k (by omega)).2.2
        rw [← hS] at hin
        have hm := (hin (by omega)).1
        obtain ⟨j, hj, he⟩ := List.mem_iff_getElem.mp hm
        have hj2 := hlt j hj
        rw [List.getD_eq_getElem?_getD, List.getElem?_eq_getElem hj] at hj2
        have hj3 : L[j] < 10000 := hj2
        rw [he] at hj3
        exact ⟨fun z => absurd z (nI_pos (by omega)), fun z => absurd z e⟩
    by_cases hmore : S.2.2 = 0 ∨ S.2.1 < G y
    · have h66 : ∀ Q, zEv sc 114 66 [.ref 91, .int (nI q), .int (bFnd S), .int (nI k), .int (iI (G y)), w5] [.int 1] (zst p iv3) Q → zEv sc 114 19 [.ref 91, .int (nI q), .int (bFnd S), .int (nI k), w4, w5] [] (zst p iv3) Q := by
        intro Q hQ
        rw [head, u114_48, u114_49]
        by_cases e : S.2.2 = 0
        · rw [if_pos (hf.mpr e)]
          simp only [u114_61, u114_62]
          exact hQ
        · rw [if_neg (fun z => e (hf.mp z))]
          simp only [u114_52, u114_54, u114_55, z91.1, b1]
          rw [u114_58, if_neg (fun z => by have := cmp2.mp z; have := hmore.resolve_left e; omega)]
          simp only [u114_61, u114_62]
          exact hQ
      have hb1 : bst1 G S y = (y, G y, 1) := by unfold bst1; rw [if_pos hmore]
      rw [hb1]
      refine ⟨(w2 (w2 iv3 91 9 1) 91 8 (iI (G y)), .int (iI (G y)), .int 1), ⟨by dsimp only; exact w2_eq, by show w2 (w2 iv3 91 9 1) 91 8 (iI (G y)) 91 9 = nI 1; rw [w2_g (by omega), w2_eq]; rfl, fun c hc => by show w2 (w2 iv3 91 9 1) 91 8 (iI (G y)) c = iv1 c; rw [w2_c hc, w2_c hc]; exact b3 c hc, fun g hg => by show w2 (w2 iv3 91 9 1) 91 8 (iI (G y)) 91 g = iv1 91 g; rw [w2_g (by omega), w2_g (by omega)]; exact b4 g hg⟩, fun Q hQ => h66 Q ?_⟩
      have hQ : zEv sc 114 19 [.ref 91, .int (nI q), .int (nI y), .int (nI (k + 1)), .int (iI (G y)), .int 1] [] (zst p (w2 (w2 iv3 91 9 1) 91 8 (iI (G y)))) Q := hQ
      have e96b : (w2 iv3 91 9 1) 96 (170 * q + k) = nI y := by rw [w2_c (by omega)]; exact e96
      simp only [u114_66, u114_68, u114_69, u114_71]
      rw [if_neg (by decide)]
      simp only [u114_74, u114_75, u114_100, u114_103, u114_105, u114_78, u114_80, u114_81, u114_84, u114_87, u114_88, u114_91, u114_92, u114_93, u114_96, u114_97, z91.1]
      rw [if_neg (by decide)]
      simp only [u114_108, u114_109, u114_112, u114_115, u114_116, u114_117, u114_118, u114_119, u114_120, u114_124, u114_125, u114_126, u114_128, u114_123, zRef_some, true_and, z91.1, z91.2.2.2.2.2.1, z91r.2.2.2.2.1, z92l.2.2.2.2.1, n170, pk_mul, nI_add, vp_in_nI (show 170 * q + k < 340 by omega) (by omega), nI_clamp (show 170 * q + k < 2 ^ 31 by omega), e96b]
      rw [if_neg (by decide)]
      simp only [u114_131, u114_133, u114_140, u114_143, u114_146, u114_136, u114_137, z91.1, nI_1]
      exact hQ
    · have e : ¬ S.2.2 = 0 := fun z => hmore (Or.inl z)
      have e2 : ¬ S.2.1 < G y := fun z => hmore (Or.inr z)
      have h66 : ∀ Q, zEv sc 114 66 [.ref 91, .int (nI q), .int (bFnd S), .int (nI k), .int (iI (G y)), w5] [.int 0] (zst p iv3) Q → zEv sc 114 19 [.ref 91, .int (nI q), .int (bFnd S), .int (nI k), w4, w5] [] (zst p iv3) Q := by
        intro Q hQ
        rw [head, u114_48, u114_49, if_neg (fun z => e (hf.mp z))]
        simp only [u114_52, u114_54, u114_55, z91.1, b1]
        rw [u114_58, if_pos (cmp2.mpr (by omega))]
        simp only [u114_65]
        exact hQ
      have tail : ∀ (N : Nat) Q, zEv sc 114 19 [.ref 91, .int (nI q), .int (bFnd S), .int (nI (k + 1)), .int (iI (G y)), .int 0] [] (zst p (w2 (w2 iv3 91 9 (nI N)) 91 8 (iI S.2.1))) Q → zEv sc 114 100 [.ref 91, .int (nI q), .int (bFnd S), .int (nI k), .int (iI (G y)), .int 0] [.int (nI N), .ref 91] (zst p iv3) Q := by
        intro N Q hQ
        have e8 : (w2 iv3 91 9 (nI N)) 91 8 = iI S.2.1 := by rw [w2_g (by omega)]; exact b1
        simp only [u114_100, u114_103, u114_105, z91.1]
        rw [if_pos trivial]
        simp only [u114_124, u114_125, u114_126, u114_128, u114_123, z91.1]
        rw [if_pos trivial]
        simp only [u114_140, u114_143, u114_146, u114_136, u114_137, z91.1, e8, nI_1]
        exact hQ
      by_cases e3 : G y = S.2.1
      · have hb1 : bst1 G S y = (S.1, S.2.1, S.2.2 + 1) := by unfold bst1; rw [if_neg hmore, if_pos e3]
        have hbf : bFnd (S.1, S.2.1, S.2.2 + 1) = bFnd S := by unfold bFnd; rw [if_neg e, if_neg (show ¬ S.2.2 + 1 = 0 by omega)]
        rw [hb1, hbf]
        refine ⟨(w2 (w2 iv3 91 9 (nI (S.2.2 + 1))) 91 8 (iI S.2.1), .int (iI (G y)), .int 0), ⟨by dsimp only; exact w2_eq, by show w2 (w2 iv3 91 9 (nI (S.2.2 + 1))) 91 8 (iI S.2.1) 91 9 = nI (S.2.2 + 1); rw [w2_g (by omega), w2_eq], fun c hc => by show w2 (w2 iv3 91 9 (nI (S.2.2 + 1))) 91 8 (iI S.2.1) c = iv1 c; rw [w2_c hc, w2_c hc]; exact b3 c hc, fun g hg => by show w2 (w2 iv3 91 9 (nI (S.2.2 + 1))) 91 8 (iI S.2.1) 91 g = iv1 91 g; rw [w2_g (by omega), w2_g (by omega)]; exact b4 g hg⟩, fun Q hQ => h66 Q ?_⟩
        simp only [u114_66, u114_68, u114_69, u114_71]
        rw [if_pos trivial]
        simp only [u114_78, u114_80, u114_81, z91.1, b1]
        rw [u114_84, if_neg (fun z => z (cmpe.mpr e3))]
        simp only [u114_87, u114_88, u114_91, u114_92, u114_93, z91.1, b2, nI_1]
        exact tail _ Q hQ
      · have hb1 : bst1 G S y = S := by unfold bst1; rw [if_neg hmore, if_neg e3]
        rw [hb1]
        refine ⟨(w2 (w2 iv3 91 9 (nI S.2.2)) 91 8 (iI S.2.1), .int (iI (G y)), .int 0), ⟨by dsimp only; exact w2_eq, by show w2 (w2 iv3 91 9 (nI S.2.2)) 91 8 (iI S.2.1) 91 9 = nI S.2.2; rw [w2_g (by omega), w2_eq], fun c hc => by show w2 (w2 iv3 91 9 (nI S.2.2)) 91 8 (iI S.2.1) c = iv1 c; rw [w2_c hc, w2_c hc]; exact b3 c hc, fun g hg => by show w2 (w2 iv3 91 9 (nI S.2.2)) 91 8 (iI S.2.1) 91 g = iv1 91 g; rw [w2_g (by omega), w2_g (by omega)]; exact b4 g hg⟩, fun Q hQ => h66 Q ?_⟩
        simp only [u114_66, u114_68, u114_69, u114_71]
        rw [if_pos trivial]
        simp only [u114_78, u114_80, u114_81, z91.1, b1]
        rw [u114_84, if_pos (fun z => e3 (cmpe.mp z))]
        simp only [u114_96, u114_97, z91.1, b2]
        exact tail _ Q hQ)
  have z1 : (w2 (w2 iv1 91 8 0) 91 9 0) 91 8 = iI 0 := by rw [w2_g (by omega), w2_eq]; rfl
  obtain ⟨⟨iv4, w4, w5⟩, ⟨c1, c2, c3, c4⟩, c5⟩ := loop _ 0 (w2 (w2 iv1 91 8 0) 91 9 0, v4, v5) rfl (Nat.zero_le _) ⟨z1, by show (w2 (w2 iv1 91 8 0) 91 9 0) 91 9 = nI 0; rw [w2_eq]; rfl, fun c hc => by show w2 (w2 iv1 91 8 0) 91 9 0 c = iv1 c; rw [w2_c hc, w2_c hc], fun g hg => by show w2 (w2 iv1 91 8 0) 91 9 0 91 g = iv1 91 g; rw [w2_g (by omega), w2_g (by omega)]⟩
  dsimp only at c1 c2 c3 c4 c5
  rw [List.take_length] at c1 c2 c5
  refine ⟨iv4, c1, c2, ⟨fun c hc => by rw [c3 c (by omega), a2 c (by omega) (by omega)], by rw [c4 3 (by omega), a2 91 (by omega) (by omega)], by rw [c4 5 (by omega), a2 91 (by omega) (by omega)]⟩, by rw [c3 93 (by omega), a2 93 (by omega) (by omega)], fun Q hQ => ?_⟩
  have e97 : iv4 97 q = nI L.length := by rw [c3 97 (by omega)]; exact a1.1
  have l0 := c5 Q (by
    rw [u114_19]
    simp only [u114_20, u114_21, u114_24, u114_25, zRef_some, true_and, z91.1, z91.2.2.2.2.2.2, z91r.2.2.2.2.2, z92l.2.2.2.2.2, vp_in_nI (show q < 2 by omega) (show (2 : Nat) < 2 ^ 31 by omega), nI_clamp (show q < 2 ^ 31 by omega), e97]
    rw [u114_26, if_pos (Int32.le_refl _)]
    simp only [u114_149, u114_150]
    exact hQ)
  rw [nI_0] at l0
  simp only [u114_0, u114_1, u114_2, z91.1]
  refine a4 _ ?_
  simp only [u114_5, u114_6, u114_7, u114_8, u114_9, u114_12, u114_13, u114_14, u114_17, u114_18, z91.1, Option.toList_some, Option.toList_none, List.cons_append, List.nil_append, zRef_some, true_and, and_true, true_or, or_true, i10, i01]
  exact l0
end ZM4
