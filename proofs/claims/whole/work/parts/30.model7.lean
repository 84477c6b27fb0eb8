/-! ===== FieldMixturesModel: fields, rounds, undo, texts, lists ===== -/
section ZM7
variable {sc : Nat × (Nat → Int32)} {Q : Option Value → zA → Prop} {h : zA} {p : Nat → Option Nat} {iv : Nat → Nat → Int32} {cs d : CS} {hs : List CS} {t : List Nat} {x y z w lo hi : Int32} {q k i : Nat}
/-- values 1, bounds 8, of the first fields -/
def lfF (iv : Nat → Nat → Int32) (n : Nat) : Nat → Nat → Int32 := fun c g => if c = 92 then (if 2 ≤ g ∧ g < 2 + n then 1 else if (8 ≤ g ∧ g < 8 + n) ∨ (12 ≤ g ∧ g < 12 + n) then 8 else iv 92 g) else iv c g
theorem lfF_s {n : Nat} (hn : n < 4) : w2 (w2 (w2 (lfF iv n) 92 (2 + n) 1) 92 (8 + n) 8) 92 (12 + n) 8 = lfF iv (n + 1) := by
  funext c g
  rw [w2_at, w2_at, w2_at]
  unfold lfF
  by_cases e : c = 92
  · subst e
    simp only [true_and, if_true]
    by_cases e1 : g = 12 + n
    · rw [if_pos e1, if_neg (by omega), if_pos (by omega)]
    · rw [if_neg e1]
      by_cases e2 : g = 8 + n
      · rw [if_pos e2, if_neg (by omega), if_pos (by omega)]
      · rw [if_neg e2]
        by_cases e3 : g = 2 + n
        · rw [if_pos e3, if_pos (by omega)]
        · rw [if_neg e3]
          by_cases e4 : 2 ≤ g ∧ g < 2 + n
          · rw [if_pos e4, if_pos (by omega)]
          · rw [if_neg e4, if_neg (show ¬ (2 ≤ g ∧ g < 2 + (n + 1)) by omega)]
            by_cases e5 : (8 ≤ g ∧ g < 8 + n) ∨ (12 ≤ g ∧ g < 12 + n)
            · rw [if_pos e5, if_pos (by omega)]
            · rw [if_neg e5, if_neg (show ¬ ((8 ≤ g ∧ g < 8 + (n + 1)) ∨ (12 ≤ g ∧ g < 12 + (n + 1))) by omega)]
  · rw [if_neg (fun z => e z.1), if_neg (fun z => e z.1), if_neg (fun z => e z.1), if_neg e, if_neg e]
theorem m_laysF {v : Value} : zEv sc 87 0 [.ref 91, v] [] (zst p iv) Q ↔ Q none (zst p (lfF iv 4)) := by
  have loop : ∀ d n, 4 - n = d → n ≤ 4 → (zEv sc 87 2 [.ref 91, .int (nI n)] [] (zst p (lfF iv n)) Q ↔ Q none (zst p (lfF iv 4))) := by
    intro d
    induction d with
    | zero =>
      intro n hd hn
      have : n = 4 := by omega
      subst this
      rw [u87_2, u87_3, u87_4, if_pos (by decide)]
      simp only [u87_44]
    | succ d ih =>
      intro n hd hn
      have ih1 := ih (n + 1) (by omega) (by omega)
      rw [← ih1, u87_2, u87_3, u87_4, n4, if_neg (by rw [nI_leI (by omega) (by omega)]; omega)]
      simp only [u87_7, u87_8, u87_11, u87_12, u87_13, zRef_some, z91.1, z91r.1, n2, nI_add]
      rw [u87_14]
      simp only [u87_15, u87_16, u87_17, u87_20, u87_22, u87_23, zRef_some, true_and, z91.1, z91.2.1, z91r.1, z92l.1, n8, nI_add, okN (show 2 + n < 66 by omega), nI_clamp (show 2 + n < 2 ^ 31 by omega)]
      simp only [u87_24, u87_26, u87_27, u87_28, u87_31, u87_33, u87_34, zRef_some, true_and, z91.1, z91.2.1, z91r.1, z92l.1, show (12 : Int32) = nI 12 from rfl, nI_add, okN (show 8 + n < 66 by omega), nI_clamp (show 8 + n < 2 ^ 31 by omega)]
      simp only [u87_35, u87_37, u87_38, u87_41, zRef_some, true_and, z91.1, z91.2.1, z91r.1, z92l.1, okN (show 12 + n < 66 by omega), nI_clamp (show 12 + n < 2 ^ 31 by omega), lfF_s (show n < 4 by omega), nI_1]
  have l0 := loop _ 0 rfl (by omega)
  have e5 : lfF iv 0 = iv := by
    funext c g
    unfold lfF
    by_cases e : c = 92
    · rw [if_pos e, if_neg (by omega), if_neg (by omega), e]
    · rw [if_neg e]
  rw [e5, nI_0] at l0
  simp only [u87_0, u87_1]
  exact l0
theorem M_fields (R : RM iv cs hs t) : OKm sc 119 [.ref 91, .int x] p iv (sFields cs x).1 (nC cs (sFields cs x)) (nH cs hs (sFields cs x)) t := by
  obtain ⟨W, V, F⟩ := R.begin
  have o := R.2.1
  have hN := o.1.2.1
  have hN1 := o.1.1
  unfold sFields
  by_cases g : 2 ≤ x ∧ x ≤ 4
  · have d1 := decide_eq_true g
    rw [if_pos g]
    obtain ⟨n, hn2, hn4, rfl⟩ := in_nI2 (l := 2) (k := 4) (by omega) (by omega) g.1 g.2
    rw [tn_nI (by omega)]
    obtain ⟨iv0, hiv0⟩ : ∃ iv0, iv0 = cp66 iv 93 92 66 := ⟨_, rfl⟩
    rw [← hiv0] at W V F
    obtain ⟨iv1, hiv1⟩ : ∃ iv1, iv1 = lfF (w2 iv0 92 0 (nI n)) 4 := ⟨_, rfl⟩
    have f1 : ∀ c, c ≠ 92 → iv1 c = iv0 c := fun c hc => by
      funext g
      rw [hiv1]
      unfold lfF
      rw [if_neg hc, w2_c hc]
    have f2 : ∀ g, iv1 92 g = if 2 ≤ g ∧ g < 6 then 1 else if 8 ≤ g ∧ g < 16 then 8 else if g = 0 then nI n else iv0 92 g := by
      intro g
      rw [hiv1]
      unfold lfF
      rw [if_pos rfl]
      by_cases e1 : 2 ≤ g ∧ g < 6
      · rw [if_pos e1, if_pos e1]
      · rw [if_neg e1, if_neg e1]
        by_cases e2 : 8 ≤ g ∧ g < 16
        · rw [if_pos (show (8 ≤ g ∧ g < 8 + 4) ∨ (12 ≤ g ∧ g < 12 + 4) by omega), if_pos e2]
        · rw [if_neg (show ¬ ((8 ≤ g ∧ g < 8 + 4) ∨ (12 ≤ g ∧ g < 12 + 4)) by omega), if_neg e2, w2_at]
          by_cases e3 : g = 0
          · rw [if_pos ⟨rfl, e3⟩, if_pos e3]
          · rw [if_neg (fun z => e3 z.2), if_neg e3]
    obtain ⟨iv2, hiv2⟩ : ∃ iv2, iv2 = if n = cN cs then iv1 else w2 (w2 iv1 92 16 0) 92 41 0 := ⟨_, rfl⟩
    have f3 : ∀ c, c ≠ 92 → iv2 c = iv0 c := fun c hc => by
      rw [hiv2]
      split
      · exact f1 c hc
      · rw [w2_c hc, w2_c hc]; exact f1 c hc
    have od : cOk (cFields cs n) := cFields_ok o.1 hn2 hn4
    have odv : vOk (cFields cs n) := by
      refine ⟨od, fun z hz => ?_⟩
      show mOk (if n = cN cs then cM cs z else [])
      split
      · exact o.2 z hz
      · exact ⟨by simp, fun k hk => absurd hk (Nat.not_lt_zero _), fun i j _ hj => absurd hj (Nat.not_lt_zero _)⟩
    have V2 : isV (iv2 92) (cFields cs n) := by
      obtain ⟨a1, a2, a3, a4, a5, a6, a7⟩ := V
      have f4 : ∀ g, g < 16 → iv2 92 g = iv1 92 g := fun g hg => by
        rw [hiv2]
        split
        · rfl
        · rw [w2_g (by omega), w2_g (by omega)]
      refine ⟨?_, ?_, fun f hf => ?_, fun q hq => ?_, fun q f hq hf => ?_, fun q hq => ?_, fun q k hq hk => ?_⟩
      · rw [f4 _ (by omega), f2, if_neg (by omega), if_neg (by omega), if_pos rfl]; rfl
      · rw [f4 _ (by omega), f2, if_neg (by omega), if_neg (by omega), if_neg (by omega)]; exact a2
      · rw [f4 _ (by omega), f2, if_pos (by omega)]; rfl
      · rw [f4 _ (by omega), f2, if_neg (by omega), if_neg (by omega), if_neg (by omega)]; exact a4 q hq
      · rw [f4 _ (by omega), f2, if_neg (by omega), if_pos (by omega)]; rfl
      · show iv2 92 (16 + 25 * q) = nI (if n = cN cs then cM cs q else []).length
        rw [hiv2]
        by_cases e : n = cN cs
        · rw [if_pos e, if_pos e, f2, if_neg (by omega), if_neg (by omega), if_neg (by omega)]; exact a6 q hq
        · rw [if_neg e, if_neg e]
          rcases (show q = 0 ∨ q = 1 by omega) with rfl | rfl
          · rw [w2_g (by omega), w2_eq]; rfl
          · rw [w2_eq]; rfl
      · have hk : k < (if n = cN cs then cM cs q else []).length := hk
        show iv2 92 (16 + 25 * q + 1 + 2 * k) = nI (mA (if n = cN cs then cM cs q else []) k) ∧ iv2 92 (16 + 25 * q + 2 + 2 * k) = nI (mW (if n = cN cs then cM cs q else []) k)
        by_cases e : n = cN cs
        · rw [if_pos e] at hk hiv2 ⊢
          rw [hiv2, f2, f2, if_neg (by omega), if_neg (by omega), if_neg (by omega), if_neg (by omega), if_neg (by omega), if_neg (by omega)]
          exact a7 q k hq hk
        · rw [if_neg e] at hk
          exact absurd hk (Nat.not_lt_zero _)
    obtain ⟨iv3, k1, k2, k3⟩ := m_acted (sc := sc) (p := p) (n := cN cs) (v := .null) (W.w92 f3) V2 odv (by omega)
    refine ⟨iv3, k1, fun c hc => by rw [k2 c hc, f3 c (by omega), F c hc], fun Q hQ => ?_⟩
    have fin : zEv sc 119 19 [.ref 91, .int (nI n)] [.int (nI (cN cs)), .ref 91] (zst p iv2) Q := by
      simp only [u119_19, u119_24, u119_22, z91.1]
      refine k3 _ ?_
      simp only [u119_27, Option.toList_some, Option.toList_none, List.cons_append, List.nil_append, zRef_some, true_and, and_true, true_or, or_true, i10, i01]
      exact hQ
    have m0 : zEv sc 100 0 [.int 0] [] (zst p iv1) (fun r h9 => zEv sc 115 31 [.ref 91, .int (nI n), .int (nI (cN cs))] (r.toList ++ [.ref 92]) h9 (fun r h9 => zEv sc 119 19 [.ref 91, .int (nI n)] (r.toList ++ [.ref 91]) h9 Q)) ↔ zEv sc 115 31 [.ref 91, .int (nI n), .int (nI (cN cs))] [.int (nI 16), .ref 92] (zst p iv1) (fun r h9 => zEv sc 119 19 [.ref 91, .int (nI n)] (r.toList ++ [.ref 91]) h9 Q) := by
      rw [← nI_0, m_at]
      exact Iff.rfl
    have m1 : ∀ (iv : Nat → Nat → Int32) (Q : Option Value → zA → Prop), zEv sc 100 0 [.int 1] [] (zst p iv) Q ↔ Q (some (.int (nI 41))) (zst p iv) := fun iv Q => m_at (q := 1)
    have a1 := V.1
    simp only [u119_0, u119_1, u119_4, u119_5, u119_6, u119_7, u119_8, u119_11, u119_14, u119_15, u119_16, m_begins, m_in, d1, zb_t, Option.toList_some, Option.toList_none, List.cons_append, List.nil_append, zRef_some, true_and, and_true, true_or, or_true, i10, i01, if_false, z91.1]
    rw [← hiv0]
    simp only [u115_0, u115_1, u115_4, u115_5, u115_6, u115_7, u115_8, u115_11, u115_12, u115_13, u115_14, u115_15, Option.toList_some, Option.toList_none, List.cons_append, List.nil_append, zRef_some, true_and, and_true, true_or, or_true, i10, i01, m_laysF, z91.1, z91.2.1, z91r.1, z92l.1, c0, v0, a1]
    rw [← hiv1, u115_18, u115_19, u115_20]
    have ecmp : (nI n = nI (cN cs)) ↔ n = cN cs := nI_eq (by omega) (by omega)
    by_cases e : n = cN cs
    · rw [if_pos (ecmp.mpr e)]
      rw [if_pos e] at hiv2
      rw [hiv2] at fin
      simp only [u115_43, u115_44, Option.toList_some, Option.toList_none, List.cons_append, List.nil_append, zRef_some, true_and, and_true, true_or, or_true, i10, i01]
      exact fin
    · rw [if_neg (fun z => e (ecmp.mp z))]
      rw [if_neg e] at hiv2
      rw [hiv2] at fin
      simp only [u115_23, u115_24, u115_27, u115_28, Option.toList_some, Option.toList_none, List.cons_append, List.nil_append, zRef_some, true_and, and_true, true_or, or_true, i10, i01, z91.1, z91r.1, m0]
      simp only [u115_31, u115_32, u115_33, u115_34, u115_37, u115_38, Option.toList_some, Option.toList_none, List.cons_append, List.nil_append, zRef_some, true_and, and_true, true_or, or_true, i10, i01, z91.1, z91.2.1, z91r.1, z92l.1, okN (show 16 < 66 by omega), nI_clamp (show 16 < 2 ^ 31 by omega), m1]
      simp only [u115_41, u115_42, u115_43, u115_44, Option.toList_some, Option.toList_none, List.cons_append, List.nil_append, zRef_some, true_and, and_true, true_or, or_true, i10, i01, z91.1, z91.2.1, z91r.1, z92l.1, okN (show 41 < 66 by omega), nI_clamp (show 41 < 2 ^ 31 by omega)]
      exact fin
  · rw [if_neg g]
    obtain ⟨iv2, g1, g2, g3⟩ := m_actedNo (sc := sc) (p := p) (a := eIA) (v := .null) W le_IA.1
    refine ⟨iv2, g1, fun c hc => by rw [g2 c hc, F c hc], fun Q hQ => ?_⟩
    simp only [u119_0, u119_1, u119_4, u119_5, u119_6, u119_7, u119_8, u119_11, u119_14, u119_15, u119_16, u119_19, u119_24, u119_22, m_begins, m_in, decide_eq_false g, zb_f, Option.toList_some, Option.toList_none, List.cons_append, List.nil_append, zRef_some, true_and, and_true, true_or, or_true, i10, i01, if_true, z91.1]
    refine g3 _ ?_
    simp only [u119_27, Option.toList_some, Option.toList_none, List.cons_append, List.nil_append, zRef_some, true_and, and_true, true_or, or_true, i10, i01]
    exact hQ
theorem m_ans {y : Nat} {v3 : Value} (hv : isV (iv 92) cs) (o : vOk cs) (hq : q < 2) (hy : y < 10000) : ∃ iv2, isV (iv2 92) (if mCan (cM cs q) y = true then setM cs q (mSet (cM cs q) y (mOf (cM cs q) y + 1)) else cs) ∧ (∀ c, c ≠ 92 → iv2 c = iv c) ∧ ∀ (Q : Option Value → zA → Prop), Q (some (.int (if mCan (cM cs q) y = true then 0 else eLR))) (zst p iv2) → zEv sc 117 0 [.ref 91, .int (nI q), .int (nI y), v3] [] (zst p iv) Q := by
  have hml := (mOf_ok (x := y) (o.2 q hq)).1
  have head : ∀ Q, zEv sc 117 0 [.ref 91, .int (nI q), .int (nI y), v3] [] (zst p iv) Q ↔ (if ¬ mOf (cM cs q) y = 99 then zEv sc 117 16 [.ref 91, .int (nI q), .int (nI y), .int (nI (mOf (cM cs q) y))] [] (zst p iv) Q else zEv sc 117 13 [.ref 91, .int (nI q), .int (nI y), .int (nI (mOf (cM cs q) y))] [] (zst p iv) Q) := by
    intro Q
    simp only [u117_0, u117_1, u117_2, u117_3, u117_6, u117_7, u117_8, Option.toList_some, Option.toList_none, List.cons_append, List.nil_append, zRef_some, true_and, and_true, true_or, or_true, i10, i01, z91.1, m_weightIn hv o hq hy]
    rw [u117_10, show (99 : Int32) = nI 99 from rfl]
    simp only [nI_eq (show mOf (cM cs q) y < 2 ^ 31 by omega) (show 99 < 2 ^ 31 by omega)]
  by_cases g : mCan (cM cs q) y = true
  · obtain ⟨g1, g2⟩ := of_decide_eq_true g
    rw [if_pos g, if_pos g]
    obtain ⟨iv1, r1, r2, r3⟩ := m_lays (sc := sc) (p := p) (w := mOf (cM cs q) y + 1) (v4 := .null) (v5 := .null) (v6 := .null) (v7 := .null) hv o hq hy g2
    refine ⟨iv1, r1, r2, fun Q hQ => (head Q).mpr ?_⟩
    rw [if_pos (by omega)]
    simp only [u117_16, u117_17, u117_18, u117_19, u117_20, u117_21, u117_22, z91.1, nI_1]
    refine r3 _ ?_
    have hne : ¬ nI (mOf (cM cs q) y) = -1000003 := by
      intro z
      have h0 := nI_pos' (show mOf (cM cs q) y < 2 ^ 31 by omega)
      rw [z] at h0
      exact absurd h0 (by decide)
    simp only [u117_25, Option.toList_some, Option.toList_none, List.cons_append, List.nil_append, zRef_some, true_and, and_true, true_or, or_true, i10, i01]
    rw [u117_27, if_pos hne]
    simp only [u117_36, u117_35]
    exact hQ
  · rw [if_neg g, if_neg g]
    refine ⟨iv, hv, fun _ _ => rfl, fun Q hQ => (head Q).mpr ?_⟩
    by_cases e : mOf (cM cs q) y = 99
    · rw [if_neg (fun z => z e)]
      simp only [u117_13, u117_15]
      exact hQ
    · rw [if_pos e]
      have g2 : ¬ ((cM cs q).length < 12 ∨ mIn (cM cs q) y = true) := fun z => g (decide_eq_true ⟨by omega, z⟩)
      simp only [u117_16, u117_17, u117_18, u117_19, u117_20, u117_21, u117_22, u117_25, z91.1, nI_1, m_laysNo hv o hq hy g2, Option.toList_some, Option.toList_none, List.cons_append, List.nil_append, zRef_some, true_and, and_true, true_or, or_true, i10, i01]
      rw [u117_27, if_neg (fun z => z rfl)]
      simp only [u117_30, u117_32, u117_36]
      exact hQ
theorem m_rounds {n : Nat} {v2 v3 v4 : Value} (W : WM iv cs hs t) (hv : isV (iv 92) cs) (hn : n ≤ 20) (hr : ¬ ((cM cs 0).length = 0 ∨ (cM cs 1).length = 0)) : ∃ iv2, WM iv2 cs hs t ∧ (∀ d, rnd n cs = some d → isV (iv2 92) d ∧ vOk d) ∧ FM iv2 iv ∧ ∀ (Q : Option Value → zA → Prop), Q (some (.int (oRnd (rnd n cs)).1)) (zst p iv2) → zEv sc 118 0 [.ref 91, .int (nI n), v2, v3, v4] [] (zst p iv) Q := by
  have o := W.2.1
  have r0 : rOk cs := ⟨o.1, fun q hq => ⟨o.2 q hq, by rcases (show q = 0 ∨ q = 1 by omega) with rfl | rfl <;> omega⟩⟩
  have q0 : ∀ (iv : Nat → Nat → Int32) (c : CS), isV (iv 92) c → ∀ Q, zEv sc 101 0 [.ref 91, .int 0] [] (zst p iv) Q ↔ Q (some (.int (nI (cM c 0).length))) (zst p iv) := fun iv c h Q => m_mixed (q := 0) h (by omega)
  have q1 : ∀ (iv : Nat → Nat → Int32) (c : CS), isV (iv 92) c → ∀ Q, zEv sc 101 0 [.ref 91, .int 1] [] (zst p iv) Q ↔ Q (some (.int (nI (cM c 1).length))) (zst p iv) := fun iv c h Q => m_mixed (q := 1) h (by omega)
  have loop : ∀ d k (e : CS) (iv1 : Nat → Nat → Int32) (v3 v4 : Value), n - k = d → k ≤ n → WM iv1 cs hs t → isV (iv1 92) e → rOk e → ∃ iv2, WM iv2 cs hs t ∧ (∀ e', rnd d e = some e' → isV (iv2 92) e' ∧ vOk e') ∧ FM iv2 iv1 ∧ ∀ (Q : Option Value → zA → Prop), Q (some (.int (oRnd (rnd d e)).1)) (zst p iv2) → zEv sc 118 21 [.ref 91, .int (nI n), .int (nI k), v3, v4] [] (zst p iv1) Q := by
    intro d
    induction d with
    | zero =>
      intro k e iv1 v3 v4 hd hk W1 V1 hr1
      have : k = n := by omega
      subst this
      refine ⟨iv1, W1, fun e' he => by rw [← Option.some.inj he]; exact ⟨V1, hr1.1, fun q hq => (hr1.2 q hq).1⟩, FM.rf, fun Q hQ => ?_⟩
      rw [u118_21, u118_22, u118_23, if_pos (Int32.le_refl _)]
      simp only [u118_67, u118_68, u118_69, u118_72, u118_73, u118_74, u118_77, u118_78, Option.toList_some, Option.toList_none, List.cons_append, List.nil_append, zRef_some, true_and, and_true, true_or, or_true, i10, i01, z91.1, q0 iv1 e V1, q1 iv1 e V1, nI_add]
      exact hQ
    | succ d ih =>
      intro k e iv1 v3 v4 hd hk W1 V1 hr1
      have oe : vOk e := ⟨hr1.1, fun q hq => (hr1.2 q hq).1⟩
      obtain ⟨p0, y0, w0⟩ := hr1.bR (show 0 < 2 by omega)
      obtain ⟨p1, y1, w1⟩ := hr1.bR (show 1 < 2 by omega)
      have b0 : bFnd (bR e 0) = nI (bR e 0).1 := by unfold bFnd; rw [if_neg (by omega)]
      have b1 : bFnd (bR e 1) = nI (bR e 1).1 := by unfold bFnd; rw [if_neg (by omega)]
      obtain ⟨iv3, -, -, a3, a4, a5⟩ := m_best (sc := sc) (p := p) (v2 := .null) (v3 := .null) (v4 := .null) (v5 := .null) V1 oe (show 0 < 2 by omega)
      have V3 : isV (iv3 92) e := by rw [a3.1 92 (by omega)]; exact V1
      obtain ⟨iv4, -, -, c3, c4, c5⟩ := m_best (sc := sc) (p := p) (v2 := .null) (v3 := .null) (v4 := .null) (v5 := .null) V3 oe (show 1 < 2 by omega)
      have V4 : isV (iv4 92) e := by rw [c3.1 92 (by omega)]; exact V3
      have W4 : WM iv4 cs hs t := W1.keep (by rw [c3.2.1, a3.2.1]) (by rw [c3.2.2, a3.2.2]) (fun c hc => by
        rcases hc with rfl | hc
        · rw [c4, a4]
        · rw [c3.1 c (by omega), a3.1 c (by omega)])
      rw [b0] at a5
      rw [b1] at c5
      rw [nI_0] at a5
      rw [show nI 1 = 1 from rfl] at c5
      obtain ⟨iv5, d1, d2, d3⟩ := m_ans (sc := sc) (p := p) (v3 := .null) V4 oe (show 0 < 2 by omega) (show (bR e 0).1 < 10000 by omega)
      have W5 : WM iv5 cs hs t := W4.w92 d2
      have F5 : FM iv5 iv1 := fun c hc => by rw [d2 c (by omega), c3.1 c (by omega), a3.1 c (by omega)]
      rw [nI_0] at d3
      have start : ∀ Q, (if mCan (cM e 0) (bR e 0).1 = true then zEv sc 118 48 [.ref 91, .int (nI n), .int (nI k), .int (nI (bR e 0).1), .int (nI (bR e 1).1)] [] (zst p iv5) Q else zEv sc 118 58 [.ref 91, .int (nI n), .int (nI k), .int (nI (bR e 0).1), .int (nI (bR e 1).1)] [] (zst p iv5) Q) → zEv sc 118 21 [.ref 91, .int (nI n), .int (nI k), v3, v4] [] (zst p iv1) Q := by
        intro Q hQ
        rw [u118_21, u118_22, u118_23, if_neg (by rw [nI_leI (by omega) (by omega)]; omega)]
        simp only [u118_26, u118_27, u118_28, z91.1]
        refine a5 _ ?_
        simp only [u118_31, u118_32, u118_33, u118_34, Option.toList_some, Option.toList_none, List.cons_append, List.nil_append, zRef_some, true_and, and_true, true_or, or_true, i10, i01, z91.1]
        refine c5 _ ?_
        simp only [u118_37, u118_39, u118_40, u118_41, u118_42, Option.toList_some, Option.toList_none, List.cons_append, List.nil_append, zRef_some, true_and, and_true, true_or, or_true, i10, i01, z91.1]
        refine d3 _ ?_
        simp only [u118_45, Option.toList_some, Option.toList_none, List.cons_append, List.nil_append, zRef_some, true_and, and_true, true_or, or_true, i10, i01]
        by_cases g : mCan (cM e 0) (bR e 0).1 = true
        · rw [if_pos g] at hQ
          rw [if_neg (by rw [if_pos g]; decide)]
          exact hQ
        · rw [if_neg g] at hQ
          rw [if_pos (by rw [if_neg g]; decide)]
          exact hQ
      unfold rnd
      by_cases g0 : mCan (cM e 0) (bR e 0).1 = true
      · rw [if_pos g0] at d1
        have re0 := hr1.add (show 0 < 2 by omega) y0 w0 g0
        have oe0 : vOk (setM e 0 (mSet (cM e 0) (bR e 0).1 (mOf (cM e 0) (bR e 0).1 + 1))) := ⟨re0.1, fun q hq => (re0.2 q hq).1⟩
        obtain ⟨iv6, k1, k2, k3⟩ := m_ans (sc := sc) (p := p) (v3 := .null) d1 oe0 (show 1 < 2 by omega) (show (bR e 1).1 < 10000 by omega)
        have em : cM (setM e 0 (mSet (cM e 0) (bR e 0).1 (mOf (cM e 0) (bR e 0).1 + 1))) 1 = cM e 1 := setM_ne (by omega)
        rw [em] at k1 k3
        rw [show nI 1 = 1 from rfl] at k3
        have W6 : WM iv6 cs hs t := W5.w92 k2
        have F6 : FM iv6 iv1 := fun c hc => by rw [k2 c (by omega), F5 c hc]
        have start2 : ∀ Q, (if mCan (cM e 1) (bR e 1).1 = true then zEv sc 118 61 [.ref 91, .int (nI n), .int (nI k), .int (nI (bR e 0).1), .int (nI (bR e 1).1)] [] (zst p iv6) Q else zEv sc 118 58 [.ref 91, .int (nI n), .int (nI k), .int (nI (bR e 0).1), .int (nI (bR e 1).1)] [] (zst p iv6) Q) → zEv sc 118 21 [.ref 91, .int (nI n), .int (nI k), v3, v4] [] (zst p iv1) Q := by
          intro Q hQ
          refine start Q ?_
          rw [if_pos g0]
          simp only [u118_48, u118_49, u118_50, u118_52, z91.1]
          refine k3 _ ?_
          simp only [u118_55, Option.toList_some, Option.toList_none, List.cons_append, List.nil_append, zRef_some, true_and, and_true, true_or, or_true, i10, i01]
          by_cases g : mCan (cM e 1) (bR e 1).1 = true
          · rw [if_pos g] at hQ
            rw [if_pos (by rw [if_pos g]; decide)]
            exact hQ
          · rw [if_neg g] at hQ
            rw [if_neg (by rw [if_neg g]; decide)]
            exact hQ
        by_cases g1 : mCan (cM e 1) (bR e 1).1 = true
        · have hrd : rnd1 e = some (setM (setM e 0 (mSet (cM e 0) (bR e 0).1 (mOf (cM e 0) (bR e 0).1 + 1))) 1 (mSet (cM e 1) (bR e 1).1 (mOf (cM e 1) (bR e 1).1 + 1))) := by
            unfold rnd1
            rw [if_pos g0, if_pos g1]
          rw [if_pos g1] at k1
          rw [hrd]
          have hok := (rnd1_ok hr1 hrd).1
          obtain ⟨iv7, s1, s2, s3, s4⟩ := ih (k + 1) _ iv6 (.int (nI (bR e 0).1)) (.int (nI (bR e 1).1)) (by omega) (by omega) W6 k1 hok
          refine ⟨iv7, s1, s2, fun c hc => by rw [s3 c hc, F6 c hc], fun Q hQ => start2 Q ?_⟩
          rw [if_pos g1]
          simp only [u118_61, u118_64, nI_1]
          exact s4 Q hQ
        · have hrd : rnd1 e = none := by
            unfold rnd1
            rw [if_pos g0, if_neg g1]
          rw [hrd]
          refine ⟨iv6, W6, fun e' he => (by cases he), F6, fun Q hQ => start2 Q ?_⟩
          rw [if_neg g1]
          simp only [u118_58, u118_60]
          exact hQ
      · have hrd : rnd1 e = none := by
          unfold rnd1
          rw [if_neg g0]
        rw [hrd]
        refine ⟨iv5, W5, fun e' he => (by cases he), F5, fun Q hQ => start Q ?_⟩
        rw [if_neg g0]
        simp only [u118_58, u118_60]
        exact hQ
  obtain ⟨iv2, g1, g2, g3, g4⟩ := loop n 0 cs iv v3 v4 (by omega) (by omega) W hv r0
  refine ⟨iv2, g1, g2, g3, fun Q hQ => ?_⟩
  have l0 := g4 Q hQ
  rw [nI_0] at l0
  have n0 : ¬ (cM cs 0).length = 0 := fun z => hr (Or.inl z)
  have n1 : ¬ (cM cs 1).length = 0 := fun z => hr (Or.inr z)
  have l12 : (cM cs 0).length ≤ 12 ∧ (cM cs 1).length ≤ 12 := ⟨(o.2 0 (by omega)).1, (o.2 1 (by omega)).1⟩
  simp only [u118_0, u118_1, u118_2, u118_5, u118_8, u118_9, u118_10, u118_13, u118_19, u118_20, u118_16, u118_18, Option.toList_some, Option.toList_none, List.cons_append, List.nil_append, zRef_some, true_and, and_true, true_or, or_true, i10, i01, z91.1, q0 iv cs hv, q1 iv cs hv, nI_zero (show (cM cs 0).length < 2 ^ 31 by omega), nI_zero (show (cM cs 1).length < 2 ^ 31 by omega), n0, n1, not_false_eq_true, if_true, if_false]
  exact l0
theorem M_round (R : RM iv cs hs t) : OKm sc 127 [.ref 91, .int x] p iv (sRound cs x).1 (nC cs (sRound cs x)) (nH cs hs (sRound cs x)) t := by
  obtain ⟨W, V, F⟩ := R.begin
  have o := R.2.1
  have l12 : (cM cs 0).length ≤ 12 ∧ (cM cs 1).length ≤ 12 := ⟨(o.2 0 (by omega)).1, (o.2 1 (by omega)).1⟩
  have no : ∀ a iv1, ¬ eIA < a → WM iv1 cs hs t → FM iv1 iv → (∀ Q, zEv sc 92 0 [.ref 91, .int a, .null] [] (zst p iv1) (fun r h9 => zEv sc 127 28 [.ref 91, .int x] (r.toList ++ []) h9 Q) → zEv sc 127 0 [.ref 91, .int x] [] (zst p iv) Q) → OKm sc 127 [.ref 91, .int x] p iv a cs hs t := by
    intro a iv1 ha W1 F1 e
    obtain ⟨iv2, q1, q2, q3⟩ := m_actedNo (sc := sc) (p := p) (a := a) (v := .null) W1 ha
    refine ⟨iv2, q1, fun c hc => by rw [q2 c hc, F1 c hc], fun Q hQ => e Q (q3 _ ?_)⟩
    simp only [u127_28, Option.toList_some, Option.toList_none, List.cons_append, List.nil_append, zRef_some, true_and, and_true, true_or, or_true, i10, i01]
    exact hQ
  unfold sRound
  by_cases g : 1 ≤ x ∧ x ≤ 20
  · have d1 := decide_eq_true g
    rw [if_pos g]
    obtain ⟨n, hn1, hn, rfl⟩ := in_nI2 (l := 1) (k := 20) (by omega) (by omega) g.1 g.2
    rw [tn_nI (by omega)]
    have head : ∀ Q, zEv sc 127 0 [.ref 91, .int (nI n)] [] (zst p iv) Q ↔ zEv sc 118 0 [.ref 91, .int (nI n), .null, .null, .null] [] (zst p (cp66 iv 93 92 66)) (fun r h9 => zEv sc 127 20 [.ref 91, .int (nI n)] (r.toList ++ [.ref 91]) h9 Q) := by
      intro Q
      simp only [u127_0, u127_1, u127_4, u127_5, u127_6, u127_7, u127_9, u127_12, u127_15, u127_16, u127_17, m_begins, m_in, d1, zb_t, Option.toList_some, Option.toList_none, List.cons_append, List.nil_append, zRef_some, true_and, and_true, true_or, or_true, i10, i01, if_false, z91.1]
    by_cases g2 : (cM cs 0).length = 0 ∨ (cM cs 1).length = 0
    · rw [if_pos g2]
      refine no eNP _ le_IA.2.1 W F (fun Q hQ => (head Q).mpr ?_)
      have q0 : ∀ Q, zEv sc 101 0 [.ref 91, .int 0] [] (zst p (cp66 iv 93 92 66)) Q ↔ Q (some (.int (nI (cM cs 0).length))) (zst p (cp66 iv 93 92 66)) := fun Q => m_mixed (q := 0) V (by omega)
      have q1 : ∀ Q, zEv sc 101 0 [.ref 91, .int 1] [] (zst p (cp66 iv 93 92 66)) Q ↔ Q (some (.int (nI (cM cs 1).length))) (zst p (cp66 iv 93 92 66)) := fun Q => m_mixed (q := 1) V (by omega)
      have hfin : zEv sc 118 16 [.ref 91, .int (nI n), .null, .null, .null] [] (zst p (cp66 iv 93 92 66)) (fun r h9 => zEv sc 127 20 [.ref 91, .int (nI n)] (r.toList ++ [.ref 91]) h9 Q) := by
        simp only [u118_16, u118_18, u127_20, u127_25, u127_23, Option.toList_some, Option.toList_none, List.cons_append, List.nil_append, zRef_some, true_and, and_true, true_or, or_true, i10, i01, z91.1]
        exact hQ
      simp only [u118_0, u118_1, u118_2, Option.toList_some, Option.toList_none, List.cons_append, List.nil_append, zRef_some, true_and, and_true, true_or, or_true, i10, i01, z91.1, q0, u118_5, nI_zero (show (cM cs 0).length < 2 ^ 31 by omega)]
      by_cases e0 : (cM cs 0).length = 0
      · rw [if_pos e0]; exact hfin
      · rw [if_neg e0]
        have e1 : (cM cs 1).length = 0 := g2.resolve_left e0
        simp only [u118_8, u118_9, u118_10, Option.toList_some, Option.toList_none, List.cons_append, List.nil_append, zRef_some, true_and, and_true, true_or, or_true, i10, i01, z91.1, q1, u118_13, nI_zero (show (cM cs 1).length < 2 ^ 31 by omega)]
        rw [if_neg (fun z => z e1)]
        exact hfin
    · rw [if_neg g2]
      obtain ⟨iv2, W2, V2, F2, e2⟩ := m_rounds (sc := sc) (p := p) (v2 := .null) (v3 := .null) (v4 := .null) W V hn g2
      have F2' : FM iv2 iv := fun c hc => by rw [F2 c hc, F c hc]
      have head2 : ∀ Q, zEv sc 92 0 [.ref 91, .int (oRnd (rnd n cs)).1, .null] [] (zst p iv2) (fun r h9 => zEv sc 127 28 [.ref 91, .int (nI n)] (r.toList ++ []) h9 Q) → zEv sc 127 0 [.ref 91, .int (nI n)] [] (zst p iv) Q := by
        intro Q hQ
        rw [head]
        refine e2 _ ?_
        simp only [u127_20, u127_25, u127_23, Option.toList_some, Option.toList_none, List.cons_append, List.nil_append, zRef_some, true_and, and_true, true_or, or_true, i10, i01, z91.1]
        exact hQ
      revert V2 head2
      generalize rnd n cs = O
      intro V2 head2
      cases O with
      | none => exact no eLR iv2 le_IA.2.2 W2 F2' head2
      | some d =>
        obtain ⟨V3, o3⟩ := V2 d rfl
        have l3 : (cM d 0).length ≤ 12 ∧ (cM d 1).length ≤ 12 := ⟨(o3.2 0 (by omega)).1, (o3.2 1 (by omega)).1⟩
        obtain ⟨iv3, k1, k2, k3⟩ := m_acted (sc := sc) (p := p) (n := (cM d 0).length + (cM d 1).length) (v := .null) W2 V3 o3 (by omega)
        refine ⟨iv3, k1, fun c hc => by rw [k2 c hc, F2' c hc], fun Q hQ => head2 Q (k3 _ ?_)⟩
        simp only [u127_28, Option.toList_some, Option.toList_none, List.cons_append, List.nil_append, zRef_some, true_and, and_true, true_or, or_true, i10, i01]
        exact hQ
  · rw [if_neg g]
    refine no eIA _ le_IA.1 W F (fun Q hQ => ?_)
    simp only [u127_0, u127_1, u127_4, u127_5, u127_6, u127_7, u127_9, u127_12, u127_15, u127_16, u127_17, u127_20, u127_25, u127_23, m_begins, m_in, decide_eq_false g, zb_f, Option.toList_some, Option.toList_none, List.cons_append, List.nil_append, zRef_some, true_and, and_true, true_or, or_true, i10, i01, if_true, z91.1]
    exact hQ
end ZM7
