/-! ===== FieldMixturesModel: the calls that change the contest ===== -/
theorem mFilt_ok {n r : Nat} {b : Nat → Nat} {l : List (Nat × Nat)} (o : mOk l) : mOk (drL n b r l) := by
  have step : ∀ d i, l.length - i = d → i ≤ l.length → mOk (drI n b r l i) := by
    intro d
    induction d with
    | zero =>
      intro i hd hi
      have : i = l.length := by omega
      subst this
      unfold drI drL
      rw [List.take_length, List.drop_length]
      simpa using o
    | succ d ih =>
      intro i hd hi
      have h := ih (i + 1) (by omega) (by omega)
      have hi2 : i < l.length := by omega
      by_cases e : alw n b (mA l i) r = true
      · rw [← drI_ok hi2 e]; exact h
      · rw [← drI_no hi2 e]; exact mDel_ok h (drI_len hi2).1
  have h := step _ 0 rfl (Nat.zero_le _)
  have e1 : drI n b r l 0 = drL n b r l := by unfold drI; simp
  rw [e1] at h
  exact h
section ZM6
variable {sc : Nat × (Nat → Int32)} {Q : Option Value → zA → Prop} {h : zA} {p : Nat → Option Nat} {iv : Nat → Nat → Int32} {cs d : CS} {hs : List CS} {t : List Nat} {x y z w lo hi : Int32} {q k i : Nat}
theorem RM.v (R : RM iv cs hs t) : isV (iv 92) cs ∧ vOk cs := ⟨R.1, R.2.1⟩
/-- the end of a call that answers with an error -/
theorem end_no {K pc : Nat} {ls : List Value} {a : Int32} (W : WM iv cs hs t) (ha : ¬ eIA < a) (e : ∀ Q, zEv sc K pc ls [.int a, .ref 91] (zst p iv) Q ↔ zEv sc 92 0 [.ref 91, .int a, .null] [] (zst p iv) Q) : ∃ iv2, RM iv2 cs hs t ∧ FM iv2 iv ∧ ∀ (Q : Option Value → zA → Prop), Q (some (.int a)) (zst p iv2) → zEv sc K pc ls [.int a, .ref 91] (zst p iv) Q := by
  obtain ⟨iv2, g1, g2, g3⟩ := m_actedNo (sc := sc) (p := p) (v := .null) W ha
  exact ⟨iv2, g1, g2, fun Q hQ => (e Q).mpr (g3 Q hQ)⟩
theorem m_isOwn (hv : isV (iv 92) cs) (o : vOk cs) : zEv sc 124 0 [.ref 91, .int x, .int y] [] (zst p iv) Q ↔ Q (some (.int (zb (decide (isQ x ∧ isA cs (tn x) y = true))))) (zst p iv) := by
  by_cases g1 : isQ x
  · have d1 := decide_eq_true g1
    obtain ⟨q, hq, rfl⟩ := isQ_nI g1
    rw [tn_nI (by omega)]
    rcases Bool.eq_false_or_eq_true (isA cs q y) with g2 | g2
    · rw [decide_eq_true ⟨g1, g2⟩]
      simp only [u124_0, u124_1, u124_4, u124_7, u124_8, u124_9, u124_10, u124_13, u124_16, u124_17, u124_21, u124_20, m_isPlayer, d1, m_isAlloc hv o.1.w hq, g2, zb_t, Option.toList_some, Option.toList_none, List.cons_append, List.nil_append, zRef_some, true_and, and_true, true_or, or_true, i10, i01, if_false, z91.1]
    · rw [decide_eq_false (fun z => by rw [g2] at z; cases z.2)]
      simp only [u124_0, u124_1, u124_4, u124_7, u124_8, u124_9, u124_10, u124_13, u124_16, u124_17, u124_21, u124_20, m_isPlayer, d1, m_isAlloc hv o.1.w hq, g2, zb_t, zb_f, Option.toList_some, Option.toList_none, List.cons_append, List.nil_append, zRef_some, true_and, and_true, true_or, or_true, i10, i01, if_false, if_true, z91.1]
  · rw [decide_eq_false (fun z => g1 z.1)]
    simp only [u124_0, u124_1, u124_4, u124_7, u124_8, u124_9, u124_10, u124_13, u124_16, u124_17, u124_21, u124_20, m_isPlayer, decide_eq_false g1, zb_f, Option.toList_some, Option.toList_none, List.cons_append, List.nil_append, zRef_some, true_and, and_true, true_or, or_true, i10, i01, if_true]
theorem M_tie (R : RM iv cs hs t) : OKm sc 123 [.ref 91, .int x] p iv (sTie cs x).1 (nC cs (sTie cs x)) (nH cs hs (sTie cs x)) t := by
  obtain ⟨W, V, F⟩ := R.begin
  have o := R.2.1
  unfold sTie
  by_cases g : 0 ≤ x ∧ x ≤ 2
  · have d1 := decide_eq_true g
    rw [if_pos g]
    obtain ⟨r, hr, rfl⟩ := in_nI (k := 2) (by omega) g.1 g.2
    rw [tn_nI (by omega)]
    have V2 : isV (w2 (cp66 iv 93 92 66) 92 1 (nI r) 92) (setT cs r) := by
      obtain ⟨a1, a2, a3, a4, a5, a6, a7⟩ := V
      refine ⟨by rw [w2_g (by omega)]; exact a1, w2_eq, fun f hf => by rw [w2_g (by omega)]; exact a3 f hf, fun q hq => by rw [w2_g (by omega)]; exact a4 q hq, fun q f hq hf => by rw [w2_g (by omega)]; exact a5 q f hq hf, fun q hq => by rw [w2_g (by omega)]; exact a6 q hq, fun q k hq hk => by rw [w2_g (by omega), w2_g (by omega)]; exact a7 q k hq hk⟩
    have o2 : vOk (setT cs r) := ⟨⟨o.1.1, o.1.2.1, hr, o.1.2.2.2.1, o.1.2.2.2.2⟩, o.2⟩
    obtain ⟨iv2, g1, g2, g3⟩ := m_acted (sc := sc) (p := p) (n := cT cs) (v := .null) (WM.w92 (iv2 := w2 (cp66 iv 93 92 66) 92 1 (nI r)) W (fun c hc => w2_c hc)) V2 o2 (by have := o.1.2.2.1; omega)
    refine ⟨iv2, g1, fun c hc => by rw [g2 c hc, w2_c (by omega), F c hc], fun Q hQ => ?_⟩
    have V1 := V.2.1
    simp only [u123_0, u123_1, u123_4, u123_5, u123_6, u123_7, u123_8, u123_11, u123_14, u123_15, u123_16, u123_17, m_begins, m_in, d1, zb_t, Option.toList_some, Option.toList_none, List.cons_append, List.nil_append, zRef_some, true_and, and_true, true_or, or_true, i10, i01, if_false, z91.1]
    simp only [u116_0, u116_1, u116_4, u116_5, u116_6, u116_7, u116_8, u116_11, u116_12, u116_13, u116_14, u116_15, u123_0, u123_1, u123_4, u123_5, u123_6, u123_7, u123_8, u123_11, u123_14, u123_15, u123_16, u123_17, u123_20, u123_25, u123_28, u123_23, Option.toList_some, Option.toList_none, List.cons_append, List.nil_append, zRef_some, true_and, and_true, true_or, or_true, i10, i01, z91.1, z91.2.1, z91r.1, z92l.1, c1, v1, V1]
    refine g3 _ ?_
    simp only [u123_0, u123_1, u123_4, u123_5, u123_6, u123_7, u123_8, u123_11, u123_14, u123_15, u123_16, u123_17, u123_20, u123_25, u123_28, u123_23, Option.toList_some, Option.toList_none, List.cons_append, List.nil_append, zRef_some, true_and, and_true, true_or, or_true, i10, i01]
    exact hQ
  · rw [if_neg g]
    obtain ⟨iv2, g1, g2, g3⟩ := m_actedNo (sc := sc) (p := p) (a := eIA) (v := .null) W le_IA.1
    refine ⟨iv2, g1, fun c hc => by rw [g2 c hc, F c hc], fun Q hQ => ?_⟩
    simp only [u123_0, u123_1, u123_4, u123_5, u123_6, u123_7, u123_8, u123_11, u123_14, u123_15, u123_16, u123_17, u123_20, u123_25, u123_23, m_begins, m_in, decide_eq_false g, zb_f, Option.toList_some, Option.toList_none, List.cons_append, List.nil_append, zRef_some, true_and, and_true, true_or, or_true, i10, i01, if_true, z91.1]
    refine g3 _ ?_
    simp only [u123_0, u123_1, u123_4, u123_5, u123_6, u123_7, u123_8, u123_11, u123_14, u123_15, u123_16, u123_17, u123_20, u123_25, u123_28, u123_23, Option.toList_some, Option.toList_none, List.cons_append, List.nil_append, zRef_some, true_and, and_true, true_or, or_true, i10, i01]
    exact hQ
theorem M_value (R : RM iv cs hs t) : OKm sc 120 [.ref 91, .int x, .int y] p iv (sValue cs x y).1 (nC cs (sValue cs x y)) (nH cs hs (sValue cs x y)) t := by
  obtain ⟨W, V, F⟩ := R.begin
  have o := R.2.1
  have hN := o.1.2.1
  unfold sValue
  by_cases g1 : isF cs x
  · have d1 : decide (0 ≤ x ∧ x ≤ nI (cN cs) - 1) = true := decide_eq_true g1
    by_cases g2 : 1 ≤ y ∧ y ≤ 9
    · have d2 := decide_eq_true g2
      rw [if_pos ⟨g1, g2⟩]
      obtain ⟨f, hf, rfl⟩ := isF_nI o.1 g1
      obtain ⟨r, hr1, hr9, rfl⟩ := in_nI2 (l := 1) (k := 9) (by omega) (by omega) g2.1 g2.2
      rw [tn_nI (by omega), tn_nI (by omega)]
      have V2 : isV (w2 (cp66 iv 93 92 66) 92 (2 + f) (nI r) 92) (setV cs f r) := by
        obtain ⟨a1, a2, a3, a4, a5, a6, a7⟩ := V
        refine ⟨by rw [w2_g (by omega)]; exact a1, by rw [w2_g (by omega)]; exact a2, fun k hk => ?_, fun q hq => by rw [w2_g (by omega)]; exact a4 q hq, fun q f hq hf => by rw [w2_g (by omega)]; exact a5 q f hq hf, fun q hq => by rw [w2_g (by omega)]; exact a6 q hq, fun q k hq hk => by rw [w2_g (by omega), w2_g (by omega)]; exact a7 q k hq hk⟩
        show w2 (cp66 iv 93 92 66) 92 (2 + f) (nI r) 92 (2 + k) = nI (if k = f then r else cV cs k)
        by_cases e : k = f
        · rw [e, w2_eq, if_pos rfl]
        · rw [w2_g (by omega), if_neg e]; exact a3 k hk
      have o2 : vOk (setV cs f r) := ⟨⟨o.1.1, o.1.2.1, o.1.2.2.1, fun k hk => by
        show 1 ≤ (if k = f then r else cV cs k) ∧ (if k = f then r else cV cs k) ≤ 9
        have := o.1.2.2.2.1 k hk
        split <;> omega, o.1.2.2.2.2⟩, o.2⟩
      obtain ⟨iv2, q1, q2, q3⟩ := m_acted (sc := sc) (p := p) (n := cV cs f) (v := .null) (WM.w92 (iv2 := w2 (cp66 iv 93 92 66) 92 (2 + f) (nI r)) W (fun c hc => w2_c hc)) V2 o2 (by have := o.1.2.2.2.1 f (by omega); omega)
      refine ⟨iv2, q1, fun c hc => by rw [q2 c hc, w2_c (by omega), F c hc], fun Q hQ => ?_⟩
      have V3 := V.2.2.1 f (by omega)
      simp only [u120_0, u120_1, u120_4, u120_5, u120_6, u120_7, u120_10, u120_13, u120_14, u120_15, u120_17, u120_20, u120_23, u120_24, u120_25, u120_26, u120_27, u120_28, u120_31, u120_36, u120_39, u120_34, m_begins, m_in, m_isField V, d1, d2, zb_t, Option.toList_some, Option.toList_none, List.cons_append, List.nil_append, zRef_some, true_and, and_true, true_or, or_true, i10, i01, if_false, z91.1, n2, nI_add]
      simp only [u116_0, u116_1, u116_4, u116_5, u116_6, u116_7, u116_8, u116_11, u116_12, u116_13, u116_14, u116_15, u120_0, u120_1, u120_4, u120_5, u120_6, u120_7, u120_10, u120_13, u120_14, u120_15, u120_17, u120_20, u120_23, u120_24, u120_25, u120_26, u120_27, u120_28, u120_31, u120_36, u120_39, u120_34, Option.toList_some, Option.toList_none, List.cons_append, List.nil_append, zRef_some, true_and, and_true, true_or, or_true, i10, i01, z91.1, z91.2.1, z91r.1, z92l.1, okN (show 2 + f < 66 by omega), nI_clamp (show 2 + f < 2 ^ 31 by omega), V3]
      refine q3 _ ?_
      simp only [u120_0, u120_1, u120_4, u120_5, u120_6, u120_7, u120_10, u120_13, u120_14, u120_15, u120_17, u120_20, u120_23, u120_24, u120_25, u120_26, u120_27, u120_28, u120_31, u120_36, u120_39, u120_34, Option.toList_some, Option.toList_none, List.cons_append, List.nil_append, zRef_some, true_and, and_true, true_or, or_true, i10, i01]
      exact hQ
    · rw [if_neg (fun z => g2 z.2)]
      obtain ⟨iv2, q1, q2, q3⟩ := m_actedNo (sc := sc) (p := p) (a := eIA) (v := .null) W le_IA.1
      refine ⟨iv2, q1, fun c hc => by rw [q2 c hc, F c hc], fun Q hQ => ?_⟩
      simp only [u120_0, u120_1, u120_4, u120_5, u120_6, u120_7, u120_10, u120_13, u120_14, u120_15, u120_17, u120_20, u120_23, u120_24, u120_25, u120_26, u120_27, u120_28, u120_31, u120_36, u120_39, u120_34, m_begins, m_in, m_isField V, d1, decide_eq_false g2, zb_t, zb_f, Option.toList_some, Option.toList_none, List.cons_append, List.nil_append, zRef_some, true_and, and_true, true_or, or_true, i10, i01, if_true, if_false, z91.1]
      refine q3 _ ?_
      simp only [u120_0, u120_1, u120_4, u120_5, u120_6, u120_7, u120_10, u120_13, u120_14, u120_15, u120_17, u120_20, u120_23, u120_24, u120_25, u120_26, u120_27, u120_28, u120_31, u120_36, u120_39, u120_34, Option.toList_some, Option.toList_none, List.cons_append, List.nil_append, zRef_some, true_and, and_true, true_or, or_true, i10, i01]
      exact hQ
  · rw [if_neg (fun z => g1 z.1)]
    have d1 : decide (0 ≤ x ∧ x ≤ nI (cN cs) - 1) = false := decide_eq_false g1
    obtain ⟨iv2, q1, q2, q3⟩ := m_actedNo (sc := sc) (p := p) (a := eIA) (v := .null) W le_IA.1
    refine ⟨iv2, q1, fun c hc => by rw [q2 c hc, F c hc], fun Q hQ => ?_⟩
    simp only [u120_0, u120_1, u120_4, u120_5, u120_6, u120_7, u120_10, u120_13, u120_14, u120_15, u120_17, u120_20, u120_23, u120_24, u120_25, u120_26, u120_27, u120_28, u120_31, u120_36, u120_39, u120_34, m_begins, m_in, m_isField V, d1, zb_f, Option.toList_some, Option.toList_none, List.cons_append, List.nil_append, zRef_some, true_and, and_true, true_or, or_true, i10, i01, if_true, z91.1]
    refine q3 _ ?_
    simp only [u120_0, u120_1, u120_4, u120_5, u120_6, u120_7, u120_10, u120_13, u120_14, u120_15, u120_17, u120_20, u120_23, u120_24, u120_25, u120_26, u120_27, u120_28, u120_31, u120_36, u120_39, u120_34, Option.toList_some, Option.toList_none, List.cons_append, List.nil_append, zRef_some, true_and, and_true, true_or, or_true, i10, i01]
    exact hQ
theorem RM.off {iv0 : Nat → Nat → Int32} (W : WM iv0 cs hs t) (V : isV (iv0 92) cs) : RM iv0 cs hs t := ⟨V, W.2.1, W.2.2.1, W.2.2.2⟩
theorem V_sd {g g2 : Nat → Int32} {r : Nat} {bd : Nat → Nat} (V : isV g cs) (o : vOk cs) (hq : q < 2) (h1 : g2 (6 + q) = nI r) (h2 : ∀ f, f < 4 → g2 (8 + 4 * q + f) = nI (bd f)) (h : ∀ x, x < 66 → x ≠ 6 + q → (x < 8 + 4 * q ∨ 12 + 4 * q ≤ x) → g2 x = g x) : isV g2 (setS cs q r bd (cM cs q)) := by
  obtain ⟨a1, a2, a3, a4, a5, a6, a7⟩ := V
  have eM : ∀ z, cM (setS cs q r bd (cM cs q)) z = cM cs z := fun z => by
    show (if z = q then cM cs q else cM cs z) = cM cs z
    split
    · next e => rw [e]
    · rfl
  refine ⟨by rw [h 0 (by omega) (by omega) (by omega)]; exact a1, by rw [h 1 (by omega) (by omega) (by omega)]; exact a2, fun k hk => by rw [h _ (by omega) (by omega) (by omega)]; exact a3 k hk, fun z hz => ?_, fun z f hz hf => ?_, fun z hz => by rw [eM z, h _ (by omega) (by omega) (by omega)]; exact a6 z hz, fun z k hz hk => ?_⟩
  · show g2 (6 + z) = nI (if z = q then r else cR cs z)
    by_cases e : z = q
    · rw [if_pos e, e]; exact h1
    · rw [if_neg e, h _ (by omega) (by omega) (by omega)]; exact a4 z hz
  · show g2 (8 + 4 * z + f) = nI ((if z = q then bd else cB cs z) f)
    by_cases e : z = q
    · rw [if_pos e, e]; exact h2 f hf
    · rw [if_neg e, h _ (by omega) (by omega) (by omega)]; exact a5 z f hz hf
  · rw [eM z] at hk ⊢
    have := (o.2 z hz).1
    rw [h _ (by omega) (by omega) (by omega), h _ (by omega) (by omega) (by omega)]
    exact a7 z k hz hk
/-- the end of resources and bound: sorts, acted -/
theorem m_sideEnd {iv1 : Nat → Nat → Int32} {r : Nat} {bd : Nat → Nat} (W : WM iv1 cs hs t) (V : isV (iv1 92) (setS cs q r bd (cM cs q))) (hq : q < 2) (hr : r ≤ 8) (hb : ∀ f, f < 4 → bd f ≤ 8) : ∃ iv2 iv3, RM iv3 (nC cs (sSide cs q r bd)) (nH cs hs (sSide cs q r bd)) t ∧ FM iv3 iv1 ∧ (∀ (Q : Option Value → zA → Prop), Q (some (.int (sSide cs q r bd).1)) (zst p iv2) → zEv sc 109 0 [.ref 91, .int (nI q), .null] [] (zst p iv1) Q) ∧ ∀ (Q : Option Value → zA → Prop), Q (some (.int (sSide cs q r bd).1)) (zst p iv3) → zEv sc 92 0 [.ref 91, .int (sSide cs q r bd).1, .null] [] (zst p iv2) Q := by
  have o := W.2.1
  have hqq : ∀ {α : Type} (a b : α), (if q = q then a else b) = a := fun a b => if_pos rfl
  have eR : cR (setS cs q r bd (cM cs q)) q = r := hqq _ _
  have eB : cB (setS cs q r bd (cM cs q)) q = bd := hqq _ _
  have eM : cM (setS cs q r bd (cM cs q)) q = cM cs q := hqq _ _
  have eMz : ∀ z, cM (setS cs q r bd (cM cs q)) z = cM cs z := fun z => by
    show (if z = q then cM cs q else cM cs z) = cM cs z
    split
    · next e => rw [e]
    · rfl
  have hw : wOk (setS cs q r bd (cM cs q)) := by
    refine ⟨o.1.1, o.1.2.1, o.1.2.2.1, o.1.2.2.2.1, fun z hz => ?_⟩
    show (if z = q then r else cR cs z) ≤ 8 ∧ (∀ f, f < 4 → (if z = q then bd else cB cs z) f ≤ 8) ∧ True
    by_cases e : z = q
    · simp only [if_pos e]; exact ⟨hr, hb, trivial⟩
    · simp only [if_neg e]; exact ⟨(o.1.2.2.2.2 z hz).1, (o.1.2.2.2.2 z hz).2.1, trivial⟩
  obtain ⟨iv2, g1, g2, g3⟩ := m_sorts (sc := sc) (p := p) (v2 := .null) V hw (fun z hz => by rw [eMz z]; exact (o.2 z hz).1) (by rw [eM]; exact o.2 q hq) hq
  have eN : cN (setS cs q r bd (cM cs q)) = cN cs := rfl
  rw [eN, eR, eB, eM, setM_setS] at g1
  rw [eN, eR, eB, eM] at g3
  have od : cOk (setS cs q r bd (drL (cN cs) bd r (cM cs q))) := setS_ok o.1 hr hb
  have odm : vOk (setS cs q r bd (drL (cN cs) bd r (cM cs q))) := by
    refine ⟨od, fun z hz => ?_⟩
    show mOk (if z = q then drL (cN cs) bd r (cM cs q) else cM cs z)
    by_cases e : z = q
    · rw [if_pos e]
      exact mFilt_ok (o.2 q hq)
    · rw [if_neg e]; exact o.2 z hz
  have hlen : (drL (cN cs) bd r (cM cs q)).length ≤ 12 := by
    have := odm.2 q hq
    have e : cM (setS cs q r bd (drL (cN cs) bd r (cM cs q))) q = drL (cN cs) bd r (cM cs q) := hqq _ _
    rw [e] at this
    exact this.1
  obtain ⟨iv3, k1, k2, k3⟩ := m_acted (sc := sc) (p := p) (n := (drL (cN cs) bd r (cM cs q)).length) (v := .null) (W.w92 g2) g1 odm (by omega)
  exact ⟨iv2, iv3, k1, fun c hc => by rw [k2 c hc, g2 c (by omega)], g3, k3⟩
theorem M_res (R : RM iv cs hs t) : OKm sc 121 [.ref 91, .int x, .int y] p iv (sRes cs x y).1 (nC cs (sRes cs x y)) (nH cs hs (sRes cs x y)) t := by
  obtain ⟨W, V, F⟩ := R.begin
  have o := R.2.1
  have R0 := RM.off W V
  unfold sRes
  by_cases g1 : isQ x
  · have d1 := decide_eq_true g1
    by_cases g2 : 0 ≤ y ∧ y ≤ 8
    · have d2 := decide_eq_true g2
      rw [if_pos ⟨g1, g2⟩]
      obtain ⟨q, hq, rfl⟩ := isQ_nI g1
      obtain ⟨r, hr, rfl⟩ := in_nI (k := 8) (by omega) g2.1 g2.2
      rw [tn_nI (by omega), tn_nI (by omega)]
      have V2 : isV (w2 (cp66 iv 93 92 66) 92 (6 + q) (nI r) 92) (setS cs q r (cB cs q) (cM cs q)) := V_sd V o hq w2_eq (fun f hf => by rw [w2_g (by omega)]; exact V.2.2.2.2.1 q f hq hf) (fun x _ h1 h2 => w2_g h1)
      obtain ⟨iv2, iv3, k1, k2, k3, k4⟩ := m_sideEnd (sc := sc) (p := p) (WM.w92 (iv2 := w2 (cp66 iv 93 92 66) 92 (6 + q) (nI r)) W (fun c hc => w2_c hc)) V2 hq hr (o.1.2.2.2.2 q hq).2.1
      refine ⟨iv3, k1, fun c hc => by rw [k2 c hc, w2_c (by omega), F c hc], fun Q hQ => ?_⟩
      simp only [u121_0, u121_1, u121_4, u121_5, u121_8, u121_11, u121_12, u121_13, u121_15, u121_18, u121_24, u121_25, u121_28, u121_30, u121_31, u121_32, u121_33, u121_34, u121_35, u121_36, u121_37, u121_40, u121_43, u121_21, u121_23, m_begins, m_isPlayer, m_in, d1, d2, zb_t, Option.toList_some, Option.toList_none, List.cons_append, List.nil_append, zRef_some, true_and, and_true, true_or, or_true, i10, i01, not_false_eq_true, if_true, if_false, z91.1, z91.2.1, z91r.1, z92l.1, n6, nI_add, okN (show 6 + q < 66 by omega), nI_clamp (show 6 + q < 2 ^ 31 by omega)]
      refine k3 _ ?_
      simp only [u121_0, u121_1, u121_4, u121_5, u121_8, u121_11, u121_12, u121_13, u121_15, u121_18, u121_24, u121_25, u121_28, u121_30, u121_31, u121_32, u121_33, u121_34, u121_35, u121_36, u121_37, u121_40, u121_43, u121_21, u121_23, Option.toList_some, Option.toList_none, List.cons_append, List.nil_append, zRef_some, true_and, and_true, true_or, or_true, i10, i01, z91.1]
      refine k4 _ ?_
      simp only [u121_0, u121_1, u121_4, u121_5, u121_8, u121_11, u121_12, u121_13, u121_15, u121_18, u121_24, u121_25, u121_28, u121_30, u121_31, u121_32, u121_33, u121_34, u121_35, u121_36, u121_37, u121_40, u121_43, u121_21, u121_23, Option.toList_some, Option.toList_none, List.cons_append, List.nil_append, zRef_some, true_and, and_true, true_or, or_true, i10, i01]
      exact hQ
    · rw [if_neg (fun z => g2 z.2)]
      refine ⟨_, R0, F, fun Q hQ => ?_⟩
      simp only [u121_0, u121_1, u121_4, u121_5, u121_8, u121_11, u121_12, u121_13, u121_15, u121_18, u121_24, u121_25, u121_28, u121_30, u121_31, u121_32, u121_33, u121_34, u121_35, u121_36, u121_37, u121_40, u121_43, u121_21, u121_23, m_begins, m_isPlayer, m_in, d1, decide_eq_false g2, zb_t, zb_f, Option.toList_some, Option.toList_none, List.cons_append, List.nil_append, zRef_some, true_and, and_true, true_or, or_true, i10, i01, not_true_eq_false, if_true, if_false, z91.1]
      exact hQ
  · rw [if_neg (fun z => g1 z.1)]
    refine ⟨_, R0, F, fun Q hQ => ?_⟩
    simp only [u121_0, u121_1, u121_4, u121_5, u121_8, u121_11, u121_12, u121_13, u121_15, u121_18, u121_24, u121_25, u121_28, u121_30, u121_31, u121_32, u121_33, u121_34, u121_35, u121_36, u121_37, u121_40, u121_43, u121_21, u121_23, m_begins, m_isPlayer, decide_eq_false g1, zb_f, Option.toList_some, Option.toList_none, List.cons_append, List.nil_append, zRef_some, true_and, and_true, true_or, or_true, i10, i01, if_true, z91.1]
    exact hQ
theorem M_bound (R : RM iv cs hs t) : OKm sc 122 [.ref 91, .int x, .int y, .int z] p iv (sBound cs x y z).1 (nC cs (sBound cs x y z)) (nH cs hs (sBound cs x y z)) t := by
  obtain ⟨W, V, F⟩ := R.begin
  have o := R.2.1
  have R0 := RM.off W V
  have hN := o.1.2.1
  unfold sBound
  by_cases g1 : isQ x
  · have d1 := decide_eq_true g1
    by_cases g2 : isF cs y
    · have d2 : decide (0 ≤ y ∧ y ≤ nI (cN cs) - 1) = true := decide_eq_true g2
      by_cases g3 : 0 ≤ z ∧ z ≤ 8
      · have d3 := decide_eq_true g3
        rw [if_pos ⟨g1, g2, g3⟩]
        obtain ⟨q, hq, rfl⟩ := isQ_nI g1
        obtain ⟨f, hf, rfl⟩ := isF_nI o.1 g2
        obtain ⟨r, hr, rfl⟩ := in_nI (k := 8) (by omega) g3.1 g3.2
        rw [tn_nI (by omega), tn_nI (by omega), tn_nI (by omega)]
        have hbd := (o.1.2.2.2.2 q hq).2.1
        have V2 : isV (w2 (cp66 iv 93 92 66) 92 (8 + 4 * q + f) (nI r) 92) (setS cs q (cR cs q) (fun k => if k = f then r else cB cs q k) (cM cs q)) := V_sd V o hq (by rw [w2_g (by omega)]; exact V.2.2.2.1 q hq) (fun k hk => by
          show w2 (cp66 iv 93 92 66) 92 (8 + 4 * q + f) (nI r) 92 (8 + 4 * q + k) = nI (if k = f then r else cB cs q k)
          by_cases e : k = f
          · rw [e, w2_eq, if_pos rfl]
          · rw [w2_g (by omega), if_neg e]; exact V.2.2.2.2.1 q k hq hk) (fun x _ h1 h2 => w2_g (by omega))
        obtain ⟨iv2, iv3, k1, k2, k3, k4⟩ := m_sideEnd (sc := sc) (p := p) (WM.w92 (iv2 := w2 (cp66 iv 93 92 66) 92 (8 + 4 * q + f) (nI r)) W (fun c hc => w2_c hc)) V2 hq (o.1.2.2.2.2 q hq).1 (fun k hk => by have := hbd k hk; show (if k = f then r else cB cs q k) ≤ 8; split <;> omega)
        refine ⟨iv3, k1, fun c hc => by rw [k2 c hc, w2_c (by omega), F c hc], fun Q hQ => ?_⟩
        simp only [u122_0, u122_1, u122_4, u122_5, u122_8, u122_11, u122_12, u122_13, u122_16, u122_19, u122_20, u122_21, u122_23, u122_26, m_begins, m_isPlayer, m_isField V, m_in, d1, d2, d3, zb_t, Option.toList_some, Option.toList_none, List.cons_append, List.nil_append, zRef_some, true_and, and_true, true_or, or_true, i10, i01, not_false_eq_true, if_true, if_false, z91.1]
        simp only [u122_32, u122_33, u122_36, u122_38, u122_39, u122_40, u122_41, u122_42, u122_43, u122_44, u122_45, u122_46, u122_47, u122_48, u122_49, zRef_some, true_and, z91.1, z91.2.1, z91r.1, z92l.1, n8, n4, pk_mul, nI_add, okN (show 8 + 4 * q + f < 66 by omega), nI_clamp (show 8 + 4 * q + f < 2 ^ 31 by omega)]
        refine k3 _ ?_
        simp only [u122_0, u122_1, u122_4, u122_5, u122_8, u122_11, u122_12, u122_13, u122_16, u122_19, u122_20, u122_21, u122_23, u122_26, u122_32, u122_33, u122_36, u122_38, u122_39, u122_40, u122_41, u122_42, u122_43, u122_44, u122_45, u122_46, u122_47, u122_48, u122_49, u122_52, u122_55, u122_29, u122_31, Option.toList_some, Option.toList_none, List.cons_append, List.nil_append, zRef_some, true_and, and_true, true_or, or_true, i10, i01, z91.1]
        refine k4 _ ?_
        simp only [u122_0, u122_1, u122_4, u122_5, u122_8, u122_11, u122_12, u122_13, u122_16, u122_19, u122_20, u122_21, u122_23, u122_26, u122_32, u122_33, u122_36, u122_38, u122_39, u122_40, u122_41, u122_42, u122_43, u122_44, u122_45, u122_46, u122_47, u122_48, u122_49, u122_52, u122_55, u122_29, u122_31, Option.toList_some, Option.toList_none, List.cons_append, List.nil_append, zRef_some, true_and, and_true, true_or, or_true, i10, i01]
        exact hQ
      · rw [if_neg (fun z => g3 z.2.2)]
        refine ⟨_, R0, F, fun Q hQ => ?_⟩
        simp only [u122_0, u122_1, u122_4, u122_5, u122_8, u122_11, u122_12, u122_13, u122_16, u122_19, u122_20, u122_21, u122_23, u122_26, u122_32, u122_33, u122_36, u122_38, u122_39, u122_40, u122_41, u122_42, u122_43, u122_44, u122_45, u122_46, u122_47, u122_48, u122_49, u122_52, u122_55, u122_29, u122_31, m_begins, m_isPlayer, m_isField V, m_in, d1, d2, decide_eq_false g3, zb_t, zb_f, Option.toList_some, Option.toList_none, List.cons_append, List.nil_append, zRef_some, true_and, and_true, true_or, or_true, i10, i01, not_true_eq_false, if_true, if_false, z91.1]
        exact hQ
    · rw [if_neg (fun z => g2 z.2.1)]
      have d2 : decide (0 ≤ y ∧ y ≤ nI (cN cs) - 1) = false := decide_eq_false g2
      refine ⟨_, R0, F, fun Q hQ => ?_⟩
      simp only [u122_0, u122_1, u122_4, u122_5, u122_8, u122_11, u122_12, u122_13, u122_16, u122_19, u122_20, u122_21, u122_23, u122_26, u122_32, u122_33, u122_36, u122_38, u122_39, u122_40, u122_41, u122_42, u122_43, u122_44, u122_45, u122_46, u122_47, u122_48, u122_49, u122_52, u122_55, u122_29, u122_31, m_begins, m_isPlayer, m_isField V, d1, d2, zb_t, zb_f, Option.toList_some, Option.toList_none, List.cons_append, List.nil_append, zRef_some, true_and, and_true, true_or, or_true, i10, i01, if_true, if_false, z91.1]
      exact hQ
  · rw [if_neg (fun z => g1 z.1)]
    refine ⟨_, R0, F, fun Q hQ => ?_⟩
    simp only [u122_0, u122_1, u122_4, u122_5, u122_8, u122_11, u122_12, u122_13, u122_16, u122_19, u122_20, u122_21, u122_23, u122_26, u122_32, u122_33, u122_36, u122_38, u122_39, u122_40, u122_41, u122_42, u122_43, u122_44, u122_45, u122_46, u122_47, u122_48, u122_49, u122_52, u122_55, u122_29, u122_31, m_begins, m_isPlayer, decide_eq_false g1, zb_f, Option.toList_some, Option.toList_none, List.cons_append, List.nil_append, zRef_some, true_and, and_true, true_or, or_true, i10, i01, if_true, z91.1]
    exact hQ
theorem setM_v {l : List (Nat × Nat)} (o : vOk cs) (hq : q < 2) (hc : cOk (setM cs q l)) (hm : mOk l) : vOk (setM cs q l) := by
  refine ⟨hc, fun z hz => ?_⟩
  show mOk (if z = q then l else cM cs z)
  by_cases e : z = q
  · rw [if_pos e]; exact hm
  · rw [if_neg e]; exact o.2 z hz
theorem M_put (R : RM iv cs hs t) : OKm sc 125 [.ref 91, .int x, .int y, .int z] p iv (sPut cs x y z).1 (nC cs (sPut cs x y z)) (nH cs hs (sPut cs x y z)) t := by
  obtain ⟨W, V, F⟩ := R.begin
  have o := R.2.1
  have no : ∀ a, ¬ eIA < a → (∀ Q, zEv sc 92 0 [.ref 91, .int a, .null] [] (zst p (cp66 iv 93 92 66)) (fun r h9 => zEv sc 125 39 [.ref 91, .int x, .int y, .int z] (r.toList ++ []) h9 Q) → zEv sc 125 0 [.ref 91, .int x, .int y, .int z] [] (zst p iv) Q) → OKm sc 125 [.ref 91, .int x, .int y, .int z] p iv a cs hs t := by
    intro a ha e
    obtain ⟨iv2, q1, q2, q3⟩ := m_actedNo (sc := sc) (p := p) (a := a) (v := .null) W ha
    refine ⟨iv2, q1, fun c hc => by rw [q2 c hc, F c hc], fun Q hQ => e Q (q3 _ ?_)⟩
    simp only [u125_39, Option.toList_some, Option.toList_none, List.cons_append, List.nil_append, zRef_some, true_and, and_true, true_or, or_true, i10, i01]
    exact hQ
  unfold sPut
  by_cases g1 : isQ x ∧ isA cs (tn x) y = true
  · have d1 := decide_eq_true g1
    by_cases g3 : 1 ≤ z ∧ z ≤ 99
    · have d3 := decide_eq_true g3
      rw [if_pos ⟨g1.1, g1.2, g3⟩]
      obtain ⟨q, hq, rfl⟩ := isQ_nI g1.1
      rw [tn_nI (by omega)] at *
      obtain ⟨a, ha, rfl, hal⟩ := alwI_of o.1 hq g1.2
      obtain ⟨w, hw1, hw9, rfl⟩ := in_nI2 (l := 1) (k := 99) (by omega) (by omega) g3.1 g3.2
      rw [tn_nI (by omega), tn_nI (by omega)]
      by_cases g4 : (cM cs q).length < 12 ∨ mIn (cM cs q) a = true
      · rw [if_pos g4]
        have hml := (mOf_ok (x := a) (o.2 q hq)).1
        obtain ⟨iv1, r1, r2, r3⟩ := m_lays (sc := sc) (p := p) (w := w) (v4 := .null) (v5 := .null) (v6 := .null) (v7 := .null) V o hq (show a < 10000 by omega) g4
        have o2 : vOk (setM cs q (mSet (cM cs q) a w)) := setM_v o hq (setM_alw o.1 hq (o.2 q hq) (by omega) hal) (mSet_ok (o.2 q hq) g4 (by omega) hw1 hw9)
        obtain ⟨iv2, k1, k2, k3⟩ := m_acted (sc := sc) (p := p) (n := mOf (cM cs q) a) (v := .null) (W.w92 r2) r1 o2 (by omega)
        refine ⟨iv2, k1, fun c hc => by rw [k2 c hc, r2 c (by omega), F c hc], fun Q hQ => ?_⟩
        simp only [u125_0, u125_1, u125_4, u125_5, u125_6, u125_7, u125_8, u125_11, u125_14, u125_15, u125_16, u125_18, u125_21, u125_24, u125_25, u125_26, u125_27, u125_28, u125_31, u125_36, u125_39, u125_34, m_begins, m_isOwn V o, m_in, d1, d3, tn_nI (show q < 2 ^ 31 by omega), zb_t, Option.toList_some, Option.toList_none, List.cons_append, List.nil_append, zRef_some, true_and, and_true, true_or, or_true, i10, i01, if_false, z91.1]
        refine r3 _ ?_
        simp only [u125_0, u125_1, u125_4, u125_5, u125_6, u125_7, u125_8, u125_11, u125_14, u125_15, u125_16, u125_18, u125_21, u125_24, u125_25, u125_26, u125_27, u125_28, u125_31, u125_36, u125_39, u125_34, Option.toList_some, Option.toList_none, List.cons_append, List.nil_append, zRef_some, true_and, and_true, true_or, or_true, i10, i01, z91.1]
        refine k3 _ ?_
        simp only [u125_0, u125_1, u125_4, u125_5, u125_6, u125_7, u125_8, u125_11, u125_14, u125_15, u125_16, u125_18, u125_21, u125_24, u125_25, u125_26, u125_27, u125_28, u125_31, u125_36, u125_39, u125_34, Option.toList_some, Option.toList_none, List.cons_append, List.nil_append, zRef_some, true_and, and_true, true_or, or_true, i10, i01]
        exact hQ
      · rw [if_neg g4]
        refine no eLR le_IA.2.2 (fun Q hQ => ?_)
        simp only [u125_0, u125_1, u125_4, u125_5, u125_6, u125_7, u125_8, u125_11, u125_14, u125_15, u125_16, u125_18, u125_21, u125_24, u125_25, u125_26, u125_27, u125_28, u125_31, u125_36, u125_34, m_begins, m_isOwn V o, m_in, d1, d3, tn_nI (show q < 2 ^ 31 by omega), zb_t, Option.toList_some, Option.toList_none, List.cons_append, List.nil_append, zRef_some, true_and, and_true, true_or, or_true, i10, i01, if_false, z91.1, m_laysNo V o hq (show a < 10000 by omega) g4]
        exact hQ
    · rw [if_neg (fun z => g3 z.2.2)]
      refine no eIA le_IA.1 (fun Q hQ => ?_)
      simp only [u125_0, u125_1, u125_4, u125_5, u125_6, u125_7, u125_8, u125_11, u125_14, u125_15, u125_16, u125_18, u125_21, u125_24, u125_25, u125_26, u125_27, u125_28, u125_31, u125_36, u125_34, m_begins, m_isOwn V o, m_in, d1, decide_eq_false g3, zb_t, zb_f, Option.toList_some, Option.toList_none, List.cons_append, List.nil_append, zRef_some, true_and, and_true, true_or, or_true, i10, i01, if_true, if_false, z91.1]
      exact hQ
  · rw [if_neg (fun z => g1 ⟨z.1, z.2.1⟩)]
    refine no eIA le_IA.1 (fun Q hQ => ?_)
    simp only [u125_0, u125_1, u125_4, u125_5, u125_6, u125_7, u125_8, u125_11, u125_14, u125_15, u125_16, u125_18, u125_21, u125_24, u125_25, u125_26, u125_27, u125_28, u125_31, u125_36, u125_34, m_begins, m_isOwn V o, m_in, decide_eq_false g1, zb_f, Option.toList_some, Option.toList_none, List.cons_append, List.nil_append, zRef_some, true_and, and_true, true_or, or_true, i10, i01, if_true, z91.1]
    exact hQ
theorem M_take {v3 : Value} (R : RM iv cs hs t) : OKm sc 126 [.ref 91, .int x, .int y, v3] p iv (sTake cs x y).1 (nC cs (sTake cs x y)) (nH cs hs (sTake cs x y)) t := by
  obtain ⟨W, V, F⟩ := R.begin
  have o := R.2.1
  have R0 := RM.off W V
  unfold sTake
  by_cases g1 : isQ x ∧ isA cs (tn x) y = true
  · have d1 := decide_eq_true g1
    rw [if_pos g1]
    obtain ⟨q, hq, rfl⟩ := isQ_nI g1.1
    rw [tn_nI (by omega)] at *
    obtain ⟨a, ha, rfl, hal⟩ := alwI_of o.1 hq g1.2
    rw [tn_nI (by omega)]
    have hml := mOf_ok (x := a) (o.2 q hq)
    have hp := mPl_le (cM cs q) a
    have hl := (o.2 q hq).1
    have head : ∀ Q, zEv sc 126 0 [.ref 91, .int (nI q), .int (nI a), v3] [] (zst p iv) Q ↔ (if ¬ nI (mOf (cM cs q) a) = 0 then zEv sc 126 30 [.ref 91, .int (nI q), .int (nI a), .int (nI (mOf (cM cs q) a))] [] (zst p (cp66 iv 93 92 66)) Q else zEv sc 126 27 [.ref 91, .int (nI q), .int (nI a), .int (nI (mOf (cM cs q) a))] [] (zst p (cp66 iv 93 92 66)) Q) := by
      intro Q
      simp only [u126_0, u126_1, u126_4, u126_5, u126_6, u126_7, u126_10, u126_13, u126_15, u126_16, u126_17, u126_18, u126_19, u126_22, u126_23, u126_24, m_begins, m_isOwn V o, d1, tn_nI (show q < 2 ^ 31 by omega), zb_t, Option.toList_some, Option.toList_none, List.cons_append, List.nil_append, zRef_some, true_and, and_true, true_or, or_true, i10, i01, not_false_eq_true, if_true, z91.1, m_weightIn V o hq (show a < 10000 by omega)]
    by_cases g4 : mOf (cM cs q) a = 0
    · rw [if_pos g4]
      refine ⟨_, R0, F, fun Q hQ => ?_⟩
      rw [head, g4, if_neg (show ¬ ¬ nI 0 = 0 from fun z => z rfl)]
      simp only [u126_27, u126_29]
      exact hQ
    · rw [if_neg g4]
      have hi := hml.2.mp (by omega)
      have hpl := (mIn_iff.mp hi).1
      obtain ⟨iv1, r1, r2, r3⟩ := m_drops (sc := sc) (p := p) (v3 := .null) (v4 := .null) V (fun z hz => (o.2 z hz).1) hq hpl
      have o2 : vOk (setM cs q ((cM cs q).eraseIdx (mPl (cM cs q) a))) := setM_v o hq (setM_del o.1 hpl) (mDel_ok (o.2 q hq) hpl)
      obtain ⟨iv2, k1, k2, k3⟩ := m_acted (sc := sc) (p := p) (n := mOf (cM cs q) a) (v := .null) (W.w92 r2) r1 o2 (by have := hml.1; omega)
      refine ⟨iv2, k1, fun c hc => by rw [k2 c hc, r2 c (by omega), F c hc], fun Q hQ => ?_⟩
      rw [head, if_pos (nI_ne0 (by omega) (by have := hml.1; omega))]
      simp only [u126_30, u126_31, u126_32, u126_33, u126_34, u126_35, u126_38, z91.1, m_placeOf V o hq (show a < 10000 by omega), Option.toList_some, Option.toList_none, List.cons_append, List.nil_append, zRef_some, true_and, and_true, true_or, or_true, i10, i01]
      refine r3 _ ?_
      simp only [u126_41, u126_42, u126_43, Option.toList_some, Option.toList_none, List.cons_append, List.nil_append, zRef_some, true_and, and_true, true_or, or_true, i10, i01, z91.1]
      refine k3 _ ?_
      simp only [u126_46, Option.toList_some, Option.toList_none, List.cons_append, List.nil_append, zRef_some, true_and, and_true, true_or, or_true, i10, i01]
      exact hQ
  · rw [if_neg g1]
    refine ⟨_, R0, F, fun Q hQ => ?_⟩
    simp only [u126_0, u126_1, u126_4, u126_5, u126_6, u126_7, u126_10, u126_13, u126_15, m_begins, m_isOwn V o, decide_eq_false g1, zb_f, Option.toList_some, Option.toList_none, List.cons_append, List.nil_append, zRef_some, true_and, and_true, true_or, or_true, i10, i01, not_true_eq_false, if_false, z91.1]
    exact hQ
end ZM6
