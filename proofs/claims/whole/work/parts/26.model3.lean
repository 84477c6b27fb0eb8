/-! ===== FieldMixturesModel: what changes its state ===== -/
theorem setM_self {c : CS} {q : Nat} : setM c q (cM c q) = c := by
  obtain ⟨n, t, v, r, b, m⟩ := c
  unfold setM
  dsimp only [cN, cT, cV, cR, cB, cM]
  congr 5
  funext z
  split
  · next h => rw [h]
  · rfl
theorem setM_setM {c : CS} {q : Nat} {a b : List (Nat × Nat)} : setM (setM c q a) q b = setM c q b := by
  unfold setM
  dsimp only [cN, cT, cV, cR, cB, cM]
  congr 5
  funext z
  split
  · rfl
  · rfl
theorem setM_setS {c : CS} {q r : Nat} {bd : Nat → Nat} {a b : List (Nat × Nat)} : setM (setS c q r bd a) q b = setS c q r bd b := by
  unfold setM setS
  dsimp only [cN, cT, cV, cR, cB, cM]
  congr 5
  funext z
  split
  · rfl
  · rfl
theorem setM_q {c : CS} {q : Nat} {l : List (Nat × Nat)} : cM (setM c q l) q = l := by
  show (if q = q then l else cM c q) = l
  rw [if_pos rfl]
theorem setM_ne {c : CS} {q z : Nat} {l : List (Nat × Nat)} (h : z ≠ q) : cM (setM c q l) z = cM c z := by
  show (if z = q then l else cM c z) = cM c z
  rw [if_neg h]
theorem isV_setM {g g2 : Nat → Int32} {c : CS} {q : Nat} {l : List (Nat × Nat)} (h : isV g c) (hq : q < 2) (hl : ∀ z, z < 2 → (cM c z).length ≤ 12) (e0 : g2 (16 + 25 * q) = nI l.length) (e1 : ∀ k, k < l.length → g2 (16 + 25 * q + 1 + 2 * k) = nI (mA l k) ∧ g2 (16 + 25 * q + 2 + 2 * k) = nI (mW l k)) (e : ∀ x, x < 66 → (x < 16 + 25 * q ∨ 16 + 25 * q + 25 ≤ x) → g2 x = g x) : isV g2 (setM c q l) := by
  obtain ⟨h1, h2, h3, h4, h5, h6, h7⟩ := h
  refine ⟨by rw [e 0 (by omega) (by omega)]; exact h1, by rw [e 1 (by omega) (by omega)]; exact h2, fun f hf => by rw [e _ (by omega) (by omega)]; exact h3 f hf, fun z hz => by rw [e _ (by omega) (by omega)]; exact h4 z hz, fun z f hz hf => by rw [e _ (by omega) (by omega)]; exact h5 z f hz hf, fun z hz => ?_, fun z k hz hk => ?_⟩
  · by_cases en : z = q
    · subst en; rw [setM_q]; exact e0
    · rw [setM_ne en, e _ (by omega) (by omega)]; exact h6 z hz
  · by_cases en : z = q
    · subst en; rw [setM_q] at hk ⊢; exact e1 k hk
    · rw [setM_ne en] at hk ⊢
      have := hl z hz
      rw [e _ (by omega) (by omega), e _ (by omega) (by omega)]
      exact h7 z k hz hk
section ZM3
variable {sc : Nat × (Nat → Int32)} {Q : Option Value → zA → Prop} {h : zA} {p : Nat → Option Nat} {iv : Nat → Nat → Int32} {cs : CS} {hs : List CS} {t : List Nat} {x y z w lo hi : Int32} {q k i : Nat}
/-- the row while one goes: shifted up to a place -/
def dpF (iv : Nat → Nat → Int32) (a i n m : Nat) : Nat → Nat → Int32 := fun c g => if c = 92 then (if g = a then nI n else if a + (2 * i + 1) ≤ g ∧ g < a + m then iv 92 (g + 2) else iv 92 g) else iv c g
theorem dpF_s {a i n m : Nat} (h1 : 2 * i + 1 ≤ m) : w2 (dpF iv a i n m) 92 (a + m) (dpF iv a i n m 92 (a + m + 2)) = dpF iv a i n (m + 1) := by
  funext c g
  rw [w2_at]
  unfold dpF
  rw [if_pos rfl, if_neg (show ¬ a + m + 2 = a by omega), if_neg (show ¬ (a + (2 * i + 1) ≤ a + m + 2 ∧ a + m + 2 < a + m) by omega)]
  by_cases e : c = 92
  · rw [if_pos e, if_pos e]
    by_cases e2 : g = a + m
    · rw [if_pos ⟨e, e2⟩, if_neg (show ¬ g = a by omega), if_pos (show a + (2 * i + 1) ≤ g ∧ g < a + (m + 1) by omega), e2]
    · rw [if_neg (fun z => e2 z.2)]
      by_cases e3 : g = a
      · rw [if_pos e3, if_pos e3]
      · rw [if_neg e3, if_neg e3]
        by_cases e4 : a + (2 * i + 1) ≤ g ∧ g < a + m
        · rw [if_pos e4, if_pos (by omega)]
        · rw [if_neg e4, if_neg (by omega)]
  · rw [if_neg (fun z => e z.1), if_neg e, if_neg e]
theorem m_drops {v3 v4 : Value} (hv : isV (iv 92) cs) (hl : ∀ z, z < 2 → (cM cs z).length ≤ 12) (hq : q < 2) (hi : i < (cM cs q).length) : ∃ iv2, isV (iv2 92) (setM cs q ((cM cs q).eraseIdx i)) ∧ (∀ c, c ≠ 92 → iv2 c = iv c) ∧ ∀ (Q : Option Value → zA → Prop), Q none (zst p iv2) → zEv sc 107 0 [.ref 91, .int (nI q), .int (nI i), v3, v4] [] (zst p iv) Q := by
  have hlq := hl q hq
  obtain ⟨n, hn⟩ : ∃ n, (cM cs q).length = n + 1 := ⟨(cM cs q).length - 1, by omega⟩
  obtain ⟨e1, e2⟩ := mDel_at hi
  have h6 := hv.2.2.2.2.2.1 q hq
  refine ⟨dpF iv (16 + 25 * q) i n (2 * n + 1), isV_setM hv hq hl ?_ (fun k hk => ?_) (fun x _ hx => ?_), fun c hc => by funext g; unfold dpF; rw [if_neg hc], fun Q hQ => ?_⟩
  · unfold dpF
    rw [if_pos rfl, if_pos rfl, e1, hn]
    rfl
  · have hk : k < n := by rw [e1, hn, Nat.add_sub_cancel] at hk; exact hk
    have h7 := hv.2.2.2.2.2.2 q
    have val : ∀ g, g ≠ 16 + 25 * q → dpF iv (16 + 25 * q) i n (2 * n + 1) 92 g = if 16 + 25 * q + (2 * i + 1) ≤ g ∧ g < 16 + 25 * q + (2 * n + 1) then iv 92 (g + 2) else iv 92 g := fun g hg => by
      unfold dpF
      rw [if_pos rfl, if_neg hg]
    rw [(e2 k).1, (e2 k).2, val _ (by omega), val _ (by omega)]
    by_cases hki : k < i
    · rw [if_neg (show ¬ (16 + 25 * q + (2 * i + 1) ≤ 16 + 25 * q + 1 + 2 * k ∧ 16 + 25 * q + 1 + 2 * k < 16 + 25 * q + (2 * n + 1)) by omega), if_neg (show ¬ (16 + 25 * q + (2 * i + 1) ≤ 16 + 25 * q + 2 + 2 * k ∧ 16 + 25 * q + 2 + 2 * k < 16 + 25 * q + (2 * n + 1)) by omega), if_pos hki, if_pos hki]
      exact h7 k hq (by omega)
    · rw [if_pos (show 16 + 25 * q + (2 * i + 1) ≤ 16 + 25 * q + 1 + 2 * k ∧ 16 + 25 * q + 1 + 2 * k < 16 + 25 * q + (2 * n + 1) by omega), if_pos (show 16 + 25 * q + (2 * i + 1) ≤ 16 + 25 * q + 2 + 2 * k ∧ 16 + 25 * q + 2 + 2 * k < 16 + 25 * q + (2 * n + 1) by omega), if_neg hki, if_neg hki]
      have := h7 (k + 1) hq (by omega)
      rw [show 16 + 25 * q + 1 + 2 * k + 2 = 16 + 25 * q + 1 + 2 * (k + 1) by omega, show 16 + 25 * q + 2 + 2 * k + 2 = 16 + 25 * q + 2 + 2 * (k + 1) by omega]
      exact this
  · unfold dpF
    rw [if_pos rfl, if_neg (by omega), if_neg (by omega)]
  · have hd : ∀ m, dpF iv (16 + 25 * q) i n m 92 (16 + 25 * q) = nI n := fun m => by unfold dpF; rw [if_pos rfl, if_pos rfl]
    have loop : ∀ d m, 2 * n + 1 - m = d → m ≤ 2 * n + 1 → 2 * i + 1 ≤ m → zEv sc 107 22 [.ref 91, .int (nI q), .int (nI i), .int (nI (16 + 25 * q)), .int (nI m)] [] (zst p (dpF iv (16 + 25 * q) i n m)) Q := by
      intro d
      induction d with
      | zero =>
        intro m hd2 hm hm2
        have : m = 2 * n + 1 := by omega
        subst this
        rw [u107_22]
        simp only [u107_24, u107_25, u107_26, u107_29, u107_30, u107_31, u107_32, u107_33, zRef_some, true_and, z91.1, z91.2.1, z91r.1, z92l.1, okN (show 16 + 25 * q < 66 by omega), nI_clamp (show 16 + 25 * q < 2 ^ 31 by omega), hd, n2, pk_mul, nI_1]
        rw [u107_34, if_pos (Int32.le_refl _)]
        simp only [u107_63]
        exact hQ
      | succ d ih =>
        intro m hd2 hm hm2
        have ih1 := ih (m + 1) (by omega) (by omega) (by omega)
        rw [u107_22]
        simp only [u107_24, u107_25, u107_26, u107_29, u107_30, u107_31, u107_32, u107_33, zRef_some, true_and, z91.1, z91.2.1, z91r.1, z92l.1, okN (show 16 + 25 * q < 66 by omega), nI_clamp (show 16 + 25 * q < 2 ^ 31 by omega), hd, n2, pk_mul, nI_1]
        rw [u107_34, if_neg (by rw [nI_leI (by omega) (by omega)]; omega)]
        simp only [u107_37, u107_38, u107_41, u107_42, u107_44, u107_45, u107_46, u107_49, u107_50, u107_52, u107_53, u107_54, u107_55, u107_56, u107_57, u107_60, zRef_some, true_and, z91.1, z91.2.1, z91r.1, z92l.1, n2, nI_add, okN (show 16 + 25 * q + m < 66 by omega), okN (show 16 + 25 * q + m + 2 < 66 by omega), nI_clamp (show 16 + 25 * q + m < 2 ^ 31 by omega), nI_clamp (show 16 + 25 * q + m + 2 < 2 ^ 31 by omega), dpF_s hm2, nI_1]
        exact ih1
    have l0 := loop _ (2 * i + 1) rfl (by omega) (Nat.le_refl _)
    have e5 : w2 iv 92 (16 + 25 * q) (nI n) = dpF iv (16 + 25 * q) i n (2 * i + 1) := by
      funext c g
      rw [w2_at]
      unfold dpF
      by_cases e : c = 92
      · rw [if_pos e]
        by_cases e3 : g = 16 + 25 * q
        · rw [if_pos ⟨e, e3⟩, if_pos e3]
        · rw [if_neg (fun z => e3 z.2), if_neg e3, if_neg (by omega), e]
      · rw [if_neg (fun z => e z.1), if_neg e]
    rw [← e5] at l0
    rw [hn] at h6
    simp only [u107_0, u107_1, u107_4, u107_5, u107_6, u107_9, u107_10, u107_11, u107_12, u107_13, u107_14, u107_15, u107_16, u107_17, u107_18, u107_19, u107_20, Option.toList_some, Option.toList_none, List.cons_append, List.nil_append, zRef_some, true_and, and_true, true_or, or_true, i10, i01, m_at, z91.1, z91.2.1, z91r.1, z92l.1, okN (show 16 + 25 * q < 66 by omega), nI_clamp (show 16 + 25 * q < 2 ^ 31 by omega), h6, nI_pred, n2, pk_mul, nI_1]
    exact l0
theorem m_sorts {v2 : Value} (hv : isV (iv 92) cs) (ho : wOk cs) (hl : ∀ z, z < 2 → (cM cs z).length ≤ 12) (om : mOk (cM cs q)) (hq : q < 2) : ∃ iv2, isV (iv2 92) (setM cs q (drL (cN cs) (cB cs q) (cR cs q) (cM cs q))) ∧ (∀ c, c ≠ 92 → iv2 c = iv c) ∧ ∀ (Q : Option Value → zA → Prop), Q (some (.int (nI (drL (cN cs) (cB cs q) (cR cs q) (cM cs q)).length))) (zst p iv2) → zEv sc 109 0 [.ref 91, .int (nI q), v2] [] (zst p iv) Q := by
  have hlq := hl q hq
  obtain ⟨l, hll⟩ : ∃ l, l = cM cs q := ⟨_, rfl⟩
  have dlen : ∀ i, i ≤ l.length → (drI (cN cs) (cB cs q) (cR cs q) l i).length ≤ 12 := by
    intro i hi
    have : (drL (cN cs) (cB cs q) (cR cs q) (l.drop i)).length ≤ (l.drop i).length := List.length_filter_le _ _
    unfold drI
    rw [List.length_append, List.length_take]
    rw [List.length_drop] at this
    rw [hll] at *
    omega
  have loop := z_loopD (σ := Nat → Nat → Int32) (fun i iv2 Q => zEv sc 109 8 [.ref 91, .int (nI q), .int (nI i - 1)] [] (zst p iv2) Q) (fun i iv2 => i ≤ l.length ∧ isV (iv2 92) (setM cs q (drI (cN cs) (cB cs q) (cR cs q) l i)) ∧ ∀ c, c ≠ 92 → iv2 c = iv c) (by
    intro i iv1 ⟨h1, h2, h3⟩
    have hi : i < l.length := by omega
    obtain ⟨g1, g2⟩ := drI_len (n := cN cs) (b := cB cs q) (r := cR cs q) hi
    have hli := dlen (i + 1) h1
    have ha : ∀ Q, zEv sc 109 8 [.ref 91, .int (nI q), .int (nI (i + 1) - 1)] [] (zst p iv1) Q ↔ (if ¬ zb (isA cs q (nI (mA l i))) = 0 then zEv sc 109 32 [.ref 91, .int (nI q), .int (nI i)] [] (zst p iv1) Q else zEv sc 109 26 [.ref 91, .int (nI q), .int (nI i)] [] (zst p iv1) Q) := by
      intro Q
      have ho2 : wOk (setM cs q (drI (cN cs) (cB cs q) (cR cs q) l (i + 1))) := ho
      have k1 := fun Q => m_allocAt2 (sc := sc) (p := p) (Q := Q) h2 hq (by rw [setM_q]; exact g1) (by rw [setM_q]; exact hli)
      rw [setM_q, g2] at k1
      have k2 : ∀ x Q, zEv sc 96 0 [.ref 91, .int (nI q), .int x, .null, .null, .null, .null, .null] [] (zst p iv1) Q ↔ Q (some (.int (zb (isA cs q x)))) (zst p iv1) := fun x Q => m_isAlloc (cs := setM cs q (drI (cN cs) (cB cs q) (cR cs q) l (i + 1))) h2 ho2 hq
      rw [u109_8, nI_pred, u109_9, if_neg (nI_pos (by omega))]
      simp only [u109_12, u109_13, u109_14, u109_15, u109_16, u109_17, u109_20, u109_23, Option.toList_some, Option.toList_none, List.cons_append, List.nil_append, zRef_some, true_and, and_true, true_or, or_true, i10, i01, z91.1, k1, k2]
    have hx : mA l i < 10000 := by rw [hll] at hi ⊢; exact mA_lt om hi
    have eA : isA cs q (nI (mA l i)) = alw (cN cs) (cB cs q) (mA l i) (cR cs q) := alwI_n (by omega)
    rw [eA] at ha
    by_cases e : alw (cN cs) (cB cs q) (mA l i) (cR cs q) = true
    · refine ⟨iv1, ⟨by omega, by rw [← drI_ok hi e]; exact h2, h3⟩, fun Q hQ => (ha Q).mpr ?_⟩
      rw [e, if_pos (by decide), u109_32, u109_35, n_sub1]
      exact hQ
    · obtain ⟨iv2, q1, q2, q3⟩ := m_drops (sc := sc) (p := p) (v3 := .null) (v4 := .null) (i := i) h2 (fun z hz => by
        by_cases en : z = q
        · subst en; rw [setM_q]; exact hli
        · rw [setM_ne en]; exact hl z hz) hq (by rw [setM_q]; exact g1)
      rw [setM_q, setM_setM, drI_no hi e] at q1
      refine ⟨iv2, ⟨by omega, q1, fun c hc => by rw [q2 c hc]; exact h3 c hc⟩, fun Q hQ => (ha Q).mpr ?_⟩
      rw [Bool.not_eq_true] at e
      rw [e, if_neg (by decide)]
      simp only [u109_26, u109_27, u109_28, u109_29, z91.1]
      refine q3 _ ?_
      simp only [u109_32, u109_35, n_sub1, Option.toList_some, Option.toList_none, List.cons_append, List.nil_append, zRef_some, true_and, and_true, true_or, or_true, i10, i01]
      exact hQ)
  have e0 : drI (cN cs) (cB cs q) (cR cs q) l l.length = l := by
    unfold drI drL
    rw [List.take_length, List.drop_length]
    simp
  obtain ⟨iv2, ⟨-, h2, h3⟩, h4⟩ := loop l.length iv ⟨Nat.le_refl _, by rw [e0, hll, setM_self]; exact hv, fun c hc => rfl⟩
  have e1 : drI (cN cs) (cB cs q) (cR cs q) l 0 = drL (cN cs) (cB cs q) (cR cs q) l := by unfold drI; simp
  rw [e1, hll] at h2
  refine ⟨iv2, h2, h3, fun Q hQ => ?_⟩
  have k3 := fun Q => m_mixed (sc := sc) (p := p) (Q := Q) h2 hq
  rw [setM_q] at k3
  have h5 := h4 Q (by
    rw [u109_8, u109_9, if_pos (by decide)]
    simp only [u109_38, u109_39, u109_40, u109_43, Option.toList_some, Option.toList_none, List.cons_append, List.nil_append, zRef_some, true_and, and_true, true_or, or_true, i10, i01, z91.1, k3]
    exact hQ)
  rw [hll] at h5
  simp only [u109_0, u109_1, u109_2, u109_5, u109_6, u109_7, Option.toList_some, Option.toList_none, List.cons_append, List.nil_append, zRef_some, true_and, and_true, true_or, or_true, i10, i01, z91.1, m_mixed hv hq]
  exact h5
/-- the row while one comes: shifted down from a place -/
def lyF (iv : Nat → Nat → Int32) (a n m : Nat) : Nat → Nat → Int32 := fun c g => if c = 92 ∧ a + m + 2 < g ∧ g ≤ a + 2 * n + 2 then iv 92 (g - 2) else iv c g
theorem lyF_s {a n m : Nat} (hm : m < 2 * n) : w2 (lyF iv a n (m + 1)) 92 (a + (m + 1) + 2) (lyF iv a n (m + 1) 92 (a + (m + 1))) = lyF iv a n m := by
  funext c g
  rw [w2_at]
  unfold lyF
  rw [if_neg (show ¬ (92 = 92 ∧ a + (m + 1) + 2 < a + (m + 1) ∧ a + (m + 1) ≤ a + 2 * n + 2) by omega)]
  by_cases e : c = 92
  · by_cases e2 : g = a + (m + 1) + 2
    · rw [if_pos ⟨e, e2⟩, if_pos (by omega), e2]
      rfl
    · rw [if_neg (fun z => e2 z.2)]
      by_cases e4 : a + (m + 1) + 2 < g ∧ g ≤ a + 2 * n + 2
      · rw [if_pos ⟨e, e4⟩, if_pos (by omega)]
      · rw [if_neg (fun z => e4 z.2), if_neg (by omega)]
  · rw [if_neg (fun z => e z.1), if_neg (fun z => e z.1), if_neg (fun z => e z.1)]
theorem m_laysNo {y : Nat} {v4 v5 v6 v7 v3 : Value} (hv : isV (iv 92) cs) (o : vOk cs) (hq : q < 2) (hy : y < 10000) (hn : ¬ ((cM cs q).length < 12 ∨ mIn (cM cs q) y = true)) : zEv sc 108 0 [.ref 91, .int (nI q), .int (nI y), v3, v4, v5, v6, v7] [] (zst p iv) Q ↔ Q (some (.int eLR)) (zst p iv) := by
  have hl := (o.2 q hq).1
  have h0 : mOf (cM cs q) y = 0 := by
    unfold mOf
    rw [if_neg (fun z => hn (Or.inr z))]
  have h12 : (cM cs q).length = 12 := by omega
  simp only [u108_0, u108_1, u108_2, u108_3, u108_6, u108_8, Option.toList_some, Option.toList_none, List.cons_append, List.nil_append, zRef_some, true_and, and_true, true_or, or_true, i10, i01, z91.1, m_weightIn hv o hq hy, h0]
  rw [u108_10, if_neg (fun z => z (show nI 0 = 0 from rfl))]
  simp only [u108_13, u108_14, u108_15, u108_18, Option.toList_some, Option.toList_none, List.cons_append, List.nil_append, zRef_some, true_and, and_true, true_or, or_true, i10, i01, z91.1, m_mixed hv hq, h12]
  rw [u108_20, if_neg (fun z => z (show nI 12 = 12 from rfl))]
  simp only [u108_23, u108_25]
  exact Iff.rfl
theorem m_lays {y w : Nat} {v4 v5 v6 v7 : Value} (hv : isV (iv 92) cs) (o : vOk cs) (hq : q < 2) (hy : y < 10000) (hr : (cM cs q).length < 12 ∨ mIn (cM cs q) y = true) : ∃ iv2, isV (iv2 92) (setM cs q (mSet (cM cs q) y w)) ∧ (∀ c, c ≠ 92 → iv2 c = iv c) ∧ ∀ (Q : Option Value → zA → Prop), Q (some (.int (nI (mOf (cM cs q) y)))) (zst p iv2) → zEv sc 108 0 [.ref 91, .int (nI q), .int (nI y), .int (nI w), v4, v5, v6, v7] [] (zst p iv) Q := by
  have hl := (o.2 q hq).1
  have hp := mPl_le (cM cs q) y
  have hml := mOf_ok (x := y) (o.2 q hq)
  have h6 := hv.2.2.2.2.2.1 q hq
  have h7 := hv.2.2.2.2.2.2 q
  have hlz : ∀ z, z < 2 → (cM cs z).length ≤ 12 := fun z hz => (o.2 z hz).1
  -- the last two stores
  have fin : ∀ (iv1 : Nat → Nat → Int32) (i : Nat) (a b : Value), i < 12 → ∀ (Q : Option Value → zA → Prop), Q (some (.int (nI (mOf (cM cs q) y)))) (zst p (w2 (w2 iv1 92 (16 + 25 * q + 1 + 2 * i) (nI y)) 92 (16 + 25 * q + 2 + 2 * i) (nI w))) → zEv sc 108 104 [.ref 91, .int (nI q), .int (nI y), .int (nI w), .int (nI (mOf (cM cs q) y)), .int (nI (16 + 25 * q)), .int (nI i), b] [] (zst p iv1) Q := by
    intro iv1 i a b hi Q hQ
    simp only [u108_104, u108_105, u108_108, u108_110, u108_111, u108_112, u108_113, u108_115, u108_116, u108_117, u108_118, u108_119, u108_120, u108_123, u108_125, u108_126, u108_127, u108_128, u108_130, u108_131, u108_132, u108_133, u108_134, u108_136, zRef_some, true_and, z91.1, z91.2.1, z91r.1, z92l.1, n2, nI_1, pk_mul, nI_add, okN (show 16 + 25 * q + 1 + 2 * i < 66 by omega), nI_clamp (show 16 + 25 * q + 1 + 2 * i < 2 ^ 31 by omega), okN (show 16 + 25 * q + 2 + 2 * i < 66 by omega), nI_clamp (show 16 + 25 * q + 2 + 2 * i < 2 ^ 31 by omega)]
    exact hQ
  have head : ∀ Q, zEv sc 108 26 [.ref 91, .int (nI q), .int (nI y), .int (nI w), .int (nI (mOf (cM cs q) y)), v5, v6, v7] [] (zst p iv) Q → zEv sc 108 0 [.ref 91, .int (nI q), .int (nI y), .int (nI w), v4, v5, v6, v7] [] (zst p iv) Q := by
    intro Q hQ
    simp only [u108_0, u108_1, u108_2, u108_3, u108_6, u108_8, Option.toList_some, Option.toList_none, List.cons_append, List.nil_append, zRef_some, true_and, and_true, true_or, or_true, i10, i01, z91.1, m_weightIn hv o hq hy]
    rw [u108_10]
    by_cases h0 : mOf (cM cs q) y = 0
    · rw [h0] at hQ ⊢
      rw [if_neg (fun z => z (show nI 0 = 0 from rfl))]
      simp only [u108_13, u108_14, u108_15, u108_18, Option.toList_some, Option.toList_none, List.cons_append, List.nil_append, zRef_some, true_and, and_true, true_or, or_true, i10, i01, z91.1, m_mixed hv hq]
      have h12 : (cM cs q).length < 12 := hr.resolve_right (fun z => by have := hml.2.mpr z; omega)
      rw [u108_20, if_pos (by rw [show (12 : Int32) = nI 12 from rfl, nI_eq (by omega) (by omega)]; omega)]
      exact hQ
    · rw [if_pos (nI_ne0 (by omega) (by omega))]
      exact hQ
  have head2 : ∀ Q, (if ¬ nI (mOf (cM cs q) y) = 0 then zEv sc 108 104 [.ref 91, .int (nI q), .int (nI y), .int (nI w), .int (nI (mOf (cM cs q) y)), .int (nI (16 + 25 * q)), .int (nI (mPl (cM cs q) y)), v7] [] (zst p iv) Q else zEv sc 108 45 [.ref 91, .int (nI q), .int (nI y), .int (nI w), .int (nI (mOf (cM cs q) y)), .int (nI (16 + 25 * q)), .int (nI (mPl (cM cs q) y)), v7] [] (zst p iv) Q) → zEv sc 108 0 [.ref 91, .int (nI q), .int (nI y), .int (nI w), v4, v5, v6, v7] [] (zst p iv) Q := by
    intro Q hQ
    refine head Q ?_
    simp only [u108_26, u108_27, u108_30, u108_32, u108_33, u108_34, u108_35, u108_38, u108_40, u108_42, Option.toList_some, Option.toList_none, List.cons_append, List.nil_append, zRef_some, true_and, and_true, true_or, or_true, i10, i01, z91.1, m_at, m_placeOf hv o hq hy]
    exact hQ
  by_cases hin : mIn (cM cs q) y = true
  · have hw := hml.2.mpr hin
    obtain ⟨hk, hA⟩ := mIn_iff.mp hin
    obtain ⟨e1, e2⟩ := mSet_in (w := w) hin
    refine ⟨w2 (w2 iv 92 (16 + 25 * q + 1 + 2 * mPl (cM cs q) y) (nI y)) 92 (16 + 25 * q + 2 + 2 * mPl (cM cs q) y) (nI w), isV_setM hv hq hlz ?_ (fun k hk2 => ?_) (fun x _ hx => ?_), fun c hc => by rw [w2_c hc, w2_c hc], fun Q hQ => head2 Q ?_⟩
    · rw [w2_g (by omega), w2_g (by omega), e1]; exact h6
    · rw [e1] at hk2
      rw [(e2 k hk2).1, (e2 k hk2).2, w2_g (by omega)]
      have hk3 := h7 k hq hk2
      by_cases e : k = mPl (cM cs q) y
      · rw [if_pos e, e, w2_eq, w2_eq, hA]
        exact ⟨rfl, rfl⟩
      · rw [if_neg e, w2_g (by omega), w2_g (by omega), w2_g (by omega)]
        exact hk3
    · rw [w2_g (by omega), w2_g (by omega)]
    · rw [if_pos (nI_ne0 hw (by omega))]
      exact fin iv _ .null _ (by omega) Q hQ
  · have hw : mOf (cM cs q) y = 0 := by
      unfold mOf
      rw [if_neg hin]
    have h12 : (cM cs q).length < 12 := hr.resolve_right hin
    obtain ⟨e1, e2⟩ := mSet_new (w := w) hin
    obtain ⟨n, hn⟩ : ∃ n, n = (cM cs q).length := ⟨_, rfl⟩
    obtain ⟨i, hi⟩ : ∃ i, i = mPl (cM cs q) y := ⟨_, rfl⟩
    rw [← hn] at h6 h7 h12 e1 hp
    rw [← hi] at hp e2 head2
    obtain ⟨iv1, hiv1⟩ : ∃ iv1, iv1 = w2 (lyF iv (16 + 25 * q) n (2 * i)) 92 (16 + 25 * q) (nI (n + 1)) := ⟨_, rfl⟩
    have a1 : iv1 92 (16 + 25 * q) = nI (n + 1) := by rw [hiv1, w2_eq]
    have a2 : ∀ g, g ≠ 16 + 25 * q → iv1 92 g = if 16 + 25 * q + 2 * i + 2 < g ∧ g ≤ 16 + 25 * q + 2 * n + 2 then iv 92 (g - 2) else iv 92 g := by
      intro g hg
      rw [hiv1, w2_g hg]
      unfold lyF
      by_cases e : 16 + 25 * q + 2 * i + 2 < g ∧ g ≤ 16 + 25 * q + 2 * n + 2
      · rw [if_pos ⟨rfl, e⟩, if_pos e]
      · rw [if_neg (fun z => e z.2), if_neg e]
    have a3 : ∀ c, c ≠ 92 → iv1 c = iv c := fun c hc => by
      rw [hiv1, w2_c hc]
      funext g
      unfold lyF
      rw [if_neg (fun z => hc z.1)]
    refine ⟨w2 (w2 iv1 92 (16 + 25 * q + 1 + 2 * i) (nI y)) 92 (16 + 25 * q + 2 + 2 * i) (nI w), isV_setM hv hq hlz ?_ (fun k hk2 => ?_) (fun x _ hx => ?_), fun c hc => by rw [w2_c hc, w2_c hc, a3 c hc], fun Q hQ => head2 Q ?_⟩
    · rw [w2_g (by omega), w2_g (by omega), e1, a1]
    · rw [e1] at hk2
      rw [(e2 k).1, (e2 k).2]
      by_cases e : k = i
      · subst e
        rw [if_neg (by omega), if_pos rfl, if_neg (by omega), if_pos rfl, w2_eq, w2_g (by omega), w2_eq]
        exact ⟨rfl, rfl⟩
      · rw [w2_g (by omega), w2_g (by omega), w2_g (by omega), w2_g (by omega), a2 _ (by omega), a2 _ (by omega)]
        by_cases hki : k < i
        · rw [if_pos hki, if_pos hki, if_neg (by omega), if_neg (by omega)]
          exact h7 k hq (by omega)
        · rw [if_neg hki, if_neg e, if_neg hki, if_neg e, if_pos (by omega), if_pos (by omega)]
          have := h7 (k - 1) hq (by omega)
          rw [show 16 + 25 * q + 1 + 2 * k - 2 = 16 + 25 * q + 1 + 2 * (k - 1) by omega, show 16 + 25 * q + 2 + 2 * k - 2 = 16 + 25 * q + 2 + 2 * (k - 1) by omega]
          exact this
    · rw [w2_g (by omega), w2_g (by omega), a2 x (by omega), if_neg (by omega)]
    · rw [hw] at hQ ⊢
      rw [if_neg (fun z => z (show nI 0 = 0 from rfl))]
      have f2 : ∀ (b : Value), zEv sc 108 93 [.ref 91, .int (nI q), .int (nI y), .int (nI w), .int (nI 0), .int (nI (16 + 25 * q)), .int (nI i), b] [] (zst p (lyF iv (16 + 25 * q) n (2 * i))) Q := by
        intro b
        have h8 : lyF iv (16 + 25 * q) n (2 * i) 92 (16 + 25 * q) = nI n := by
          unfold lyF
          rw [if_neg (by omega)]
          exact h6
        have hf := fin iv1 i .null b (by omega) Q
        rw [hw, hiv1] at hf
        rw [hiv1] at hQ
        simp only [u108_93, u108_94, u108_97, u108_99, u108_100, u108_101, u108_102, u108_103, zRef_some, true_and, z91.1, z91.2.1, z91r.1, z92l.1, okN (show 16 + 25 * q < 66 by omega), nI_clamp (show 16 + 25 * q < 2 ^ 31 by omega), h8, nI_1]
        exact hf hQ
      have loop : ∀ d m, m - 2 * i = d → 2 * i ≤ m → m ≤ 2 * n → zEv sc 108 56 [.ref 91, .int (nI q), .int (nI y), .int (nI w), .int (nI 0), .int (nI (16 + 25 * q)), .int (nI i), .int (nI m)] [] (zst p (lyF iv (16 + 25 * q) n m)) Q := by
        intro d
        induction d with
        | zero =>
          intro m hd hm hm2
          have : m = 2 * i := by omega
          subst this
          rw [u108_56]
          simp only [u108_58, u108_59, u108_61, n2, pk_mul]
          rw [u108_62, if_pos (Int32.le_refl _)]
          exact f2 _
        | succ d ih =>
          intro m hd hm hm2
          obtain ⟨m2, rfl⟩ : ∃ m2, m = m2 + 1 := ⟨m - 1, by omega⟩
          have ih1 := ih m2 (by omega) (by omega) (by omega)
          rw [u108_56]
          simp only [u108_58, u108_59, u108_61, n2, pk_mul]
          rw [u108_62, if_neg (by rw [nI_leI (by omega) (by omega)]; omega)]
          simp only [u108_65, u108_66, u108_69, u108_71, u108_73, u108_74, u108_75, u108_76, u108_77, u108_80, u108_82, u108_84, u108_85, u108_86, u108_87, u108_90, zRef_some, true_and, z91.1, z91.2.1, z91r.1, z92l.1, n2, nI_add, okN (show 16 + 25 * q + (m2 + 1) < 66 by omega), okN (show 16 + 25 * q + (m2 + 1) + 2 < 66 by omega), nI_clamp (show 16 + 25 * q + (m2 + 1) < 2 ^ 31 by omega), nI_clamp (show 16 + 25 * q + (m2 + 1) + 2 < 2 ^ 31 by omega), lyF_s (show m2 < 2 * n by omega), pk_m1]
          exact ih1
      have l0 := loop _ (2 * n) rfl (by omega) (Nat.le_refl _)
      have e5 : lyF iv (16 + 25 * q) n (2 * n) = iv := by
        funext c g
        unfold lyF
        rw [if_neg (by omega)]
      rw [e5] at l0
      simp only [u108_45, u108_46, u108_47, u108_50, u108_52, u108_53, u108_54, zRef_some, true_and, z91.1, z91.2.1, z91r.1, z92l.1, okN (show 16 + 25 * q < 66 by omega), nI_clamp (show 16 + 25 * q < 2 ^ 31 by omega), h6, n2, pk_mul]
      exact l0
end ZM3
