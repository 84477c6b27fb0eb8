/-! ===== FieldMixtures$Mixture ===== -/
theorem nI_nle' {n : Nat} (h : n < 12) : ¬ nI 12 ≤ nI n := nI_ge h (by omega)
section ZMIX
variable {sc : Nat × (Nat → Int32)} {Q : Option Value → zA → Prop} {p : Nat → Option Nat} {iv : Nat → Nat → Int32} {m x : Nat} {l : List (Nat × Nat)}
theorem c_placeOf (hm : zMx m) (hl : isMix iv m l) (hx : x < 10000) : zEv sc 28 0 [.ref m, .int (nI x), .null] [] (zst p iv) Q ↔ Q (some (.int (nI (mPl l x)))) (zst p iv) := by
  have hlen := hl.1.1
  have loop : ∀ d k, l.length - k = d → k ≤ l.length → (∀ j, j < k → mA l j < x) → (zEv sc 28 2 [.ref m, .int (nI x), .int (nI k)] [] (zst p iv) Q ↔ Q (some (.int (nI (mPl l x)))) (zst p iv)) := by
    intro d
    induction d with
    | zero =>
      intro k hd hk hj
      have hk2 : k = l.length := by omega
      subst hk2
      rw [mPl_of (Nat.le_refl _) hj (fun z => absurd z (Nat.lt_irrefl _))]
      simp only [u28_0, u28_1, u28_2, u28_3, u28_4, u28_7, u28_10, u28_11, u28_14, u28_15, u28_16, u28_17, u28_20, u28_23, u28_26, u28_27, hm.1, hl.2.1, Int32.le_refl, if_true]
    | succ d ih =>
      intro k hd hk hj
      have hk2 : k < l.length := by omega
      have h1 : ¬ nI l.length ≤ nI k := nI_ge hk2 (by omega)
      have h2 : vp_in (nI k) 12 := vp_in_nI (by omega) (by omega)
      have h3 : (nI k).toNatClampNeg = k := nI_clamp (by omega)
      have hA := mA_lt hl.1 hk2
      rw [u28_2]
      simp only [u28_3, u28_4, u28_7, u28_10, u28_11, u28_14, u28_15, u28_16, u28_17, u28_20, u28_23, u28_26, u28_27, hm.1, hm.2.1, hm.2.2.2.1, hm.2.2.2.2.2.1, hl.2.1, h1, h2, h3, (hl.2.2 k hk2).1, zRef_some, true_and, if_false, nI_leI (show x < 2 ^ 31 by omega) (show mA l k < 2 ^ 31 by omega), nI_1]
      by_cases h4 : x ≤ mA l k
      · rw [if_pos h4, mPl_of hk hj (fun _ => by omega)]
      · rw [if_neg h4]
        exact ih (k + 1) (by omega) (by omega) (fun j hj2 => by
          by_cases e : j = k
          · subst e; omega
          · exact hj j (by omega))
  simp only [u28_0, u28_1]
  rw [← nI_0]
  exact loop _ 0 rfl (Nat.zero_le _) (fun j hj => absurd hj (Nat.not_lt_zero _))
theorem c_standsAt {k : Nat} (hm : zMx m) (hl : isMix iv m l) (hk : k ≤ 12) (hx : x < 10000) : zEv sc 29 0 [.ref m, .int (nI k), .int (nI x)] [] (zst p iv) Q ↔ Q (some (.int (zb (decide (k < l.length ∧ mA l k = x))))) (zst p iv) := by
  have hlen := hl.1.1
  simp only [u29_0, u29_1, u29_2, u29_5, u29_8, u29_9, u29_12, u29_13, u29_14, u29_15, u29_18, u29_19, u29_23, u29_22, hm.1, hm.2.1, hm.2.2.2.1, hm.2.2.2.2.2.1, hl.2.1, zRef_some, true_and, nI_leI (show l.length < 2 ^ 31 by omega) (show k < 2 ^ 31 by omega)]
  by_cases h1 : k < l.length
  · have hA := mA_lt hl.1 h1
    rw [if_neg (by omega), nI_clamp (by omega), (hl.2.2 k h1).1]
    simp only [vp_in_nI (show k < 12 by omega) (by omega), true_and, nI_eq (show mA l k < 2 ^ 31 by omega) (show x < 2 ^ 31 by omega)]
    by_cases h2 : mA l k = x
    · rw [if_neg (fun z => z h2), show decide (k < l.length ∧ mA l k = x) = true from decide_eq_true ⟨h1, h2⟩]
      simp [zb]
    · rw [if_pos h2, show decide (k < l.length ∧ mA l k = x) = false from decide_eq_false (fun z => h2 z.2)]
      simp [zb]
  · rw [if_pos (by omega), show decide (k < l.length ∧ mA l k = x) = false from decide_eq_false (fun z => h1 z.1)]
    simp [zb]
theorem c_weightOf (hm : zMx m) (hl : isMix iv m l) (hx : x < 10000) : zEv sc 30 0 [.ref m, .int (nI x), .null] [] (zst p iv) Q ↔ Q (some (.int (nI (mOf l x)))) (zst p iv) := by
  have hlen := hl.1.1
  have hpl := mPl_le l x
  simp only [u30_0, u30_1, u30_2, u30_5, u30_6, u30_7, u30_8, u30_9, u30_12, u30_15, u30_16, u30_19, u30_20, u30_21, u30_25, u30_24, hm.1, hm.2.2.1, hm.2.2.2.2.1, hm.2.2.2.2.2.2, c_placeOf hm hl hx, c_standsAt hm hl (show mPl l x ≤ 12 by omega) hx, Option.toList_some, Option.toList_none, List.cons_append, List.nil_append, zRef_some, true_and, and_true, true_or, or_true, i10, i01, zb_0]
  unfold mOf mIn
  by_cases h1 : mPl l x < l.length ∧ mA l (mPl l x) = x
  · rw [if_neg (by rw [decide_eq_true h1]; decide), if_pos (decide_eq_true h1), nI_clamp (by omega), (hl.2.2 _ h1.1).2]
    simp only [vp_in_nI (show mPl l x < 12 by omega) (by omega), true_and]
  · rw [if_pos (decide_eq_false h1), if_neg (by rw [decide_eq_false h1]; decide)]
    rfl
theorem c_hasRoomFor (hm : zMx m) (hl : isMix iv m l) (hx : x < 10000) : zEv sc 31 0 [.ref m, .int (nI x)] [] (zst p iv) Q ↔ Q (some (.int (zb (decide (l.length < 12 ∨ mIn l x = true))))) (zst p iv) := by
  have hlen := hl.1.1
  have ho := mOf_ok (x := x) hl.1
  simp only [u31_0, u31_1, u31_4, u31_6, u31_9, u31_10, u31_11, u31_14, u31_21, u31_22, u31_17, u31_18, hm.1, hl.2.1, c_weightOf hm hl hx, Option.toList_some, Option.toList_none, List.cons_append, List.nil_append, zRef_some, true_and, and_true, true_or, or_true, i10, i01]
  rw [← show nI 12 = (12 : Int32) from rfl, ← show nI 0 = (0 : Int32) from rfl]
  simp only [nI_ltI (show l.length < 2 ^ 31 by omega) (show 12 < 2 ^ 31 by omega), nI_leI (show mOf l x < 2 ^ 31 by omega) (show 0 < 2 ^ 31 by omega)]
  by_cases h1 : l.length < 12
  · rw [if_pos h1, show decide (l.length < 12 ∨ mIn l x = true) = true from decide_eq_true (Or.inl h1)]
    simp [zb]
  · rw [if_neg h1]
    by_cases h2 : mIn l x = true
    · have := ho.2.mpr h2
      rw [if_neg (by omega), show decide (l.length < 12 ∨ mIn l x = true) = true from decide_eq_true (Or.inr h2)]
      simp [zb]
    · have : ¬ 0 < mOf l x := fun z => h2 (ho.2.mp z)
      rw [if_pos (by omega), show decide (l.length < 12 ∨ mIn l x = true) = false from decide_eq_false (fun z => z.elim h1 h2)]
      simp [zb, nI_0]
/-- places k < g ≤ n of both rows hold what stood one place before -/
def gUp (iv : Nat → Nat → Int32) (m n k : Nat) : Nat → Nat → Int32 := fun c g => if (c = m + 1 ∨ c = m + 2) ∧ k < g ∧ g ≤ n then iv c (g - 1) else iv c g
theorem c_openGap {k : Nat} (hm : zMx m) (hn : iv m 0 = nI l.length) (h12 : l.length < 12) (hk : k ≤ l.length) : zEv sc 32 0 [.ref m, .int (nI k), .null] [] (zst p iv) Q ↔ Q none (zst p (w2 (gUp iv m l.length k) m 0 (nI (l.length + 1)))) := by
  obtain ⟨o1, o2, o3, o4, o5, o6, o7⟩ := hm
  have loop : ∀ d i, i - k = d → k ≤ i → i ≤ l.length → (zEv sc 32 5 [.ref m, .int (nI k), .int (nI i)] [] (zst p (gUp iv m l.length i)) Q ↔ Q none (zst p (w2 (gUp iv m l.length k) m 0 (nI (l.length + 1))))) := by
    intro d
    induction d with
    | zero =>
      intro i hd h1 h2
      have : i = k := by omega
      subst this
      have e1 : gUp iv m l.length i m 0 = nI l.length := by
        unfold gUp
        rw [if_neg (by omega), hn]
      simp only [u32_0, u32_1, u32_4, u32_5, u32_6, u32_7, u32_10, u32_11, u32_14, u32_15, u32_16, u32_19, u32_20, u32_21, u32_22, u32_23, u32_24, u32_25, u32_28, u32_29, u32_30, u32_33, u32_34, u32_35, u32_36, u32_37, u32_38, u32_41, u32_44, u32_45, u32_46, u32_49, u32_50, u32_51, u32_54, o1, Int32.le_refl, if_true, e1, nI_1]
    | succ d ih =>
      intro i hd h1 h2
      obtain ⟨j, rfl⟩ : ∃ j, i = j + 1 := ⟨i - 1, by omega⟩
      rw [u32_5]
      simp only [u32_6, u32_7, u32_10, u32_11, u32_14, u32_15, u32_16, u32_19, u32_20, u32_21, u32_22, u32_23, u32_24, u32_25, u32_28, u32_29, u32_30, u32_33, u32_34, u32_35, u32_36, u32_37, u32_38, u32_41, o1, o2, o3, o4, o5, o6, o7, zRef_some, nI_leI (show j + 1 < 2 ^ 31 by omega) (show k < 2 ^ 31 by omega), nI_pred, pk_m1, nI_clamp (show j + 1 < 2 ^ 31 by omega), nI_clamp (show j < 2 ^ 31 by omega), vp_in_nI (show j + 1 < 12 by omega) (by omega), vp_in_nI (show j < 12 by omega) (by omega), true_and]
      rw [if_neg (by omega)]
      have e : w2 (w2 (gUp iv m l.length (j + 1)) (m + 1) (j + 1) (gUp iv m l.length (j + 1) (m + 1) j)) (m + 2) (j + 1) (w2 (gUp iv m l.length (j + 1)) (m + 1) (j + 1) (gUp iv m l.length (j + 1) (m + 1) j) (m + 2) j) = gUp iv m l.length j := by
        funext c g
        simp only [w2_at, gUp]
        repeat' split
        all_goals first | rfl | (exfalso; omega) | (congr 2 <;> omega) | (congr 1 <;> omega)
      rw [e]
      exact ih j (by omega) (by omega) (by omega)
  have e0 : gUp iv m l.length l.length = iv := by
    funext c g
    unfold gUp
    rw [if_neg (by omega)]
  have l0 := loop _ l.length rfl hk (Nat.le_refl _)
  rw [e0] at l0
  simp only [u32_0, u32_1, u32_4, o1, hn]
  exact l0
theorem c_setWeight {w : Nat} (hm : zMx m) (hl : isMix iv m l) (hx : x < 10000) (hr : l.length < 12 ∨ mIn l x = true) (h1 : 1 ≤ w) (h2 : w ≤ 99) : ∃ iv2, isMix iv2 m (mSet l x w) ∧ (∀ c, c < m ∨ m + 3 ≤ c → iv2 c = iv c) ∧ ∀ (Q : Option Value → zA → Prop) (v : Value), zEv sc 33 0 [.ref m, .int (nI x), .int (nI w), v] [] (zst p iv) Q ↔ Q none (zst p iv2) := by
  have hlen := hl.1.1
  have hpl := mPl_le l x
  have hok := mSet_ok hl.1 hr hx h1 h2
  obtain ⟨o1, o2, o3, o4, o5, o6, o7⟩ := id hm
  by_cases hi : mIn l x = true
  · have hi2 := mIn_iff.mp hi
    refine ⟨w2 iv (m + 2) (mPl l x) (nI w), ?_, fun c hc => w2_c (by omega), fun Q v => ?_⟩
    · obtain ⟨e1, e2⟩ := mSet_in (w := w) hi
      refine ⟨hok, ?_, fun k hk => ?_⟩
      · rw [w2_c (by omega), e1]; exact hl.2.1
      · rw [e1] at hk
        rw [w2_c (by omega), (e2 k hk).1, (e2 k hk).2, w2_at]
        refine ⟨(hl.2.2 k hk).1, ?_⟩
        by_cases e : k = mPl l x
        · rw [if_pos ⟨rfl, e⟩, if_pos e]
        · rw [if_neg (fun z => e z.2), if_neg e]; exact (hl.2.2 k hk).2
    · simp only [u33_0, u33_1, u33_2, u33_5, u33_6, u33_7, u33_8, u33_9, u33_12, u33_15, u33_16, u33_19, u33_20, u33_21, u33_22, u33_53, o1, o3, o5, o7, c_placeOf hm hl hx, c_standsAt hm hl (show mPl l x ≤ 12 by omega) hx, Option.toList_some, Option.toList_none, List.cons_append, List.nil_append, zRef_some, true_and, and_true, true_or, or_true, i10, i01, zb_0, decide_eq_true hi2, zb_t, Bool.true_eq_false, if_false, nI_clamp (show mPl l x < 2 ^ 31 by omega), vp_in_nI (show mPl l x < 12 by omega) (by omega)]
  · have hr := hr.resolve_right hi
    have hi2 : ¬ (mPl l x < l.length ∧ mA l (mPl l x) = x) := fun z => hi (mIn_iff.mpr z)
    refine ⟨w2 (w2 (w2 (gUp iv m l.length (mPl l x)) m 0 (nI (l.length + 1))) (m + 1) (mPl l x) (nI x)) (m + 2) (mPl l x) (nI w), ?_, fun c hc => ?_, fun Q v => ?_⟩
    · obtain ⟨e1, e2⟩ := mSet_new (w := w) hi
      refine ⟨hok, ?_, fun k hk => ?_⟩
      · rw [w2_c (by omega), w2_c (by omega), w2_eq, e1]
      · rw [e1] at hk
        rw [(e2 k).1, (e2 k).2]
        constructor
        · rw [w2_c (by omega), w2_at]
          by_cases c1 : k = mPl l x
          · rw [if_pos ⟨rfl, c1⟩, if_neg (by omega), if_pos c1]
          · rw [if_neg (fun z => c1 z.2), w2_c (by omega)]
            unfold gUp
            by_cases c2 : k < mPl l x
            · rw [if_neg (by omega), if_pos c2]; exact (hl.2.2 k (by omega)).1
            · rw [if_pos (by omega), if_neg c2, if_neg c1]; exact (hl.2.2 (k - 1) (by omega)).1
        · rw [w2_at]
          by_cases c1 : k = mPl l x
          · rw [if_pos ⟨rfl, c1⟩, if_neg (by omega), if_pos c1]
          · rw [if_neg (fun z => c1 z.2), w2_c (by omega), w2_c (by omega)]
            unfold gUp
            by_cases c2 : k < mPl l x
            · rw [if_neg (by omega), if_pos c2]; exact (hl.2.2 k (by omega)).2
            · rw [if_pos (by omega), if_neg c2, if_neg c1]; exact (hl.2.2 (k - 1) (by omega)).2
    · rw [w2_c (by omega), w2_c (by omega), w2_c (by omega)]
      funext g
      unfold gUp
      rw [if_neg (by omega)]
    · simp only [u33_0, u33_1, u33_2, u33_5, u33_6, u33_7, u33_8, u33_9, u33_12, u33_15, u33_16, u33_19, u33_20, u33_21, u33_22, u33_53, u33_25, u33_26, u33_29, u33_31, u33_34, u33_35, u33_36, u33_39, u33_40, u33_43, u33_44, u33_45, u33_46, u33_47, u33_50, u33_51, u33_52, o1, o2, o3, o4, o5, o6, o7, c_placeOf hm hl hx, c_standsAt hm hl (show mPl l x ≤ 12 by omega) hx, c_openGap hm hl.2.1 hr hpl, Option.toList_some, Option.toList_none, List.cons_append, List.nil_append, zRef_some, true_and, and_true, true_or, or_true, i10, i01, zb_0, decide_eq_false hi2, zb_f, if_true, hl.2.1, nI_clamp (show mPl l x < 2 ^ 31 by omega), vp_in_nI (show mPl l x < 12 by omega) (by omega)]
      rw [← show nI 12 = (12 : Int32) from rfl, if_neg (nI_nle' hr)]
/-- places k ≤ g of both rows up to n hold what stood one place behind -/
def gDn (iv : Nat → Nat → Int32) (m i k : Nat) : Nat → Nat → Int32 := fun c g => if (c = m + 1 ∨ c = m + 2) ∧ i ≤ g ∧ g < k then iv c (g + 1) else iv c g
theorem c_remove (hm : zMx m) (hl : isMix iv m l) (hx : x < 10000) (hi : mIn l x = true) : ∃ iv2, isMix iv2 m (l.eraseIdx (mPl l x)) ∧ (∀ c, c < m ∨ m + 3 ≤ c → iv2 c = iv c) ∧ ∀ (Q : Option Value → zA → Prop) (v v9 : Value), zEv sc 34 0 [.ref m, .int (nI x), v, v9] [] (zst p iv) Q ↔ Q none (zst p iv2) := by
  have hlen := hl.1.1
  have hi2 := mIn_iff.mp hi
  obtain ⟨o1, o2, o3, o4, o5, o6, o7⟩ := id hm
  have loop : ∀ (Q : Option Value → zA → Prop) d i, l.length - 1 - i = d → mPl l x ≤ i → i ≤ l.length - 1 → (zEv sc 34 20 [.ref m, .int (nI x), .int (nI (mPl l x)), .int (nI (i + 1))] [] (zst p (gDn iv m (mPl l x) i)) Q ↔ Q none (zst p (w2 (gDn iv m (mPl l x) (l.length - 1)) m 0 (nI (l.length - 1))))) := by
    intro Q d
    induction d with
    | zero =>
      intro i hd h1 h2
      have : i = l.length - 1 := by omega
      subst this
      have e1 : gDn iv m (mPl l x) (l.length - 1) m 0 = nI l.length := by
        unfold gDn
        rw [if_neg (by omega), hl.2.1]
      have e2 : nI l.length - 1 = nI (l.length - 1) := by
        rw [show l.length = (l.length - 1) + 1 by omega, nI_pred]
        rfl
      rw [show l.length - 1 + 1 = l.length by omega]
      simp only [u34_20, u34_21, u34_22, u34_25, u34_28, u34_29, u34_32, u34_33, u34_34, u34_35, u34_36, u34_39, u34_40, u34_41, u34_42, u34_43, u34_46, u34_47, u34_48, u34_49, u34_50, u34_53, u34_54, u34_55, u34_56, u34_59, u34_62, u34_63, u34_64, u34_67, u34_68, u34_69, u34_72, o1, Int32.le_refl, if_true, e1, e2]
    | succ d ih =>
      intro i hd h1 h2
      have e1 : gDn iv m (mPl l x) i m 0 = nI l.length := by
        unfold gDn
        rw [if_neg (by omega), hl.2.1]
      rw [u34_20]
      simp only [u34_21, u34_22, u34_25, u34_28, u34_29, u34_32, u34_33, u34_34, u34_35, u34_36, u34_39, u34_40, u34_41, u34_42, u34_43, u34_46, u34_47, u34_48, u34_49, u34_50, u34_53, u34_54, u34_55, u34_56, u34_59, o1, o2, o3, o4, o5, o6, o7, e1, zRef_some, nI_leI (show l.length < 2 ^ 31 by omega) (show i + 1 < 2 ^ 31 by omega), nI_pred, nI_1, nI_clamp (show i + 1 < 2 ^ 31 by omega), nI_clamp (show i < 2 ^ 31 by omega), vp_in_nI (show i + 1 < 12 by omega) (by omega), vp_in_nI (show i < 12 by omega) (by omega), true_and]
      rw [if_neg (by omega)]
      have e : w2 (w2 (gDn iv m (mPl l x) i) (m + 1) i (gDn iv m (mPl l x) i (m + 1) (i + 1))) (m + 2) i (w2 (gDn iv m (mPl l x) i) (m + 1) i (gDn iv m (mPl l x) i (m + 1) (i + 1)) (m + 2) (i + 1)) = gDn iv m (mPl l x) (i + 1) := by
        funext c g
        simp only [w2_at, gDn]
        repeat' split
        all_goals first | rfl | (exfalso; omega) | (congr 2 <;> omega) | (congr 1 <;> omega)
      rw [e]
      exact ih (i + 1) (by omega) (by omega) (by omega)
  refine ⟨w2 (gDn iv m (mPl l x) (l.length - 1)) m 0 (nI (l.length - 1)), ?_, fun c hc => ?_, fun Q v v9 => ?_⟩
  · obtain ⟨e1, e2⟩ := mDel_at hi2.1
    refine ⟨mDel_ok hl.1 hi2.1, by rw [w2_eq, e1], fun k hk => ?_⟩
    rw [e1] at hk
    rw [(e2 k).1, (e2 k).2, w2_c (by omega), w2_c (by omega)]
    unfold gDn
    by_cases c1 : k < mPl l x
    · refine ⟨?_, ?_⟩
      · rw [if_neg (by omega), if_pos c1]; exact (hl.2.2 k (by omega)).1
      · rw [if_neg (by omega), if_pos c1]; exact (hl.2.2 k (by omega)).2
    · refine ⟨?_, ?_⟩
      · rw [if_pos (by omega), if_neg c1]; exact (hl.2.2 (k + 1) (by omega)).1
      · rw [if_pos (by omega), if_neg c1]; exact (hl.2.2 (k + 1) (by omega)).2
  · rw [w2_c (by omega)]
    funext g
    unfold gDn
    rw [if_neg (by omega)]
  · have l0 := loop Q _ (mPl l x) rfl (Nat.le_refl _) (by omega)
    have e0 : gDn iv m (mPl l x) (mPl l x) = iv := by
      funext c g
      unfold gDn
      rw [if_neg (by omega)]
    rw [e0] at l0
    simp only [u34_0, u34_1, u34_2, u34_5, u34_6, u34_7, u34_8, u34_9, u34_12, u34_15, u34_16, u34_17, u34_18, u34_19, o1, c_placeOf hm hl hx, c_standsAt hm hl (show mPl l x ≤ 12 by omega) hx, Option.toList_some, Option.toList_none, List.cons_append, List.nil_append, zRef_some, true_and, and_true, true_or, or_true, i10, i01, zb_n, decide_eq_true hi2, if_true, nI_1]
    exact l0
theorem c_weight (hm : zMx m) (hl : isMix iv m l) : zEv sc 36 0 [.ref m, .null, .null] [] (zst p iv) Q ↔ Q (some (.int (nI (mSum l)))) (zst p iv) := by
  have hlen := hl.1.1
  obtain ⟨o1, o2, o3, o4, o5, o6, o7⟩ := id hm
  have loop : ∀ d k, l.length - k = d → k ≤ l.length → (zEv sc 36 4 [.ref m, .int (nI (mSum (l.take k))), .int (nI k)] [] (zst p iv) Q ↔ Q (some (.int (nI (mSum l)))) (zst p iv)) := by
    intro d
    induction d with
    | zero =>
      intro k hd hk
      have : k = l.length := by omega
      subst this
      simp only [u36_0, u36_1, u36_2, u36_3, u36_4, u36_5, u36_6, u36_9, u36_12, u36_13, u36_14, u36_17, u36_18, u36_19, u36_20, u36_21, u36_24, u36_27, u36_28, o1, hl.2.1, Int32.le_refl, if_true, List.take_length]
    | succ d ih =>
      intro k hd hk
      have hk2 : k < l.length := by omega
      rw [u36_4]
      simp only [u36_5, u36_6, u36_9, u36_12, u36_13, u36_14, u36_17, u36_18, u36_19, u36_20, u36_21, u36_24, o1, o3, o5, o7, hl.2.1, zRef_some, nI_leI (show l.length < 2 ^ 31 by omega) (show k < 2 ^ 31 by omega), nI_clamp (show k < 2 ^ 31 by omega), vp_in_nI (show k < 12 by omega) (by omega), true_and, (hl.2.2 k hk2).2, nI_add, nI_1]
      rw [if_neg (by omega)]
      have e := mSum_snoc l k
      rw [if_pos hk2] at e
      rw [e]
      exact ih (k + 1) (by omega) (by omega)
  simp only [u36_0, u36_1, u36_2, u36_3]
  rw [← nI_0]
  exact loop _ 0 rfl (Nat.zero_le _)
/-- the first k places of a mixture's rows, and its size, out of another one -/
def gCp (iv : Nat → Nat → Int32) (m s k : Nat) : Nat → Nat → Int32 := fun c g => if c = m ∧ g = 0 then iv s 0 else if c = m + 1 ∧ g < k then iv (s + 1) g else if c = m + 2 ∧ g < k then iv (s + 2) g else iv c g
theorem c_copyMix {s : Nat} (hm : zMx m) (hs : zMx s) (ha : m + 3 ≤ s ∨ s + 3 ≤ m) (v : Value) : zEv sc 11 0 [.ref m, .ref s, v] [] (zst p iv) Q ↔ Q none (zst p (gCp iv m s 12)) := by
  obtain ⟨o1, o2, o3, o4, o5, o6, o7⟩ := id hm
  obtain ⟨q1, q2, q3, q4, q5, q6, q7⟩ := id hs
  have loop : ∀ d k, 12 - k = d → k ≤ 12 → (zEv sc 11 10 [.ref m, .ref s, .int (nI k)] [] (zst p (gCp iv m s k)) Q ↔ Q none (zst p (gCp iv m s 12))) := by
    intro d
    induction d with
    | zero =>
      intro k hd hk
      have : k = 12 := by omega
      subst this
      simp only [u11_0, u11_1, u11_2, u11_5, u11_8, u11_9, u11_10, u11_11, u11_13, u11_16, u11_17, u11_20, u11_21, u11_22, u11_25, u11_26, u11_27, u11_28, u11_29, u11_32, u11_33, u11_34, u11_37, u11_38, u11_39, u11_40, u11_43, u11_46, show nI 12 = (12 : Int32) from rfl, Int32.le_refl, if_true]
    | succ d ih =>
      intro k hd hk
      rw [u11_10, u11_11, u11_13, ← show nI 12 = (12 : Int32) from rfl, if_neg (by rw [nI_leI (by omega) (by omega)]; omega)]
      simp only [u11_16, u11_17, u11_20, u11_21, u11_22, u11_25, u11_26, u11_27, u11_28, u11_29, u11_32, u11_33, u11_34, u11_37, u11_38, u11_39, u11_40, u11_43, o1, o2, o3, o4, o5, o6, o7, q1, q2, q3, q4, q5, q6, q7, zRef_some, nI_clamp (show k < 2 ^ 31 by omega), vp_in_nI (show k < 12 by omega) (by omega), true_and, nI_1]
      have e : w2 (w2 (gCp iv m s k) (m + 1) k (gCp iv m s k (s + 1) k)) (m + 2) k (w2 (gCp iv m s k) (m + 1) k (gCp iv m s k (s + 1) k) (s + 2) k) = gCp iv m s (k + 1) := by
        funext c g
        simp only [w2_at, gCp]
        repeat' split
        all_goals first | rfl | (exfalso; omega) | (congr 2 <;> omega) | (congr 1 <;> omega)
      rw [e]
      exact ih (k + 1) (by omega) (by omega)
  have e0 : gCp iv m s 0 = w2 iv m 0 (iv s 0) := by
    funext c g
    rw [w2_at]
    unfold gCp
    by_cases c3 : c = m ∧ g = 0
    · rw [if_pos c3, if_pos c3]
    · rw [if_neg c3, if_neg c3, if_neg (by omega), if_neg (by omega)]
  have l0 := loop _ 0 rfl (Nat.zero_le _)
  rw [e0, nI_0] at l0
  simp only [u11_0, u11_1, u11_2, u11_5, u11_8, u11_9, o1, q1]
  exact l0
theorem gCp_mix {s : Nat} (ha : m + 3 ≤ s ∨ s + 3 ≤ m) (hl : isMix iv s l) : isMix (gCp iv m s 12) m l := by
  have := hl.1.1
  refine ⟨hl.1, ?_, fun k hk => ⟨?_, ?_⟩⟩
  · unfold gCp; rw [if_pos ⟨rfl, rfl⟩]; exact hl.2.1
  · unfold gCp; rw [if_neg (by omega), if_pos (by omega)]; exact (hl.2.2 k hk).1
  · unfold gCp; rw [if_neg (by omega), if_neg (by omega), if_pos (by omega)]; exact (hl.2.2 k hk).2
theorem gCp_out {s : Nat} : ∀ c, c < m ∨ m + 3 ≤ c → gCp iv m s 12 c = iv c := by
  intro c hc
  funext g
  unfold gCp
  rw [if_neg (by omega), if_neg (by omega), if_neg (by omega)]
end ZMIX
