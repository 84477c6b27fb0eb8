/-! ===== FieldMixtures$Contest, $History ===== -/
def cOk (c : CS) : Prop := 2 ≤ cN c ∧ cN c ≤ 4 ∧ cT c ≤ 2 ∧ (∀ f, f < 4 → 1 ≤ cV c f ∧ cV c f ≤ 9) ∧ ∀ q, q < 2 → cR c q ≤ 8 ∧ (∀ f, f < 4 → cB c q f ≤ 8) ∧ ∀ k, k < (cM c q).length → alw (cN c) (cB c q) (mA (cM c q) k) (cR c q) = true
def sB (b q : Nat) : Nat := if q = 0 then b + 2 else b + 7
theorem isCt.sd {iv : Nat → Nat → Int32} {b q : Nat} {c : CS} (h : isCt iv b c) (hq : q < 2) : isSd iv (sB b q) (cR c q) (cB c q) (cM c q) := by
  rcases (show q = 0 ∨ q = 1 by omega) with rfl | rfl
  · exact h.2.2.2.1
  · exact h.2.2.2.2
theorem zCt.sd {b q : Nat} (h : zCt b) : zSd (sB b q) := by
  unfold sB
  split
  · exact h.2.2.2.2.2.2.1
  · exact h.2.2.2.2.2.2.2
theorem ii_lt {x y : Int32} : x < y ↔ ¬ y ≤ x := by
  rw [Int32.lt_iff_toInt_lt, Int32.le_iff_toInt_le]; omega
/-- of another number of fields: as at first, no mixtures -/
def cFields (c : CS) (n : Nat) : CS := (n, cT c, fun _ => 1, cR c, fun _ _ => 8, fun q => if n = cN c then cM c q else [])
section ZCT
variable {sc : Nat × (Nat → Int32)} {Q : Option Value → zA → Prop} {h : zA} {p : Nat → Option Nat} {iv : Nat → Nat → Int32} {b q n : Nat} {cs : CS} {x lo hi : Int32}
theorem c_isIn : zEv sc 15 0 [.int x, .int lo, .int hi] [] h Q ↔ Q (some (.int (zb (decide (lo ≤ x ∧ x ≤ hi))))) h := by
  simp only [u15_0, u15_1, u15_2, u15_5, u15_6, u15_7, u15_10, u15_11, u15_15, u15_14, Option.toList_some, Option.toList_none, List.cons_append, List.nil_append, zRef_some, true_and, and_true, true_or, or_true, i10, i01]
  by_cases h1 : lo ≤ x
  · rw [if_neg (fun z => ii_lt.mp z h1)]
    by_cases h2 : x ≤ hi
    · rw [if_neg (fun z => ii_lt.mp z h2), decide_eq_true ⟨h1, h2⟩]; rfl
    · rw [if_pos (ii_lt.mpr h2), decide_eq_false (fun z => h2 z.2)]; rfl
  · rw [if_pos (ii_lt.mpr h1), decide_eq_false (fun z => h1 z.1)]; rfl
theorem c_isPlayer : zEv sc 47 0 [.int x] [] h Q ↔ Q (some (.int (zb (decide (0 ≤ x ∧ x ≤ 1))))) h := by
  simp only [u47_0, u47_1, u47_2, u47_3, u47_6, c_isIn, Option.toList_some, Option.toList_none, List.cons_append, List.nil_append, zRef_some, true_and, and_true, true_or, or_true, i10, i01, zb_01]
theorem c_isPart : zEv sc 76 0 [.int x] [] h Q ↔ Q (some (.int (zb (decide (0 ≤ x ∧ x ≤ 1))))) h := by
  simp only [u76_0, u76_1, u76_2, u76_3, u76_6, c_isIn, Option.toList_some, Option.toList_none, List.cons_append, List.nil_append, zRef_some, true_and, and_true, true_or, or_true, i10, i01, zb_01]
theorem c_hasField (hb : zCt b) (hc : iv b 0 = nI n) : zEv sc 16 0 [.ref b, .int x] [] (zst p iv) Q ↔ Q (some (.int (zb (decide (0 ≤ x ∧ x ≤ nI n - 1))))) (zst p iv) := by
  simp only [u16_0, u16_1, u16_2, u16_3, u16_6, u16_7, u16_8, u16_11, hb.1, hc, c_isIn, Option.toList_some, Option.toList_none, List.cons_append, List.nil_append, zRef_some, true_and, and_true, true_or, or_true, i10, i01, zb_01]
theorem c_side (hb : zCt b) (hq : q < 2) : zEv sc 14 0 [.ref b, .int (nI q)] [] (zst p iv) Q ↔ Q (some (.ref (sB b q))) (zst p iv) := by
  rcases (show q = 0 ∨ q = 1 by omega) with rfl | rfl
  · simp only [u14_0, u14_1, u14_4, u14_5, u14_8, u14_15, u14_11, u14_12, hb.1, hb.2.2.2.2.1, hb.2.2.2.2.2.1, zRef_some]
    rw [if_neg (by decide)]
    rfl
  · simp only [u14_0, u14_1, u14_4, u14_5, u14_8, u14_15, u14_11, u14_12, hb.1, hb.2.2.2.2.1, hb.2.2.2.2.2.1, zRef_some]
    rw [if_pos (by decide)]
    rfl
theorem c_allowsC {v : Value} (hb : zCt b) (hc : isCt iv b cs) (ho : cOk cs) (hq : q < 2) : zEv sc 17 0 [.ref b, .int (nI q), .int x] [] (zst p iv) Q ↔ Q (some (.int (zb (alwI (cN cs) (cB cs q) (cR cs q) x)))) (zst p iv) := by
  have h1 := hc.sd hq
  have h2 := ho.2.2.2.2 q hq
  have h3 := hb.sd (q := q)
  have hr : cR cs q < 100 := by have := h2.1; omega
  have hbd : ∀ f, f < 4 → cB cs q f < 100 := fun f hf => by have := h2.2.1 f hf; omega
  simp only [u17_0, u17_1, u17_2, u17_5, u17_6, u17_7, u17_10, u17_13, hb.1, h3.1, c_side hb hq, hc.1, c_allows h3 ho.2.1 h1.1 h1.2.1 hr hbd, Option.toList_some, Option.toList_none, List.cons_append, List.nil_append, zRef_some, true_and, and_true, true_or, or_true, i10, i01, zb_01]
theorem c_lacks (hb : zCt b) (hc : isCt iv b cs) : zEv sc 18 0 [.ref b] [] (zst p iv) Q ↔ Q (some (.int (zb (decide ((cM cs 0).length = 0 ∨ (cM cs 1).length = 0))))) (zst p iv) := by
  have l0 := hc.2.2.2.1.2.2.1.1
  have l1 := hc.2.2.2.2.2.2.1.1
  simp only [u18_0, u18_1, u18_4, u18_7, u18_10, u18_13, u18_14, u18_17, u18_20, u18_23, u18_30, u18_31, u18_26, u18_27, hb.1, hb.2.2.2.2.1, hb.2.2.2.2.2.1, hb.2.2.2.2.2.2.1.1, hb.2.2.2.2.2.2.2.1, hb.2.2.2.2.2.2.1.2.2.2.2.1, hb.2.2.2.2.2.2.2.2.2.2.2.1, hb.2.2.2.2.2.2.1.2.2.2.2.2.1, hb.2.2.2.2.2.2.2.2.2.2.2.2.1, zRef_some, hc.2.2.2.1.2.2.2.1, hc.2.2.2.2.2.2.2.1, ← nI_0, nI_eq (show (cM cs 0).length < 2 ^ 31 by omega) (show 0 < 2 ^ 31 by omega), nI_eq (show (cM cs 1).length < 2 ^ 31 by omega) (show 0 < 2 ^ 31 by omega), Option.toList_some, Option.toList_none, List.cons_append, List.nil_append, zRef_some, true_and, and_true, true_or, or_true, i10, i01]
  by_cases e0 : (cM cs 0).length = 0
  · rw [if_pos e0, decide_eq_true (Or.inl e0)]; rfl
  · by_cases e1 : (cM cs 1).length = 0
    · rw [if_neg e0, if_neg (fun z => z e1), decide_eq_true (Or.inr e1)]; rfl
    · rw [if_neg e0, if_pos e1, decide_eq_false (fun z => z.elim e0 e1)]; simp [zb, nI_0]
theorem c_sizeOf (hb : zCt b) (hc : isCt iv b cs) : zEv sc 19 0 [.ref b] [] (zst p iv) Q ↔ Q (some (.int (nI ((cM cs 0).length + (cM cs 1).length)))) (zst p iv) := by
  simp only [u19_0, u19_1, u19_4, u19_7, u19_10, u19_11, u19_14, u19_17, u19_20, u19_21, hb.1, hb.2.2.2.2.1, hb.2.2.2.2.2.1, hb.2.2.2.2.2.2.1.1, hb.2.2.2.2.2.2.2.1, hb.2.2.2.2.2.2.1.2.2.2.2.1, hb.2.2.2.2.2.2.2.2.2.2.2.1, hb.2.2.2.2.2.2.1.2.2.2.2.2.1, hb.2.2.2.2.2.2.2.2.2.2.2.2.1, zRef_some, hc.2.2.2.1.2.2.2.1, hc.2.2.2.2.2.2.2.1, nI_add]
def vSum (V : Nat → Nat) : Nat → Nat
  | 0 => 0
  | k + 1 => vSum V k + V k
theorem c_sumOfValues {v1 v2 : Value} (hb : zCt b) (hc : isCt iv b cs) (ho : cOk cs) : zEv sc 20 0 [.ref b, v1, v2] [] (zst p iv) Q ↔ Q (some (.int (nI (vSum (cV cs) (cN cs))))) (zst p iv) := by
  have hn := ho.2.1
  have loop : ∀ d k, cN cs - k = d → k ≤ cN cs → (zEv sc 20 4 [.ref b, .int (nI (vSum (cV cs) k)), .int (nI k)] [] (zst p iv) Q ↔ Q (some (.int (nI (vSum (cV cs) (cN cs))))) (zst p iv)) := by
    intro d
    induction d with
    | zero =>
      intro k hd hk
      have : k = cN cs := by omega
      subst this
      simp only [u20_0, u20_1, u20_2, u20_3, u20_4, u20_5, u20_6, u20_9, u20_12, u20_13, u20_14, u20_17, u20_18, u20_19, u20_20, u20_21, u20_24, u20_27, u20_28, hb.1, hc.1, Int32.le_refl, if_true]
    | succ d ih =>
      intro k hd hk
      rw [u20_4]
      simp only [u20_5, u20_6, u20_9, u20_12, u20_13, u20_14, u20_17, u20_18, u20_19, u20_20, u20_21, u20_24, hb.1, hb.2.1, hb.2.2.1, hb.2.2.2.1, zRef_some, hc.1, nI_leI (show cN cs < 2 ^ 31 by omega) (show k < 2 ^ 31 by omega), nI_clamp (show k < 2 ^ 31 by omega), vp_in_nI (show k < 4 by omega) (by omega), true_and, hc.2.2.1 k (by omega), nI_add, nI_1]
      rw [if_neg (by omega)]
      exact ih (k + 1) (by omega) (by omega)
  simp only [u20_0, u20_1, u20_2, u20_3]
  rw [← nI_0]
  exact loop _ 0 rfl (Nat.zero_le _)
/-- how much an allocation gives a field -/
def dg (n x f : Nat) : Nat := x / 10 ^ (n - 1 - f) % 10
theorem c_amountIn {f y : Nat} {v1 v2 : Value} (hb : zCt b) (hc : iv b 0 = nI n) (hn : n ≤ 4) (hf : f < n) (hy : y < 10000) : zEv sc 21 0 [.ref b, .int (nI f), .int (nI y), v1, v2] [] (zst p iv) Q ↔ Q (some (.int (nI (dg n y f)))) (zst p iv) := by
  have loop : ∀ d j, n - 1 - f - j = d → j ≤ n - 1 - f → (zEv sc 21 10 [.ref b, .int (nI f), .int (nI y), .int (nI (y / 10 ^ j)), .int (nI (n - 1 - j))] [] (zst p iv) Q ↔ Q (some (.int (nI (dg n y f)))) (zst p iv)) := by
    intro d
    induction d with
    | zero =>
      intro j hd hj
      have e : j = n - 1 - f := by omega
      have e2 : n - 1 - j = f := by omega
      have hlt : y / 10 ^ j < 2 ^ 31 := Nat.lt_of_le_of_lt (Nat.div_le_self _ _) (by omega)
      rw [e2, u21_10, u21_12, u21_13, if_pos (Int32.le_refl _)]
      simp only [u21_27, u21_28, u21_30, u21_31, n10_0, not_false_eq_true, true_and, n_d10 hlt, n_r10 hlt]
      rw [e]
      rfl
    | succ d ih =>
      intro j hd hj
      have hlt : y / 10 ^ j < 2 ^ 31 := Nat.lt_of_le_of_lt (Nat.div_le_self _ _) (by omega)
      obtain ⟨i, hi⟩ : ∃ i, n - 1 - j = i + 1 := ⟨n - 1 - j - 1, by omega⟩
      rw [u21_10, u21_12, u21_13, hi, if_neg (by rw [nI_leI (by omega) (by omega)]; omega)]
      simp only [u21_16, u21_17, u21_19, u21_20, u21_21, u21_24, n10_0, not_false_eq_true, true_and, n_d10 hlt, pk_m1]
      rw [Nat.div_div_eq_div_mul, ← Nat.pow_succ, show i = n - 1 - (j + 1) by omega]
      exact ih (j + 1) (by omega) (by omega)
  obtain ⟨i, hi⟩ : ∃ i, n = i + 1 := ⟨n - 1, by omega⟩
  have l0 := loop _ 0 rfl (Nat.zero_le _)
  rw [Nat.pow_zero, Nat.div_one, Nat.sub_zero] at l0
  simp only [u21_0, u21_1, u21_2, u21_3, u21_6, u21_7, u21_8, hb.1, hc]
  rw [show nI n - 1 = nI (n - 1) by rw [hi, nI_pred]; rfl]
  exact l0
/-- 1 if the player wins a field with these amounts, -1 if the other one, 0 a draw -/
def oc (t q a c : Nat) : Int := if a = c then (if t = 0 then 0 else if t = q + 1 then 1 else -1) else if c < a then 1 else -1
theorem c_outcome {t a c : Nat} (hb : zCt b) (hc : iv b 1 = nI t) (ht : t ≤ 2) (hq : q < 2) (ha : a < 10) (hc2 : c < 10) : zEv sc 22 0 [.ref b, .int (nI q), .int (nI a), .int (nI c)] [] (zst p iv) Q ↔ Q (some (.int (iI (oc t q a c)))) (zst p iv) := by
  simp only [u22_0, u22_1, u22_2, u22_5, u22_6, u22_7, u22_10, u22_11, u22_15, u22_14, u22_16, u22_17, u22_20, u22_23, u22_24, u22_25, u22_26, u22_29, u22_30, u22_31, u22_32, u22_35, u22_36, u22_40, u22_39, hb.1, hc, nI_eq (show a < 2 ^ 31 by omega) (show c < 2 ^ 31 by omega), nI_leI (show a < 2 ^ 31 by omega) (show c < 2 ^ 31 by omega)]
  unfold oc
  by_cases e : a = c
  · rw [if_pos e, if_pos e]
    rcases (show t = 0 ∨ t = 1 ∨ t = 2 by omega) with rfl | rfl | rfl
    · rw [if_neg (by decide), if_pos rfl]; exact Iff.rfl
    · rw [if_pos (by decide)]
      rcases (show q = 0 ∨ q = 1 by omega) with rfl | rfl
      · rw [if_neg (by decide)]; exact Iff.rfl
      · rw [if_pos (by decide)]; exact Iff.rfl
    · rw [if_pos (by decide)]
      rcases (show q = 0 ∨ q = 1 by omega) with rfl | rfl
      · rw [if_pos (by decide)]; exact Iff.rfl
      · rw [if_neg (by decide)]; exact Iff.rfl
  · rw [if_neg e, if_neg e]
    by_cases e2 : c < a
    · rw [if_neg (by omega), if_pos e2]; exact Iff.rfl
    · rw [if_pos (by omega), if_neg e2]; exact Iff.rfl
/-- what an allocation gains against another one, from the last field on -/
def gn (t q : Nat) (V : Nat → Nat) : Nat → Nat → Nat → Int
  | 0, _, _ => 0
  | k + 1, a, c => (V k : Int) * oc t q (a % 10) (c % 10) + gn t q V k (a / 10) (c / 10)
theorem c_gainOf {y z : Nat} {v1 v2 v3 v4 : Value} (hb : zCt b) (hc : isCt iv b cs) (ho : cOk cs) (hq : q < 2) (hy : y < 10000) (hz : z < 10000) : zEv sc 23 0 [.ref b, .int (nI q), .int (nI y), .int (nI z), v1, v2, v3, v4] [] (zst p iv) Q ↔ Q (some (.int (iI (gn (cT cs) q (cV cs) (cN cs) y z)))) (zst p iv) := by
  have loop : ∀ (k a c : Nat) (s : Int), k ≤ cN cs → a < 10000 → c < 10000 → (zEv sc 23 17 [.ref b, .int (nI q), .int (nI y), .int (nI z), .int (nI a), .int (nI c), .int (iI s), .int (nI k - 1)] [] (zst p iv) Q ↔ Q (some (.int (iI (s + gn (cT cs) q (cV cs) k a c)))) (zst p iv)) := by
    intro k
    induction k with
    | zero =>
      intro a c s hk ha hc3
      rw [u23_17, u23_19, if_pos (by decide)]
      simp only [u23_70, u23_72]
      unfold gn
      rw [Int.add_zero]
    | succ k ih =>
      intro a c s hk ha hc3
      have hn := ho.2.1
      rw [u23_17, u23_19, nI_pred, if_neg (nI_pos (by omega))]
      simp only [u23_22, u23_24, u23_25, u23_28, u23_30, u23_31, u23_32, u23_33, u23_35, u23_37, u23_38, u23_40, u23_42, u23_43, u23_46, u23_47, u23_48, u23_50, u23_52, u23_54, u23_55, u23_57, u23_59, u23_61, u23_62, u23_64, u23_67, hb.1, hb.2.1, hb.2.2.1, hb.2.2.2.1, zRef_some, nI_clamp (show k < 2 ^ 31 by omega), vp_in_nI (show k < 4 by omega) (by omega), true_and, hc.2.2.1 k (by omega), n10_0, not_false_eq_true, n_d10 (show a < 2 ^ 31 by omega), n_r10 (show a < 2 ^ 31 by omega), n_d10 (show c < 2 ^ 31 by omega), n_r10 (show c < 2 ^ 31 by omega), c_outcome hb hc.2.1 ho.2.2.1 hq (show a % 10 < 10 by omega) (show c % 10 < 10 by omega), Option.toList_some, Option.toList_none, List.cons_append, List.nil_append, zRef_some, true_and, and_true, true_or, or_true, i10, i01, n_sub1]
      rw [nI_iI (cV cs k), iI_mul, iI_add, ih _ _ _ (by omega) (by omega) (by omega), Int.add_assoc]
      rfl
  have l0 := loop (cN cs) y z 0 (Nat.le_refl _) hy hz
  rw [Int.zero_add] at l0
  simp only [u23_0, u23_1, u23_3, u23_4, u23_6, u23_7, u23_9, u23_10, u23_13, u23_14, u23_15, hb.1, hc.1]
  exact l0
theorem c_copyCt {o : Nat} {v : Value} (hb : zCt b) (ho : zCt o) (hd : b + 12 ≤ o ∨ o + 12 ≤ b) (hl : isCt iv o cs) : ∃ iv2, isCt iv2 b cs ∧ (∀ c, c < b ∨ b + 12 ≤ c → iv2 c = iv c) ∧ ∀ (Q : Option Value → zA → Prop), zEv sc 13 0 [.ref b, .ref o, v] [] (zst p iv) Q ↔ Q none (zst p iv2) := by
  obtain ⟨o1, o2, o3, o4, o5, o6, o7, o8⟩ := id hb
  obtain ⟨q1, q2, q3, q4, q5, q6, q7, q8⟩ := id ho
  have loop : ∀ Q d k, 4 - k = d → k ≤ 4 → (zEv sc 13 18 [.ref b, .ref o, .int (nI k)] [] (zst p (fun c g => if c = b ∧ g = 0 then iv o 0 else if c = b ∧ g = 1 then iv o 1 else if c = b + 1 ∧ g < k then iv (o + 1) g else iv c g)) Q ↔ zEv sc 13 18 [.ref b, .ref o, .int (nI 4)] [] (zst p (fun c g => if c = b ∧ g = 0 then iv o 0 else if c = b ∧ g = 1 then iv o 1 else if c = b + 1 ∧ g < 4 then iv (o + 1) g else iv c g)) Q) := by
    intro Q d
    induction d with
    | zero =>
      intro k hd hk
      have : k = 4 := by omega
      subst this
      exact Iff.rfl
    | succ d ih =>
      intro k hd hk
      rw [u13_18, u13_19, u13_20, ← show nI 4 = (4 : Int32) from rfl, if_neg (by rw [nI_leI (by omega) (by omega)]; omega)]
      simp only [u13_23, u13_24, u13_27, u13_28, u13_29, u13_32, u13_33, u13_34, u13_35, u13_38, o1, o2, o3, o4, q1, q2, q3, q4, zRef_some, nI_clamp (show k < 2 ^ 31 by omega), vp_in_nI (show k < 4 by omega) (by omega), true_and, nI_1]
      rw [← ih (k + 1) (by omega) (by omega)]
      have e : w2 (fun c g => if c = b ∧ g = 0 then iv o 0 else if c = b ∧ g = 1 then iv o 1 else if c = b + 1 ∧ g < k then iv (o + 1) g else iv c g) (b + 1) k (if o + 1 = b ∧ k = 0 then iv o 0 else if o + 1 = b ∧ k = 1 then iv o 1 else if o + 1 = b + 1 ∧ k < k then iv (o + 1) k else iv (o + 1) k) = fun c g => if c = b ∧ g = 0 then iv o 0 else if c = b ∧ g = 1 then iv o 1 else if c = b + 1 ∧ g < k + 1 then iv (o + 1) g else iv c g := by
        funext c g
        simp only [w2_at]
        repeat' split
        all_goals first | rfl | (exfalso; omega) | (congr 2 <;> omega) | (congr 1 <;> omega)
      rw [e]
  have e0 : (fun c g => if c = b ∧ g = 0 then iv o 0 else if c = b ∧ g = 1 then iv o 1 else if c = b + 1 ∧ g < 0 then iv (o + 1) g else iv c g) = w2 (w2 iv b 0 (iv o 0)) b 1 (w2 iv b 0 (iv o 0) o 1) := by
    funext c g
    simp only [w2_at]
    repeat' split
    all_goals first | rfl | (exfalso; omega) | (congr 2 <;> omega) | (congr 1 <;> omega)
  obtain ⟨iv1, hiv1⟩ : ∃ z, z = fun c g => if c = b ∧ g = 0 then iv o 0 else if c = b ∧ g = 1 then iv o 1 else if c = b + 1 ∧ g < 4 then iv (o + 1) g else iv c g := ⟨_, rfl⟩
  have f1 : ∀ c, c ≠ b → c ≠ b + 1 → iv1 c = iv c := by
    intro c h1 h2
    rw [hiv1]
    funext g
    dsimp only
    rw [if_neg (by omega), if_neg (by omega), if_neg (by omega)]
  obtain ⟨iv2, a1, a2, a3⟩ := c_copySide (sc := sc) (p := p) (v := .null) o7 q7 (by omega) (hl.2.2.2.1.keep (iv2 := iv1) (fun c h1 h2 => f1 c (by omega) (by omega)))
  obtain ⟨iv3, b1, b2, b3⟩ := c_copySide (sc := sc) (p := p) (v := .null) o8 q8 (by omega) (hl.2.2.2.2.keep (iv2 := iv2) (fun c h1 h2 => by rw [a2 c (by omega), f1 c (by omega) (by omega)]))
  refine ⟨iv3, ⟨?_, ?_, fun f hf => ?_, a1.keep (fun c h1 h2 => b2 c (by omega)), b1⟩, fun c hc => by rw [b2 c (by omega), a2 c (by omega), f1 c (by omega) (by omega)], fun Q => ?_⟩
  · rw [b2 b (by omega), a2 b (by omega), hiv1]
    dsimp only
    rw [if_pos ⟨rfl, rfl⟩]
    exact hl.1
  · rw [b2 b (by omega), a2 b (by omega), hiv1]
    dsimp only
    rw [if_neg (by omega), if_pos ⟨rfl, rfl⟩]
    exact hl.2.1
  · rw [b2 (b + 1) (by omega), a2 (b + 1) (by omega), hiv1]
    dsimp only
    rw [if_neg (by omega), if_neg (by omega), if_pos ⟨rfl, hf⟩]
    exact hl.2.2.1 f hf
  · have l0 := loop Q _ 0 rfl (Nat.zero_le _)
    rw [e0, nI_0, ← hiv1] at l0
    simp only [u13_0, u13_1, u13_2, u13_5, u13_8, u13_9, u13_10, u13_13, u13_16, u13_17, o1, q1]
    rw [l0, u13_18, u13_19, u13_20, ← show nI 4 = (4 : Int32) from rfl, if_pos (Int32.le_refl _)]
    simp only [u13_41, u13_42, u13_45, u13_46, u13_49, u13_52, u13_53, u13_56, u13_57, u13_60, u13_63, o1, o5, o6, q1, q5, q6, o7.1, o8.1, zRef_some, a3, b3, Option.toList_some, Option.toList_none, List.cons_append, List.nil_append, zRef_some, true_and, and_true, true_or, or_true, i10, i01]
theorem c_startWith {k : Nat} {v : Value} (hb : zCt b) (hc : isCt iv b cs) (hk : k < 100) (hn : cN cs < 100) : ∃ iv2, isCt iv2 b (cFields cs k) ∧ (∀ c, c < b ∨ b + 12 ≤ c → iv2 c = iv c) ∧ ∀ (Q : Option Value → zA → Prop), zEv sc 9 0 [.ref b, .int (nI k), v] [] (zst p iv) Q ↔ Q none (zst p iv2) := by
  obtain ⟨o1, o2, o3, o4, o5, o6, o7, o8⟩ := id hb
  obtain ⟨iv0, h0⟩ : ∃ z, z = w2 (if k = cN cs then iv else w2 (w2 iv (b + 2 + 2) 0 0) (b + 7 + 2) 0 0) b 0 (nI k) := ⟨_, rfl⟩
  have loop : ∀ Q d j, 4 - j = d → j ≤ 4 → (zEv sc 9 37 [.ref b, .int (nI k), .int (nI j)] [] (zst p (fun c g => if c = b + 1 ∧ g < j then 1 else iv0 c g)) Q ↔ zEv sc 9 37 [.ref b, .int (nI k), .int (nI 4)] [] (zst p (fun c g => if c = b + 1 ∧ g < 4 then 1 else iv0 c g)) Q) := by
    intro Q d
    induction d with
    | zero =>
      intro j hd hj
      have : j = 4 := by omega
      subst this
      exact Iff.rfl
    | succ d ih =>
      intro j hd hj
      rw [u9_37, u9_38, u9_39, ← show nI 4 = (4 : Int32) from rfl, if_neg (by rw [nI_leI (by omega) (by omega)]; omega)]
      simp only [u9_42, u9_43, u9_46, u9_47, u9_48, u9_49, u9_52, o1, o2, o3, o4, zRef_some, nI_clamp (show j < 2 ^ 31 by omega), vp_in_nI (show j < 4 by omega) (by omega), true_and, nI_1]
      rw [← ih (j + 1) (by omega) (by omega)]
      have e : w2 (fun c g => if c = b + 1 ∧ g < j then (1 : Int32) else iv0 c g) (b + 1) j 1 = fun c g => if c = b + 1 ∧ g < j + 1 then 1 else iv0 c g := by
        funext c g
        simp only [w2_at]
        repeat' split
        all_goals first | rfl | (exfalso; omega) | (congr 2 <;> omega) | (congr 1 <;> omega)
      rw [e]
  have e0 : (fun c g => if c = b + 1 ∧ g < 0 then (1 : Int32) else iv0 c g) = iv0 := by
    funext c g
    rw [if_neg (by omega)]
  have f0 : ∀ c, c ≠ b → c ≠ b + 4 → c ≠ b + 9 → iv0 c = iv c := by
    intro c h1 h2 h3
    rw [h0, w2_c h1]
    split
    · rfl
    · rw [w2_c (by omega), w2_c (by omega)]
  have fm : ∀ q, (q = b + 4 ∨ q = b + 9) → ∀ l, isMix iv q l → isMix iv0 q (if k = cN cs then l else []) := by
    intro q hq l hl
    by_cases e : k = cN cs
    · rw [if_pos e]
      rw [if_pos e] at h0
      exact hl.keep (fun c h1 h2 => by rw [h0, w2_c (by omega)])
    · rw [if_neg e]
      rw [if_neg e] at h0
      refine ⟨⟨by simp, fun z hz => absurd hz (Nat.not_lt_zero _), fun i j _ hj => absurd hj (Nat.not_lt_zero _)⟩, ?_, fun z hz => absurd hz (Nat.not_lt_zero _)⟩
      rw [h0, w2_c (by omega)]
      rcases hq with rfl | rfl
      · rw [w2_c (by omega), w2_eq]; exact nI_0.symm
      · rw [w2_eq]; exact nI_0.symm
  refine ⟨fun c g => if c = b + 7 + 1 ∧ g < 4 then 8 else if c = b + 2 + 1 ∧ g < 4 then 8 else if c = b + 1 ∧ g < 4 then 1 else iv0 c g, ⟨?_, ?_, fun f hf => ?_, ⟨?_, fun f hf => ?_, ?_⟩, ⟨?_, fun f hf => ?_, ?_⟩⟩, fun c hc2 => ?_, fun Q => ?_⟩
  · dsimp only
    rw [if_neg (by omega), if_neg (by omega), if_neg (by omega), h0, w2_eq]
    rfl
  · dsimp only
    rw [if_neg (by omega), if_neg (by omega), if_neg (by omega), h0, w2_g (by omega)]
    have : (if k = cN cs then iv else w2 (w2 iv (b + 2 + 2) 0 0) (b + 7 + 2) 0 0) b 1 = iv b 1 := by
      split
      · rfl
      · rw [w2_c (by omega), w2_c (by omega)]
    rw [this]
    exact hc.2.1
  · dsimp only
    rw [if_neg (by omega), if_neg (by omega), if_pos ⟨rfl, hf⟩]
    rfl
  · dsimp only
    rw [if_neg (by omega), if_neg (by omega), if_neg (by omega), f0 _ (by omega) (by omega) (by omega)]
    exact hc.2.2.2.1.1
  · dsimp only
    rw [if_neg (by omega), if_pos ⟨rfl, hf⟩]
    rfl
  · refine (fm (b + 4) (Or.inl rfl) _ hc.2.2.2.1.2.2).keep (fun c h1 h2 => ?_)
    funext g
    rw [if_neg (by omega), if_neg (by omega), if_neg (by omega)]
  · dsimp only
    rw [if_neg (by omega), if_neg (by omega), if_neg (by omega), f0 _ (by omega) (by omega) (by omega)]
    exact hc.2.2.2.2.1
  · dsimp only
    rw [if_pos ⟨rfl, hf⟩]
    rfl
  · refine (fm (b + 9) (Or.inr rfl) _ hc.2.2.2.2.2.2).keep (fun c h1 h2 => ?_)
    funext g
    rw [if_neg (by omega), if_neg (by omega), if_neg (by omega)]
  · funext g
    dsimp only
    rw [if_neg (by omega), if_neg (by omega), if_neg (by omega), f0 c (by omega) (by omega) (by omega)]
  · have l0 := loop Q _ 0 rfl (Nat.zero_le _)
    rw [e0, nI_0] at l0
    have l1 : zEv sc 9 30 [.ref b, .int (nI k), v] [] (zst p (if k = cN cs then iv else w2 (w2 iv (b + 2 + 2) 0 0) (b + 7 + 2) 0 0)) Q ↔ Q none (zst p (fun c g => if c = b + 7 + 1 ∧ g < 4 then 8 else if c = b + 2 + 1 ∧ g < 4 then 8 else if c = b + 1 ∧ g < 4 then 1 else iv0 c g)) := by
      simp only [u9_30, u9_31, u9_32, u9_35, u9_36, o1]
      rw [← h0, l0, u9_37, u9_38, u9_39, ← show nI 4 = (4 : Int32) from rfl, if_pos (Int32.le_refl _)]
      simp only [u9_55, u9_56, u9_59, u9_62, u9_63, u9_66, u9_69, o1, o5, o6, o7.1, o8.1, zRef_some, c_resetBounds o7, c_resetBounds o8, Option.toList_some, Option.toList_none, List.cons_append, List.nil_append, zRef_some, true_and, and_true, true_or, or_true, i10, i01]
    rw [← l1]
    simp only [u9_0, u9_1, u9_2, u9_5, u9_8, u9_9, u9_12, u9_15, u9_16, u9_19, u9_20, u9_23, u9_26, u9_27, o1, o5, o6, o7.1, o8.1, o7.2.2.2.2.1, o8.2.2.2.2.1, o7.2.2.2.2.2.1, o8.2.2.2.2.2.1, zRef_some, hc.1, nI_eq (show k < 2 ^ 31 by omega) (show cN cs < 2 ^ 31 by omega)]
    by_cases e : k = cN cs
    · rw [if_pos e, if_pos e]
    · rw [if_neg e, if_neg e]
/-- the history: the row of its states in any order of the four, the first ones in use -/
def isH (iv : Nat → Nat → Int32) (p : Nat → Option Nat) (hs : List CS) : Prop := hs.length ≤ 4 ∧ iv 26 0 = nI hs.length ∧ ∃ bs : Nat → Nat, (∀ j, j < 4 → p j = some (bs j) ∧ (bs j = 28 ∨ bs j = 40 ∨ bs j = 52 ∨ bs j = 64)) ∧ (∀ i j, i < 4 → j < 4 → bs i = bs j → i = j) ∧ ∀ j (c : CS), hs[j]? = some c → isCt iv (bs j) c
theorem isH.keep {iv iv2 : Nat → Nat → Int32} {p : Nat → Option Nat} {hs : List CS} (h : isH iv p hs) (e : ∀ c, 26 ≤ c → c < 76 → iv2 c = iv c) : isH iv2 p hs := by
  obtain ⟨h1, h2, bs, h3, h4, h5⟩ := h
  refine ⟨h1, by rw [e 26 (by omega) (by omega)]; exact h2, bs, h3, h4, fun j c hc => (h5 j c hc).keep (fun x g1 g2 => ?_)⟩
  have hj : j < hs.length := (List.getElem?_eq_some_iff.mp hc).1
  have := (h3 j (by omega)).2
  exact e x (by omega) (by omega)
def hRec (hs : List CS) (c : CS) : List CS := (if hs.length = 4 then hs.drop 1 else hs) ++ [c]
theorem z26 : zO 26 3 ∧ zO 27 102 ∧ zLn 27 = 4 ∧ ∀ p, zRV p 26 1 = some 27 := ⟨zO_of (a := 26) (by omega) (by omega), zO_of (a := 27) (by omega) (by omega), zLn_of (a := 27) (by omega), fun p => zRV_of (by decide +kernel) (by omega)⟩
theorem zCt_28 {b : Nat} (h : b = 28 ∨ b = 40 ∨ b = 52 ∨ b = 64) : zCt b := by
  rcases h with rfl | rfl | rfl | rfl <;> exact zCt_of (by decide)
theorem zCt_2 : zCt 2 := zCt_of (by decide)
theorem zCt_14 : zCt 14 := zCt_of (by decide)
/-- the states' row, one place on -/
def pRot (p : Nat → Option Nat) (i : Nat) : Nat → Option Nat := fun j => if j + 1 < i then p (j + 1) else p j
theorem c_dropOldest {bs : Nat → Nat} (h1 : ∀ j, j < 4 → p j = some (bs j) ∧ (bs j = 28 ∨ bs j = 40 ∨ bs j = 52 ∨ bs j = 64)) {v1 v2 : Value} : zEv sc 25 0 [.ref 26, v1, v2] [] (zst p iv) Q ↔ Q none (zst (va_up (pRot p 4) 3 (p 0)) (w2 iv 26 0 3)) := by
  obtain ⟨a1, a2, a3, a4⟩ := z26
  have loop : ∀ d i, 4 - i = d → 1 ≤ i → i ≤ 4 → (zEv sc 25 9 [.ref 26, .ref (bs 0), .int (nI i)] [] (zst (pRot p i) iv) Q ↔ zEv sc 25 9 [.ref 26, .ref (bs 0), .int (nI 4)] [] (zst (pRot p 4) iv) Q) := by
    intro d
    induction d with
    | zero =>
      intro i hd h2 h3
      have : i = 4 := by omega
      subst this
      exact Iff.rfl
    | succ d ih =>
      intro i hd h2 h3
      have hp : pRot p i i = some (bs i) := by
        unfold pRot
        rw [if_neg (by omega)]
        exact (h1 i (by omega)).1
      have hv : zO (bs i) 2 := (zCt_28 (h1 i (by omega)).2).1
      obtain ⟨j, rfl⟩ : ∃ j, i = j + 1 := ⟨i - 1, by omega⟩
      rw [u25_9, u25_10, u25_11, ← show nI 4 = (4 : Int32) from rfl, if_neg (by rw [nI_leI (by omega) (by omega)]; omega)]
      simp only [u25_14, u25_15, u25_18, u25_19, u25_20, u25_21, u25_22, u25_25, u25_26, u25_27, u25_28, u25_31, a1, a2, a3, a4, zRef_some, nI_pred, nI_clamp (show j + 1 < 2 ^ 31 by omega), nI_clamp (show j < 2 ^ 31 by omega), vp_in_nI (show j + 1 < 4 by omega) (by omega), vp_in_nI (show j < 4 by omega) (by omega), true_and, zRV_27, hp, hv, nI_1]
      rw [← ih (j + 1 + 1) (by omega) (by omega) (by omega)]
      have e : va_up (pRot p (j + 1)) j (some (bs (j + 1))) = pRot p (j + 1 + 1) := by
        funext g
        unfold va_up pRot
        by_cases c1 : g = j
        · subst c1
          rw [if_pos rfl, if_pos (by omega)]
          exact (h1 (g + 1) (by omega)).1.symm
        · rw [if_neg c1]
          by_cases c2 : g + 1 < j + 1
          · rw [if_pos c2, if_pos (by omega)]
          · rw [if_neg c2, if_neg (by omega)]
      rw [e]
  have e1 : pRot p 1 = p := by
    funext g
    unfold pRot
    rw [if_neg (by omega)]
  have l0 := loop _ 1 rfl (by omega) (by omega)
  rw [e1] at l0
  have hv : zO (bs 0) 2 := (zCt_28 (h1 0 (by omega)).2).1
  have i0 : vp_in (0 : Int32) 4 := vp_in_nI (n := 0) (by omega) (by omega)
  have i3 : vp_in (3 : Int32) 4 := vp_in_nI (n := 3) (by omega) (by omega)
  simp only [u25_0, u25_1, u25_4, u25_5, u25_6, u25_7, u25_8, a1, a2, a3, a4, zRef_some, zRV_27, i0, true_and, show (0 : Int32).toNatClampNeg = 0 from rfl, (h1 0 (by omega)).1]
  rw [show (1 : Int32) = nI 1 from rfl, l0, u25_9, u25_10, u25_11, ← show nI 4 = (4 : Int32) from rfl, if_pos (Int32.le_refl _)]
  simp only [u25_34, u25_35, u25_38, u25_39, u25_40, u25_41, u25_42, u25_43, u25_46, a1, a2, a3, a4, zRef_some, i3, hv, show (3 : Int32).toNatClampNeg = 3 from rfl]
theorem c_record {hs : List CS} {v : Value} (hc : isCt iv 2 cs) (hH : isH iv p hs) : ∃ iv2 p2, isH iv2 p2 (hRec hs cs) ∧ (∀ c, c < 26 ∨ 76 ≤ c → iv2 c = iv c) ∧ ∀ (Q : Option Value → zA → Prop), Q none (zst p2 iv2) → zEv sc 26 0 [.ref 26, .ref 2] [] (zst p iv) Q := by
  obtain ⟨a1, a2, a3, a4⟩ := z26
  obtain ⟨h1, h2, bs, h3, h4, h5⟩ := hH
  -- from the copying on: hs2 (at most 3) in the first places
  have key : ∀ (iv1 : Nat → Nat → Int32) (p1 : Nat → Option Nat) (bs1 : Nat → Nat) (hs1 : List CS), hs1.length < 4 → iv1 26 0 = nI hs1.length → (∀ j, j < 4 → p1 j = some (bs1 j) ∧ (bs1 j = 28 ∨ bs1 j = 40 ∨ bs1 j = 52 ∨ bs1 j = 64)) → (∀ i j, i < 4 → j < 4 → bs1 i = bs1 j → i = j) → (∀ j (c : CS), hs1[j]? = some c → isCt iv1 (bs1 j) c) → isCt iv1 2 cs → ∃ iv2, isH iv2 p1 (hs1 ++ [cs]) ∧ (∀ c, c < 26 ∨ 76 ≤ c → iv2 c = iv1 c) ∧ ∀ (Q : Option Value → zA → Prop), zEv sc 26 12 [.ref 26, .ref 2] [] (zst p1 iv1) Q ↔ Q none (zst p1 iv2) := by
    intro iv1 p1 bs1 hs1 g1 g2 g3 g4 g5 g6
    have hb := g3 hs1.length g1
    have hz := zCt_28 hb.2
    obtain ⟨iv2, q1, q2, q3⟩ := c_copyCt (sc := sc) (p := p1) (v := .null) hz zCt_2 (by omega) g6
    refine ⟨w2 iv2 26 0 (nI (hs1.length + 1)), ⟨by rw [List.length_append]; simp; omega, by rw [w2_eq, List.length_append]; rfl, bs1, g3, g4, fun j c hj => ?_⟩, fun c hc => by rw [w2_c (by omega), q2 c (by omega)], fun Q => ?_⟩
    · have hlt : j < (hs1 ++ [cs]).length := (List.getElem?_eq_some_iff.mp hj).1
      rw [List.length_append] at hlt
      simp at hlt
      by_cases e : j = hs1.length
      · subst e
        rw [List.getElem?_append_right (Nat.le_refl _), Nat.sub_self] at hj
        cases hj
        exact q1.keep (fun x e1 e2 => w2_c (by omega))
      · rw [List.getElem?_append_left (by omega)] at hj
        have hne : bs1 j ≠ bs1 hs1.length := fun z => e (g4 j hs1.length (by omega) (by omega) z)
        have h6 := (g3 j (by omega)).2
        have h7 := hb.2
        exact (g5 j c hj).keep (fun x e1 e2 => by rw [w2_c (by omega), q2 x (by omega)])
    · simp only [u26_12, u26_13, u26_16, u26_17, u26_20, u26_21, u26_22, u26_25, u26_26, u26_27, u26_30, u26_31, u26_32, u26_35, a1, a2, a3, a4, zRef_some, g2, nI_clamp (show hs1.length < 2 ^ 31 by omega), vp_in_nI (show hs1.length < 4 by omega) (by omega), true_and, zRV_27, hb.1, hz.1, q3, Option.toList_some, Option.toList_none, List.cons_append, List.nil_append, zRef_some, true_and, and_true, true_or, or_true, i10, i01, q2 26 (by omega), nI_1]
  by_cases e : hs.length = 4
  · have e2 : (hs.drop 1).length = 3 := by rw [List.length_drop]; omega
    have gp : ∀ j, j < 4 → (va_up (pRot p 4) 3 (p 0)) j = some (if j < 3 then bs (j + 1) else bs 0) := by
      intro j hj
      unfold va_up pRot
      by_cases c1 : j = 3
      · subst c1
        rw [if_pos rfl, if_neg (by omega)]
        exact (h3 0 (by omega)).1
      · rw [if_neg c1, if_pos (by omega), if_pos (by omega)]
        exact (h3 (j + 1) (by omega)).1
    obtain ⟨iv2, q1, q2, q3⟩ := key (w2 iv 26 0 3) (va_up (pRot p 4) 3 (p 0)) (fun j => if j < 3 then bs (j + 1) else bs 0) (hs.drop 1) (by omega) (by rw [w2_eq, e2]; rfl) (fun j hj => ⟨gp j hj, by
        try dsimp only
        split
        · exact (h3 (j + 1) (by omega)).2
        · exact (h3 0 (by omega)).2⟩) (fun i j hi hj hij => by
        try dsimp only at hij
        split at hij
        · split at hij
          · have := h4 _ _ (by omega) (by omega) hij; omega
          · have := h4 _ _ (by omega) (by omega) hij; omega
        · split at hij
          · have := h4 _ _ (by omega) (by omega) hij; omega
          · omega) (fun j c hj => by
        rw [List.getElem?_drop] at hj
        have hlt : 1 + j < hs.length := (List.getElem?_eq_some_iff.mp hj).1
        rw [if_pos (by omega), show j + 1 = 1 + j by omega]
        have := (h3 (1 + j) (by omega)).2
        exact (h5 _ c hj).keep (fun x e1 e2 => w2_c (by omega))) (hc.keep (fun x e1 e2 => w2_c (by omega)))
    refine ⟨iv2, _, by unfold hRec; rw [if_pos e]; exact q1, fun c hc => by rw [q2 c hc, w2_c (by omega)], fun Q hQ => ?_⟩
    simp only [u26_0, u26_1, u26_4, u26_5, u26_8, u26_9, a1, h2, e, c_dropOldest h3, Option.toList_some, Option.toList_none, List.cons_append, List.nil_append, zRef_some, true_and, and_true, true_or, or_true, i10, i01]
    rw [show nI 4 = (4 : Int32) from rfl, if_neg (by decide)]
    exact (q3 Q).mpr hQ
  · obtain ⟨iv2, q1, q2, q3⟩ := key iv p bs hs (by omega) h2 h3 h4 h5 hc
    refine ⟨iv2, p, by unfold hRec; rw [if_neg e]; exact q1, q2, fun Q hQ => ?_⟩
    simp only [u26_0, u26_1, u26_4, u26_5, u26_8, u26_9, a1, h2]
    rw [← show nI 4 = (4 : Int32) from rfl, if_pos (by rw [nI_ltI (by omega) (by omega)]; omega)]
    exact (q3 Q).mpr hQ
theorem c_restore {hs : List CS} (hH : isH iv p (hs ++ [cs])) : ∃ iv2, isCt iv2 2 cs ∧ isH iv2 p hs ∧ (∀ c, (c < 2 ∨ 14 ≤ c) → c ≠ 26 → iv2 c = iv c) ∧ ∀ (Q : Option Value → zA → Prop), zEv sc 27 0 [.ref 26, .ref 2] [] (zst p iv) Q ↔ Q none (zst p iv2) := by
  obtain ⟨a1, a2, a3, a4⟩ := z26
  obtain ⟨h1, h2, bs, h3, h4, h5⟩ := hH
  rw [List.length_append] at h1 h2
  simp only [List.length_cons, List.length_nil, Nat.zero_add] at h1 h2
  have hb := h3 hs.length (by omega)
  have hz := zCt_28 hb.2
  have hl : isCt iv (bs hs.length) cs := h5 hs.length cs (by rw [List.getElem?_append_right (Nat.le_refl _), Nat.sub_self]; rfl)
  have hl2 : isCt (w2 iv 26 0 (nI hs.length)) (bs hs.length) cs := hl.keep (fun x e1 e2 => w2_c (by omega))
  obtain ⟨iv2, q1, q2, q3⟩ := c_copyCt (sc := sc) (p := p) (v := .null) zCt_2 hz (by omega) hl2
  refine ⟨iv2, q1, ⟨by omega, by rw [q2 26 (by omega), w2_eq], bs, h3, h4, fun j c hj => ?_⟩, fun c hc hn => by rw [q2 c (by omega), w2_c hn], fun Q => ?_⟩
  · have hlt : j < hs.length := (List.getElem?_eq_some_iff.mp hj).1
    have := (h3 j (by omega)).2
    exact (h5 j c (by rw [List.getElem?_append_left hlt]; exact hj)).keep (fun x e1 e2 => by rw [q2 x (by omega), w2_c (by omega)])
  · simp only [u27_0, u27_1 a1, h2]
    rw [u27_4, if_neg (nI_nle (by omega) (by omega))]
    simp only [u27_7, u27_8, u27_9, u27_12, u27_13, u27_14, u27_17, u27_18, u27_19, u27_22, u27_23, u27_26, u27_27, u27_30, a1, a2, a3, a4, zRef_some, h2, nI_pred, w2_eq, nI_clamp (show hs.length < 2 ^ 31 by omega), vp_in_nI (show hs.length < 4 by omega) (by omega), true_and, zRV_27, hb.1, zCt_2.1, q3, Option.toList_some, Option.toList_none, List.cons_append, List.nil_append, zRef_some, true_and, and_true, true_or, or_true, i10, i01]
end ZCT
