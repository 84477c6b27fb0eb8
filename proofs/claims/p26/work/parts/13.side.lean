/-! ===== FieldMixtures$Side, $Contest, $History ===== -/
def iI (z : Int) : Int32 := Int32.ofInt z
theorem iI_add (a b : Int) : iI a + iI b = iI (a + b) := (Int32.ofInt_add a b).symm
theorem iI_mul (a b : Int) : iI a * iI b = iI (a * b) := (Int32.ofInt_mul a b).symm
theorem iI_neg (a : Int) : -iI a = iI (-a) := (Int32.ofInt_neg a).symm
theorem iI_sub (a b : Int) : iI a - iI b = iI (a - b) := (Int32.ofInt_sub a b).symm
theorem nI_iI (n : Nat) : nI n = iI (n : Int) := (Int32.ofInt_eq_ofNat).symm
theorem n_d10 {a : Nat} (h : a < 2 ^ 31) : nI a / 10 = nI (a / 10) := pk_div (d := 10) h (by omega) (by omega)
theorem n_r10 {a : Nat} (h : a < 2 ^ 31) : nI a - nI (a / 10) * 10 = nI (a % 10) := by
  have := pk_rem h (show 0 < 10 by omega) (show 10 < 2 ^ 31 by omega)
  rw [pk_div h (show 0 < 10 by omega) (show 10 < 2 ^ 31 by omega)] at this
  exact this
theorem n10_0 : ((10 : Int32) = 0) = False := by simp
theorem n_sub1 (n : Nat) : nI n + -1 = nI n - 1 := by rw [Int32.sub_eq_add_neg]
/-- the digits of an allocation, from the last field on: each within its bound, all of the resources together -/
def alw : Nat → (Nat → Nat) → Nat → Nat → Bool
  | 0, _, d, left => decide (left = 0 ∧ d = 0)
  | k + 1, b, d, left => if b k < d % 10 ∨ left < d % 10 then false else alw k b (d / 10) (left - d % 10)
def alwI (n : Nat) (b : Nat → Nat) (r : Nat) (x : Int32) : Bool := decide (0 ≤ x) && alw n b x.toNatClampNeg r
theorem alwI_n {n r j : Nat} {b : Nat → Nat} (h : j < 2 ^ 31) : alwI n b r (nI j) = alw n b j r := by
  unfold alwI
  simp only [nI_clamp h, decide_eq_true (nI_pos' h), Bool.true_and]
theorem alwI_neg {n r : Nat} {b : Nat → Nat} {x : Int32} (h : x < 0) : alwI n b r x = false := by
  have hz : ¬ 0 ≤ x := by
    rw [Int32.le_iff_toInt_le]
    rw [Int32.lt_iff_toInt_lt] at h
    omega
  unfold alwI
  simp only [decide_eq_false hz, Bool.false_and]
def isSd (iv : Nat → Nat → Int32) (s r : Nat) (b : Nat → Nat) (l : List (Nat × Nat)) : Prop := iv s 0 = nI r ∧ (∀ f, f < 4 → iv (s + 1) f = nI (b f)) ∧ isMix iv (s + 2) l
theorem isSd.keep {iv iv2 : Nat → Nat → Int32} {s r : Nat} {b : Nat → Nat} {l : List (Nat × Nat)} (h : isSd iv s r b l) (e : ∀ c, s ≤ c → c < s + 5 → iv2 c = iv c) : isSd iv2 s r b l :=
  ⟨by rw [e s (by omega) (by omega)]; exact h.1, fun f hf => by rw [e (s + 1) (by omega) (by omega)]; exact h.2.1 f hf, h.2.2.keep (fun c h1 h2 => e c (by omega) (by omega))⟩
abbrev CS : Type := Nat × Nat × (Nat → Nat) × (Nat → Nat) × (Nat → Nat → Nat) × (Nat → List (Nat × Nat))
def cN (c : CS) : Nat := c.1
def cT (c : CS) : Nat := c.2.1
def cV (c : CS) : Nat → Nat := c.2.2.1
def cR (c : CS) : Nat → Nat := c.2.2.2.1
def cB (c : CS) : Nat → Nat → Nat := c.2.2.2.2.1
def cM (c : CS) : Nat → List (Nat × Nat) := c.2.2.2.2.2
def isCt (iv : Nat → Nat → Int32) (b : Nat) (c : CS) : Prop := iv b 0 = nI (cN c) ∧ iv b 1 = nI (cT c) ∧ (∀ f, f < 4 → iv (b + 1) f = nI (cV c f)) ∧ isSd iv (b + 2) (cR c 0) (cB c 0) (cM c 0) ∧ isSd iv (b + 7) (cR c 1) (cB c 1) (cM c 1)
theorem isCt.keep {iv iv2 : Nat → Nat → Int32} {b : Nat} {c : CS} (h : isCt iv b c) (e : ∀ x, b ≤ x → x < b + 12 → iv2 x = iv x) : isCt iv2 b c :=
  ⟨by rw [e b (by omega) (by omega)]; exact h.1, by rw [e b (by omega) (by omega)]; exact h.2.1, fun f hf => by rw [e (b + 1) (by omega) (by omega)]; exact h.2.2.1 f hf, h.2.2.2.1.keep (fun x h1 h2 => e x (by omega) (by omega)), h.2.2.2.2.keep (fun x h1 h2 => e x (by omega) (by omega))⟩
section ZSIDE
variable {sc : Nat × (Nat → Int32)} {Q : Option Value → zA → Prop} {h : zA} {p : Nat → Option Nat} {iv : Nat → Nat → Int32} {s r n : Nat} {b : Nat → Nat} {l : List (Nat × Nat)} {x lo hi : Int32}
theorem c_allows {v1 v2 v3 v4 : Value} (hs : zSd s) (hn : n ≤ 4) (h1 : iv s 0 = nI r) (h2 : ∀ f, f < 4 → iv (s + 1) f = nI (b f)) (hr : r < 100) (hb : ∀ f, f < 4 → b f < 100) : zEv sc 1 0 [.ref s, .int x, .int (nI n), v1, v2, v3, v4] [] (zst p iv) Q ↔ Q (some (.int (zb (alwI n b r x)))) (zst p iv) := by
  obtain ⟨o1, o2, o3, o4, -⟩ := id hs
  by_cases hx : x < 0
  · rw [alwI_neg hx, u1_0, u1_1, if_neg (by rw [Int32.le_iff_toInt_le]; rw [Int32.lt_iff_toInt_lt] at hx; omega)]
    simp only [u1_4, u1_5, Option.toList_some, Option.toList_none, List.cons_append, List.nil_append, zRef_some, true_and, and_true, true_or, or_true, i10, i01, zb_f]
  · obtain ⟨j, hj, rfl⟩ := nI_of hx
    rw [alwI_n hj]
    have loop : ∀ (k d left : Nat) (v : Value), k ≤ n → d < 2 ^ 31 → left < 100 → (zEv sc 1 19 [.ref s, .int (nI j), .int (nI n), .int (nI d), .int (nI left), .int (nI k - 1), v] [] (zst p iv) Q ↔ Q (some (.int (zb (alw k b d left)))) (zst p iv)) := by
      intro k
      induction k with
      | zero =>
        intro d left v hk hd hl
        rw [u1_19, u1_21, if_pos (by decide)]
        simp only [u1_69, u1_71, u1_74, u1_75, u1_78, u1_79, u1_83, u1_82, Option.toList_some, Option.toList_none, List.cons_append, List.nil_append, zRef_some, true_and, and_true, true_or, or_true, i10, i01, ← nI_0, nI_eq (show left < 2 ^ 31 by omega) (show 0 < 2 ^ 31 by omega), nI_eq hd (show 0 < 2 ^ 31 by omega)]
        unfold alw
        by_cases e1 : left = 0
        · by_cases e2 : d = 0
          · rw [if_neg (fun z => z e1), if_neg (fun z => z e2), decide_eq_true ⟨e1, e2⟩]
            simp [zb]
          · rw [if_neg (fun z => z e1), if_pos e2, decide_eq_false (fun z => e2 z.2)]
            simp [zb, nI_0]
        · rw [if_pos e1, decide_eq_false (fun z => e1 z.1)]
          simp [zb, nI_0]
      | succ k ih =>
        intro d left v hk hd hl
        have hbk := hb k (by omega)
        rw [u1_19, u1_21, nI_pred, if_neg (nI_pos (by omega))]
        simp only [u1_24, u1_25, u1_27, u1_28, u1_30, u1_32, u1_33, u1_36, u1_38, u1_39, u1_42, u1_44, u1_46, u1_51, u1_53, u1_55, u1_56, u1_58, u1_59, u1_61, u1_62, u1_63, u1_66, u1_49, u1_50, o1, o2, o3, o4, zRef_some, n10_0, not_false_eq_true, true_and, n_d10 hd, n_r10 hd, nI_clamp (show k < 2 ^ 31 by omega), vp_in_nI (show k < 4 by omega) (by omega), h2 k (by omega), nI_ltI (show b k < 2 ^ 31 by omega) (show d % 10 < 2 ^ 31 by omega), nI_leI (show d % 10 < 2 ^ 31 by omega) (show left < 2 ^ 31 by omega)]
        unfold alw
        by_cases e1 : b k < d % 10
        · rw [if_pos e1, if_pos (Or.inl e1)]
          simp only [u1_49, u1_50, Option.toList_some, Option.toList_none, List.cons_append, List.nil_append, zRef_some, true_and, and_true, true_or, or_true, i10, i01, zb_f]
        · by_cases e2 : left < d % 10
          · rw [if_neg e1, if_neg (by omega), if_pos (Or.inr e2)]
            simp only [Option.toList_some, Option.toList_none, List.cons_append, List.nil_append, zRef_some, true_and, and_true, true_or, or_true, i10, i01, zb_f]
          · rw [if_neg e1, if_pos (by omega), if_neg (by omega), pk_sub (by omega), n_sub1]
            exact ih _ _ _ (by omega) (by omega) (by omega)
    have l0 := loop n j r v4 (Nat.le_refl _) hj hr
    rw [u1_0, u1_1, if_pos (nI_pos' hj)]
    simp only [u1_6, u1_7, u1_8, u1_9, u1_12, u1_14, u1_15, u1_16, u1_17, o1, h1]
    exact l0
theorem c_resetBounds (hs : zSd s) {v : Value} : zEv sc 8 0 [.ref s, v] [] (zst p iv) Q ↔ Q none (zst p (fun c g => if c = s + 1 ∧ g < 4 then 8 else iv c g)) := by
  obtain ⟨o1, o2, o3, o4, -⟩ := id hs
  have loop : ∀ d k, 4 - k = d → k ≤ 4 → (zEv sc 8 2 [.ref s, .int (nI k)] [] (zst p (fun c g => if c = s + 1 ∧ g < k then 8 else iv c g)) Q ↔ Q none (zst p (fun c g => if c = s + 1 ∧ g < 4 then 8 else iv c g))) := by
    intro d
    induction d with
    | zero =>
      intro k hd hk
      have : k = 4 := by omega
      subst this
      simp only [u8_0, u8_1, u8_2, u8_3, u8_4, u8_7, u8_8, u8_11, u8_12, u8_14, u8_15, u8_18, u8_21, show nI 4 = (4 : Int32) from rfl, Int32.le_refl, if_true]
    | succ d ih =>
      intro k hd hk
      rw [u8_2, u8_3, u8_4, ← show nI 4 = (4 : Int32) from rfl, if_neg (by rw [nI_leI (by omega) (by omega)]; omega)]
      simp only [u8_7, u8_8, u8_11, u8_12, u8_14, u8_15, u8_18, o1, o2, o3, o4, zRef_some, nI_clamp (show k < 2 ^ 31 by omega), vp_in_nI (show k < 4 by omega) (by omega), true_and, nI_1]
      have e : w2 (fun c g => if c = s + 1 ∧ g < k then (8 : Int32) else iv c g) (s + 1) k 8 = fun c g => if c = s + 1 ∧ g < k + 1 then 8 else iv c g := by
        funext c g
        simp only [w2_at]
        repeat' split
        all_goals first | rfl | (exfalso; omega) | (congr 2 <;> omega) | (congr 1 <;> omega)
      rw [e]
      exact ih (k + 1) (by omega) (by omega)
  have l0 := loop _ 0 rfl (Nat.zero_le _)
  rw [nI_0, show (fun c g => if c = s + 1 ∧ g < 0 then (8 : Int32) else iv c g) = iv from by funext c g; rw [if_neg (by omega)]] at l0
  simp only [u8_0, u8_1]
  exact l0
theorem c_copySide {o : Nat} {v : Value} (hs : zSd s) (ho : zSd o) (hd : s + 5 ≤ o ∨ o + 5 ≤ s) (hl : isSd iv o r b l) : ∃ iv2, isSd iv2 s r b l ∧ (∀ c, c < s ∨ s + 5 ≤ c → iv2 c = iv c) ∧ ∀ (Q : Option Value → zA → Prop), zEv sc 12 0 [.ref s, .ref o, v] [] (zst p iv) Q ↔ Q none (zst p iv2) := by
  obtain ⟨o1, o2, o3, o4, o5, o6⟩ := id hs
  obtain ⟨q1, q2, q3, q4, q5, q6⟩ := id ho
  have loop : ∀ Q d k, 4 - k = d → k ≤ 4 → (zEv sc 12 10 [.ref s, .ref o, .int (nI k)] [] (zst p (fun c g => if c = s ∧ g = 0 then iv o 0 else if c = s + 1 ∧ g < k then iv (o + 1) g else iv c g)) Q ↔ zEv sc 12 10 [.ref s, .ref o, .int (nI 4)] [] (zst p (fun c g => if c = s ∧ g = 0 then iv o 0 else if c = s + 1 ∧ g < 4 then iv (o + 1) g else iv c g)) Q) := by
    intro Q d
    induction d with
    | zero =>
      intro k hd hk
      have : k = 4 := by omega
      subst this
      exact Iff.rfl
    | succ d ih =>
      intro k hd hk
      rw [u12_10, u12_11, u12_12, ← show nI 4 = (4 : Int32) from rfl, if_neg (by rw [nI_leI (by omega) (by omega)]; omega)]
      simp only [u12_15, u12_16, u12_19, u12_20, u12_21, u12_24, u12_25, u12_26, u12_27, u12_30, o1, o2, o3, o4, q1, q2, q3, q4, zRef_some, nI_clamp (show k < 2 ^ 31 by omega), vp_in_nI (show k < 4 by omega) (by omega), true_and, nI_1]
      rw [← ih (k + 1) (by omega) (by omega)]
      have e : w2 (fun c g => if c = s ∧ g = 0 then iv o 0 else if c = s + 1 ∧ g < k then iv (o + 1) g else iv c g) (s + 1) k (if o + 1 = s ∧ k = 0 then iv o 0 else if o + 1 = s + 1 ∧ k < k then iv (o + 1) k else iv (o + 1) k) = fun c g => if c = s ∧ g = 0 then iv o 0 else if c = s + 1 ∧ g < k + 1 then iv (o + 1) g else iv c g := by
        funext c g
        simp only [w2_at]
        repeat' split
        all_goals first | rfl | (exfalso; omega) | (congr 2 <;> omega) | (congr 1 <;> omega)
      rw [e]
  have e0 : (fun c g => if c = s ∧ g = 0 then iv o 0 else if c = s + 1 ∧ g < 0 then iv (o + 1) g else iv c g) = w2 iv s 0 (iv o 0) := by
    funext c g
    simp only [w2_at]
    repeat' split
    all_goals first | rfl | (exfalso; omega) | (congr 2 <;> omega) | (congr 1 <;> omega)
  obtain ⟨iv1, hiv1⟩ : ∃ z, z = fun c g => if c = s ∧ g = 0 then iv o 0 else if c = s + 1 ∧ g < 4 then iv (o + 1) g else iv c g := ⟨_, rfl⟩
  have f1 : ∀ c, c ≠ s → c ≠ s + 1 → iv1 c = iv c := by
    intro c h1 h2
    rw [hiv1]
    funext g
    dsimp only
    rw [if_neg (by omega), if_neg (by omega)]
  have hmix : isMix iv1 (o + 2) l := hl.2.2.keep (fun c h1 h2 => f1 c (by omega) (by omega))
  refine ⟨gCp iv1 (s + 2) (o + 2) 12, ⟨?_, fun f hf => ?_, gCp_mix (by omega) hmix⟩, fun c hc => ?_, fun Q => ?_⟩
  · rw [gCp_out s (by omega), hiv1]
    dsimp only
    rw [if_pos ⟨rfl, rfl⟩]
    exact hl.1
  · rw [gCp_out (s + 1) (by omega), hiv1]
    dsimp only
    rw [if_neg (by omega), if_pos ⟨rfl, hf⟩]
    exact hl.2.1 f hf
  · rw [gCp_out c (by omega), f1 c (by omega) (by omega)]
  · have l0 := loop Q _ 0 rfl (Nat.zero_le _)
    rw [e0, nI_0, ← hiv1] at l0
    simp only [u12_0, u12_1, u12_2, u12_5, u12_8, u12_9, o1, q1]
    rw [l0, u12_10, u12_11, u12_12, ← show nI 4 = (4 : Int32) from rfl, if_pos (Int32.le_refl _)]
    simp only [u12_33, u12_34, u12_37, u12_38, u12_41, u12_44, o1, o5, q1, q5, o6.1, zRef_some, c_copyMix o6 q6 (show s + 2 + 3 ≤ o + 2 ∨ o + 2 + 3 ≤ s + 2 by omega), Option.toList_some, Option.toList_none, List.cons_append, List.nil_append, zRef_some, true_and, and_true, true_or, or_true, i10, i01]
/-- what is left of a mixture -/
def drL (n : Nat) (b : Nat → Nat) (r : Nat) (l : List (Nat × Nat)) : List (Nat × Nat) := l.filter (fun e => alw n b e.1 r)
def drI (n : Nat) (b : Nat → Nat) (r : Nat) (l : List (Nat × Nat)) (i : Nat) : List (Nat × Nat) := l.take i ++ drL n b r (l.drop i)
theorem drI_at {i : Nat} (h : i < l.length) : drI n b r l (i + 1) = l.take i ++ (mA l i, mW l i) :: drL n b r (l.drop (i + 1)) := by
  unfold drI mA mW
  rw [List.take_succ_eq_append_getElem h, List.getD_eq_getElem?_getD, List.getElem?_eq_getElem h, List.append_assoc]
  rfl
theorem drI_ok {i : Nat} (h : i < l.length) (e : alw n b (mA l i) r = true) : drI n b r l (i + 1) = drI n b r l i := by
  rw [drI_at h]
  unfold drI drL
  rw [List.drop_eq_getElem_cons h, List.filter_cons]
  have e1 : l[i] = (mA l i, mW l i) := by
    unfold mA mW
    rw [List.getD_eq_getElem?_getD, List.getElem?_eq_getElem h]
    rfl
  rw [e1, if_pos e]
theorem drI_no {i : Nat} (h : i < l.length) (e : ¬ alw n b (mA l i) r = true) : (drI n b r l (i + 1)).eraseIdx i = drI n b r l i := by
  rw [drI_at h]
  have hl : (l.take i).length = i := by rw [List.length_take]; omega
  rw [List.eraseIdx_append_of_length_le (by omega), hl, Nat.sub_self, List.eraseIdx_zero, List.tail_cons]
  unfold drI drL
  rw [List.drop_eq_getElem_cons h, List.filter_cons]
  have e1 : l[i] = (mA l i, mW l i) := by
    unfold mA mW
    rw [List.getD_eq_getElem?_getD, List.getElem?_eq_getElem h]
    rfl
  rw [e1, if_neg e]
theorem drI_len {i : Nat} (h : i < l.length) : i < (drI n b r l (i + 1)).length ∧ mA (drI n b r l (i + 1)) i = mA l i := by
  rw [drI_at h]
  have hl : (l.take i).length = i := by rw [List.length_take]; omega
  refine ⟨by rw [List.length_append, List.length_cons]; omega, ?_⟩
  rw [show mA (l.take i ++ (mA l i, mW l i) :: drL n b r (l.drop (i + 1))) i = ((l.take i ++ (mA l i, mW l i) :: drL n b r (l.drop (i + 1))).getD i (0, 0)).1 from rfl, List.getD_eq_getElem?_getD, List.getElem?_append_right (by omega), hl, Nat.sub_self]
  rfl
theorem c_drop {v : Value} (hs : zSd s) (hn : n ≤ 4) (hl : isSd iv s r b l) (hr : r < 100) (hb : ∀ f, f < 4 → b f < 100) : ∃ iv2, isSd iv2 s r b (drL n b r l) ∧ (∀ c, c < s ∨ s + 5 ≤ c → iv2 c = iv c) ∧ ∀ (Q : Option Value → zA → Prop), Q none (zst p iv2) → zEv sc 41 0 [.ref s, .int (nI n), v] [] (zst p iv) Q := by
  obtain ⟨o1, o2, o3, o4, o5, o6⟩ := id hs
  have hlen := hl.2.2.1.1
  have loop := z_loopD (σ := Nat → Nat → Int32) (fun i iv2 Q => zEv sc 41 10 [.ref s, .int (nI n), .int (nI i - 1)] [] (zst p iv2) Q) (fun i iv2 => i ≤ l.length ∧ isSd iv2 s r b (drI n b r l i) ∧ ∀ c, c < s ∨ s + 5 ≤ c → iv2 c = iv c) (by
    intro i iv1 ⟨h1, h2, h3⟩
    have hi : i < l.length := by omega
    obtain ⟨g1, g2⟩ := drI_len (n := n) (b := b) (r := r) hi
    have hmx := h2.2.2
    have hx := mA_lt hl.2.2.1 hi
    have ha : ∀ Q, zEv sc 41 10 [.ref s, .int (nI n), .int (nI (i + 1) - 1)] [] (zst p iv1) Q ↔ (if ¬ zb (alw n b (mA l i) r) = 0 then zEv sc 41 47 [.ref s, .int (nI n), .int (nI i)] [] (zst p iv1) Q else zEv sc 41 31 [.ref s, .int (nI n), .int (nI i)] [] (zst p iv1) Q) := by
      intro Q
      rw [u41_10, u41_11, nI_pred, if_neg (nI_pos (by omega))]
      simp only [u41_14, u41_15, u41_16, u41_19, u41_22, u41_23, u41_24, u41_25, u41_28, o1, o2, o3, o4, o5, o6.1, o6.2.1, o6.2.2.2.1, o6.2.2.2.2.2.1, zRef_some, nI_clamp (show i < 2 ^ 31 by omega), vp_in_nI (show i < 12 by omega) (by omega), true_and, (hmx.2.2 i g1).1, g2, c_allows hs hn h2.1 h2.2.1 hr hb, alwI_n (show mA l i < 2 ^ 31 by omega), Option.toList_some, Option.toList_none, List.cons_append, List.nil_append, zRef_some, true_and, and_true, true_or, or_true, i10, i01]
    by_cases e : alw n b (mA l i) r = true
    · refine ⟨iv1, ⟨by omega, by rw [← drI_ok hi e]; exact h2, h3⟩, fun Q hQ => (ha Q).mpr ?_⟩
      rw [e, if_pos (by decide), u41_47, u41_50, n_sub1]
      exact hQ
    · have g3 := mPl_self hmx.1 g1
      rw [g2] at g3
      obtain ⟨iv2, q1, q2, q3⟩ := c_remove (sc := sc) (p := p) o6 hmx hx g3.2
      rw [g3.1, drI_no hi e] at q1
      refine ⟨iv2, ⟨by omega, ⟨by rw [q2 s (by omega)]; exact h2.1, fun f hf => by rw [q2 (s + 1) (by omega)]; exact h2.2.1 f hf, q1⟩, fun c hc => by rw [q2 c (by omega)]; exact h3 c hc⟩, fun Q hQ => (ha Q).mpr ?_⟩
      rw [Bool.not_eq_true] at e
      rw [e, if_neg (by decide)]
      simp only [u41_31, u41_32, u41_35, u41_36, u41_39, u41_42, u41_43, u41_44, u41_47, u41_50, o1, o5, o6.1, o6.2.1, o6.2.2.2.1, o6.2.2.2.2.2.1, zRef_some, nI_clamp (show i < 2 ^ 31 by omega), vp_in_nI (show i < 12 by omega) (by omega), true_and, (hmx.2.2 i g1).1, g2, q3, Option.toList_some, Option.toList_none, List.cons_append, List.nil_append, zRef_some, true_and, and_true, true_or, or_true, i10, i01, n_sub1]
      exact hQ)
  have e0 : drI n b r l l.length = l := by
    unfold drI drL
    rw [List.take_length, List.drop_length]
    simp
  obtain ⟨iv2, ⟨-, h2, h3⟩, h4⟩ := loop l.length iv ⟨Nat.le_refl _, by rw [e0]; exact hl, fun c hc => rfl⟩
  refine ⟨iv2, ?_, h3, fun Q hQ => ?_⟩
  · have e1 : drI n b r l 0 = drL n b r l := by unfold drI; simp
    rw [← e1]; exact h2
  · have h5 := h4 Q (by
      rw [u41_10, u41_11, if_pos (by decide)]
      simp only [u41_53]
      exact hQ)
    simp only [u41_0, u41_1, u41_4, u41_7, u41_8, u41_9, o1, o5, o6.1, zRef_some, hl.2.2.2.1]
    exact h5
end ZSIDE
