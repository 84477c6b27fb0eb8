/-! ===== FieldMixtures$Text, $TextReader ===== -/
def chr (t : List Nat) (i : Nat) : Nat := t.getD i 0
def isTx (iv : Nat → Nat → Int32) (t : List Nat) : Prop := iv 88 0 = nI t.length ∧ t.length ≤ 80 ∧ ∀ k, k < t.length → iv 89 k = nI (chr t k) ∧ 32 ≤ chr t k ∧ chr t k ≤ 126
theorem isTx.keep {iv iv2 : Nat → Nat → Int32} {t : List Nat} (h : isTx iv t) (e : ∀ c, 88 ≤ c → c < 90 → iv2 c = iv c) : isTx iv2 t :=
  ⟨by rw [e 88 (by omega) (by omega)]; exact h.1, h.2.1, fun k hk => by rw [e 89 (by omega) (by omega)]; exact h.2.2 k hk⟩
theorem chr_out {t : List Nat} {i : Nat} (h : t.length ≤ i) : chr t i = 0 := by
  unfold chr
  rw [List.getD_eq_getElem?_getD, List.getElem?_eq_none h]
  rfl
theorem chr_le {iv : Nat → Nat → Int32} {t : List Nat} (h : isTx iv t) (i : Nat) : chr t i ≤ 126 := by
  by_cases hi : i < t.length
  · exact (h.2.2 i hi).2.2
  · rw [chr_out (by omega)]; omega
theorem chr_in {t : List Nat} {i : Nat} (h : chr t i ≠ 0) : i < t.length := by
  by_cases hi : i < t.length
  · exact hi
  · exact absurd (chr_out (by omega)) h
def isDg (c : Nat) : Bool := decide (48 ≤ c ∧ c ≤ 57)
def rdA (t : List Nat) : Nat → Nat → Nat → Bool × Nat × Nat
  | 0, i, acc => (true, i, acc)
  | k + 1, i, acc => if isDg (chr t i) then rdA t k (i + 1) (acc * 10 + (chr t i - 48)) else (false, i, acc)
def rdW (t : List Nat) (i : Nat) : Bool × Nat × Nat := if isDg (chr t i) then (if isDg (chr t (i + 1)) then (true, i + 2, (chr t i - 48) * 10 + (chr t (i + 1) - 48)) else (true, i + 1, chr t i - 48)) else (false, i, 0)
def frmW (t : List Nat) (j : Nat) : Bool × Nat × Nat := if chr t j = 42 then rdW t (j + 1) else (true, j, 1)
/-- a part's form: whether it is of it, where it ends or breaks off, player, allocation, weight -/
def frm (t : List Nat) (n i : Nat) : Bool × Nat × Nat × Nat × Nat :=
  if ¬ (chr t i = 48 ∨ chr t i = 49) then (false, i, 0, 0, 0)
  else if ¬ chr t (i + 1) = 58 then (false, i + 1, 0, 0, 0)
  else if (rdA t n (i + 2) 0).1 = false then (false, (rdA t n (i + 2) 0).2.1, 0, 0, 0)
  else if (frmW t (rdA t n (i + 2) 0).2.1).1 = false then (false, (frmW t (rdA t n (i + 2) 0).2.1).2.1, 0, 0, 0)
  else if chr t (frmW t (rdA t n (i + 2) 0).2.1).2.1 = 59 then (true, (frmW t (rdA t n (i + 2) 0).2.1).2.1 + 1, chr t i - 48, (rdA t n (i + 2) 0).2.2, (frmW t (rdA t n (i + 2) 0).2.1).2.2)
  else (false, (frmW t (rdA t n (i + 2) 0).2.1).2.1, 0, 0, 0)
theorem rdA_b (t : List Nat) : ∀ k i acc, (rdA t k i acc).2.1 ≤ i + k ∧ i ≤ (rdA t k i acc).2.1 ∧ (rdA t k i acc).2.2 < (acc + 1) * 10 ^ k := by
  intro k
  induction k with
  | zero => intro i acc; exact ⟨Nat.le_refl _, Nat.le_refl _, by show acc < _; rw [Nat.pow_zero, Nat.mul_one]; omega⟩
  | succ k ih =>
    intro i acc
    unfold rdA
    split
    next h =>
      have h := of_decide_eq_true h
      obtain ⟨h1, h2, h3⟩ := ih (i + 1) (acc * 10 + (chr t i - 48))
      refine ⟨by omega, by omega, Nat.lt_of_lt_of_le h3 ?_⟩
      rw [Nat.pow_succ, Nat.mul_comm (10 ^ k) 10, ← Nat.mul_assoc]
      exact Nat.mul_le_mul_right _ (by omega)
    next h =>
      refine ⟨by show i ≤ _; omega, Nat.le_refl _, ?_⟩
      show acc < _
      have : 1 ≤ 10 ^ (k + 1) := Nat.pos_of_ne_zero (by simp)
      exact Nat.lt_of_lt_of_le (Nat.lt_succ_self acc) (Nat.le_mul_of_pos_right _ this)
theorem rdW_b (t : List Nat) (i : Nat) : i ≤ (rdW t i).2.1 ∧ (rdW t i).2.1 ≤ i + 2 ∧ (rdW t i).2.2 ≤ 99 := by
  unfold rdW
  split
  next h =>
    have h := of_decide_eq_true h
    split
    next h2 =>
      have h2 := of_decide_eq_true h2
      exact ⟨by dsimp only; omega, by dsimp only; omega, by dsimp only; omega⟩
    next h2 => exact ⟨by dsimp only; omega, by dsimp only; omega, by dsimp only; omega⟩
  next h => exact ⟨by dsimp only; omega, by dsimp only; omega, by dsimp only; omega⟩
theorem frmW_b (t : List Nat) (j : Nat) : j ≤ (frmW t j).2.1 ∧ (frmW t j).2.1 ≤ j + 3 ∧ (frmW t j).2.2 ≤ 99 := by
  unfold frmW
  split
  · have := rdW_b t (j + 1)
    omega
  · exact ⟨by dsimp only; omega, by dsimp only; omega, by dsimp only; omega⟩
theorem frm_b (t : List Nat) (n i : Nat) (hn : n ≤ 4) : i ≤ (frm t n i).2.1 ∧ (frm t n i).2.1 ≤ i + 20 ∧ ((frm t n i).1 = true → i < (frm t n i).2.1 ∧ (frm t n i).2.1 ≤ t.length ∧ (frm t n i).2.2.1 < 2 ∧ (frm t n i).2.2.2.1 < 10000 ∧ (frm t n i).2.2.2.2 ≤ 99) := by
  obtain ⟨a1, a2, a3⟩ := rdA_b t n (i + 2) 0
  obtain ⟨b1, b2, b3⟩ := frmW_b t (rdA t n (i + 2) 0).2.1
  have a4 : (rdA t n (i + 2) 0).2.2 < 10000 := by
    rcases (show n = 0 ∨ n = 1 ∨ n = 2 ∨ n = 3 ∨ n = 4 by omega) with rfl | rfl | rfl | rfl | rfl <;> (refine Nat.lt_of_lt_of_le a3 ?_; decide)
  unfold frm
  split
  · exact ⟨by dsimp only; omega, by dsimp only; omega, fun z => by cases z⟩
  next h0 =>
    have h0 : chr t i = 48 ∨ chr t i = 49 := Decidable.of_not_not h0
    split
    · exact ⟨by dsimp only; omega, by dsimp only; omega, fun z => by cases z⟩
    · split
      · exact ⟨by dsimp only; omega, by dsimp only; omega, fun z => by cases z⟩
      · split
        · exact ⟨by dsimp only; omega, by dsimp only; omega, fun z => by cases z⟩
        · split
          next h1 =>
            have := chr_in (t := t) (i := (frmW t (rdA t n (i + 2) 0).2.1).2.1) (by rw [h1]; omega)
            exact ⟨by dsimp only; omega, by dsimp only; omega, fun _ => ⟨by dsimp only; omega, by dsimp only; omega, by dsimp only; omega, a4, b3⟩⟩
          · exact ⟨by dsimp only; omega, by dsimp only; omega, fun z => by cases z⟩
def setM (c : CS) (q : Nat) (l : List (Nat × Nat)) : CS := (cN c, cT c, cV c, cR c, cB c, fun z => if z = q then l else cM c z)
/-- one part: its reason, where it ends or breaks off, the contest behind it -/
def pSt (c : CS) (t : List Nat) (i : Nat) : Nat × Nat × CS :=
  if (frm t (cN c) i).1 = false then (1, (frm t (cN c) i).2.1, c)
  else if (frm t (cN c) i).2.2.2.2 = 0 ∨ alw (cN c) (cB c (frm t (cN c) i).2.2.1) (frm t (cN c) i).2.2.2.1 (cR c (frm t (cN c) i).2.2.1) = false then (2, (frm t (cN c) i).2.1, c)
  else if ¬ ((cM c (frm t (cN c) i).2.2.1).length < 12 ∨ mIn (cM c (frm t (cN c) i).2.2.1) (frm t (cN c) i).2.2.2.1 = true) then (3, (frm t (cN c) i).2.1, c)
  else (0, (frm t (cN c) i).2.1, setM c (frm t (cN c) i).2.2.1 (mSet (cM c (frm t (cN c) i).2.2.1) (frm t (cN c) i).2.2.2.1 (frm t (cN c) i).2.2.2.2))
/-- all parts up to the first that is not possible: reason, its position, where it breaks off, the contest -/
def pGo (t : List Nat) : Nat → CS → Nat → Nat × Nat × Nat × CS
  | 0, c, i => (0, i, i, c)
  | k + 1, c, i => if i < t.length then (if (pSt c t i).1 = 0 then pGo t k (pSt c t i).2.2 (pSt c t i).2.1 else ((pSt c t i).1, i, (pSt c t i).2.1, (pSt c t i).2.2)) else (0, i, i, c)
theorem setM_alw {c : CS} {q y w : Nat} (ho : cOk c) (hq : q < 2) (hm : mOk (cM c q)) (hy : y < 10000) (ha : alw (cN c) (cB c q) y (cR c q) = true) : cOk (setM c q (mSet (cM c q) y w)) := by
  refine ⟨ho.1, ho.2.1, ho.2.2.1, ho.2.2.2.1, fun z hz => ⟨(ho.2.2.2.2 z hz).1, (ho.2.2.2.2 z hz).2.1, fun k hk => ?_⟩⟩
  show alw (cN c) (cB c z) (mA (if z = q then mSet (cM c q) y w else cM c z) k) (cR c z) = true
  have hk : k < (if z = q then mSet (cM c q) y w else cM c z).length := hk
  by_cases e : z = q
  · subst e
    rw [if_pos rfl] at hk ⊢
    by_cases hi : mIn (cM c z) y = true
    · obtain ⟨e1, e2⟩ := mSet_in (w := w) hi
      rw [e1] at hk
      rw [(e2 k hk).1]
      exact (ho.2.2.2.2 z hz).2.2 k hk
    · obtain ⟨e1, e2⟩ := mSet_new (w := w) hi
      rw [e1] at hk
      have hp := mPl_le (cM c z) y
      rw [(e2 k).1]
      split
      · exact (ho.2.2.2.2 z hz).2.2 k (by omega)
      · split
        · exact ha
        · exact (ho.2.2.2.2 z hz).2.2 (k - 1) (by omega)
  · rw [if_neg e] at hk ⊢
    exact (ho.2.2.2.2 z hz).2.2 k hk
section ZTX
variable {sc : Nat × (Nat → Int32)} {Q : Option Value → zA → Prop} {h : zA} {p : Nat → Option Nat} {iv : Nat → Nat → Int32} {i n : Nat} {cs : CS} {t : List Nat}
theorem c_signAt (ht : isTx iv t) (hi : i < 1000) : zEv sc 45 0 [.ref 88, .int (nI i)] [] (zst p iv) Q ↔ Q (some (.int (nI (chr t i)))) (zst p iv) := by
  obtain ⟨o1, o2, o3, o4, o5⟩ := z88
  have hl := ht.2.1
  rw [u45_0, u45_1, if_neg (nI_pos (by omega))]
  simp only [u45_4, u45_5, u45_6, u45_9, o1, ht.1, nI_leI (show t.length < 2 ^ 31 by omega) (show i < 2 ^ 31 by omega)]
  by_cases e : t.length ≤ i
  · rw [if_pos e, chr_out e]
    simp only [u45_22, u45_21]
    exact Iff.rfl
  · rw [if_neg e]
    simp only [u45_12, u45_13, u45_16, u45_17, u45_18, u45_22, u45_21, o1, o2, o3, o4, zRef_some, nI_clamp (show i < 2 ^ 31 by omega), vp_in_nI (show i < 80 by omega) (by omega), true_and, (ht.2.2 i (by omega)).1]
theorem isDg_I {c : Nat} (h : c < 1000) : decide ((48 : Int32) ≤ nI c ∧ nI c ≤ 57) = isDg c := by
  unfold isDg
  rw [show (48 : Int32) = nI 48 from rfl, show (57 : Int32) = nI 57 from rfl]
  congr 1
  rw [nI_leI (by omega) (by omega), nI_leI (by omega) (by omega)]
theorem c_hasDigit (ht : isTx iv t) (hn : iv 90 3 = nI i) (hi : i < 1000) : zEv sc 49 0 [.ref 90, .ref 88] [] (zst p iv) Q ↔ Q (some (.int (zb (isDg (chr t i))))) (zst p iv) := by
  obtain ⟨o1, o2, o3, o4, o5⟩ := z88
  have hc := chr_le ht i
  simp only [u49_0, u49_1, u49_2, u49_5, u49_8, u49_10, u49_12, u49_15, o1, o5, hn, c_signAt ht hi, c_isIn, isDg_I (show chr t i < 1000 by omega), Option.toList_some, Option.toList_none, List.cons_append, List.nil_append, zRef_some, true_and, and_true, true_or, or_true, i10, i01, zb_01]
theorem c_readDigit {v : Value} (ht : isTx iv t) (hn : iv 90 3 = nI i) (hi : i < 1000) (hd : isDg (chr t i) = true) : zEv sc 50 0 [.ref 90, .ref 88, v] [] (zst p iv) Q ↔ Q (some (.int (nI (chr t i - 48)))) (zst p (w2 iv 90 3 (nI (i + 1)))) := by
  obtain ⟨o1, o2, o3, o4, o5⟩ := z88
  have hd := of_decide_eq_true hd
  simp only [u50_0, u50_1, u50_2, u50_5, u50_8, u50_10, u50_11, u50_12, u50_13, u50_14, u50_17, u50_18, u50_19, u50_22, u50_23, o1, o5, hn, c_signAt ht hi, Option.toList_some, Option.toList_none, List.cons_append, List.nil_append, zRef_some, true_and, and_true, true_or, or_true, i10, i01, show (48 : Int32) = nI 48 from rfl, pk_sub hd.1, nI_1]
theorem c_readSign {c : Nat} (ht : isTx iv t) (hn : iv 90 3 = nI i) (hi : i < 1000) (hc : c < 1000) : zEv sc 48 0 [.ref 90, .ref 88, .int (nI c)] [] (zst p iv) Q ↔ Q (some (.int (zb (decide (chr t i = c))))) (zst p (if chr t i = c then w2 iv 90 3 (nI (i + 1)) else iv)) := by
  obtain ⟨o1, o2, o3, o4, o5⟩ := z88
  have hl := chr_le ht i
  simp only [u48_0, u48_1, u48_2, u48_5, u48_8, u48_9, u48_12, u48_13, u48_14, u48_15, u48_16, u48_19, u48_20, u48_21, u48_24, u48_25, o1, o5, hn, c_signAt ht hi, Option.toList_some, Option.toList_none, List.cons_append, List.nil_append, zRef_some, true_and, and_true, true_or, or_true, i10, i01, nI_eq (show chr t i < 2 ^ 31 by omega) (show c < 2 ^ 31 by omega), nI_1]
  by_cases e : chr t i = c
  · rw [if_pos e, if_pos e, decide_eq_true e]; exact Iff.rfl
  · rw [if_neg e, if_neg e, decide_eq_false e]; exact Iff.rfl
/-- the reader's cells but 'next', 'allocation' (5), 'weight' (6) and 'player' (4) -/
def rKp (iv2 iv : Nat → Nat → Int32) : Prop := (∀ c, c ≠ 90 → iv2 c = iv c) ∧ ∀ g, g < 3 → iv2 90 g = iv 90 g
theorem rKp.rf {iv : Nat → Nat → Int32} : rKp iv iv := ⟨fun _ _ => rfl, fun _ _ => rfl⟩
theorem rKp.tr {a b c : Nat → Nat → Int32} (h1 : rKp a b) (h2 : rKp b c) : rKp a c := ⟨fun x hx => (h1.1 x hx).trans (h2.1 x hx), fun g hg => (h1.2 g hg).trans (h2.2 g hg)⟩
theorem rKp.w {iv : Nat → Nat → Int32} {f : Nat} {x : Int32} (hf : 3 ≤ f) : rKp (w2 iv 90 f x) iv := ⟨fun c hc => w2_c hc, fun g hg => w2_g (by omega)⟩
theorem rKp.tx {a b : Nat → Nat → Int32} (h : rKp a b) (ht : isTx b t) : isTx a t := ht.keep (fun c _ _ => h.1 c (by omega))
theorem c_readAllocation {v : Value} (ht : isTx iv t) (hn : iv 90 3 = nI i) (hi : i < 500) (hk : n ≤ 4) : ∃ iv2, iv2 90 3 = nI (rdA t n i 0).2.1 ∧ ((rdA t n i 0).1 = true → iv2 90 5 = nI (rdA t n i 0).2.2) ∧ (∀ g, g ≠ 3 → g ≠ 5 → iv2 90 g = iv 90 g) ∧ rKp iv2 iv ∧ ∀ (Q : Option Value → zA → Prop), Q (some (.int (zb (rdA t n i 0).1))) (zst p iv2) → zEv sc 51 0 [.ref 90, .ref 88, .int (nI n), v] [] (zst p iv) Q := by
  obtain ⟨o1, o2, o3, o4, o5⟩ := z88
  have loop : ∀ d k j acc (iv1 : Nat → Nat → Int32), n - k = d → k ≤ n → j ≤ i + k → acc < 10 ^ k → iv1 90 3 = nI j → iv1 90 5 = nI acc → rKp iv1 iv → ∃ iv2, iv2 90 3 = nI (rdA t (n - k) j acc).2.1 ∧ ((rdA t (n - k) j acc).1 = true → iv2 90 5 = nI (rdA t (n - k) j acc).2.2) ∧ (∀ g, g ≠ 3 → g ≠ 5 → iv2 90 g = iv1 90 g) ∧ rKp iv2 iv ∧ ∀ (Q : Option Value → zA → Prop), Q (some (.int (zb (rdA t (n - k) j acc).1))) (zst p iv2) → zEv sc 51 7 [.ref 90, .ref 88, .int (nI n), .int (nI k)] [] (zst p iv1) Q := by
    intro d
    induction d with
    | zero =>
      intro k j acc iv1 hd h1 h2 h3 h4 h5 h6
      have : k = n := by omega
      subst this
      rw [Nat.sub_self]
      refine ⟨iv1, h4, fun _ => h5, fun _ _ _ => rfl, h6, fun Q hQ => ?_⟩
      rw [u51_7, u51_8, u51_9, if_pos (Int32.le_refl _)]
      simp only [u51_45, u51_46, Option.toList_some, Option.toList_none, List.cons_append, List.nil_append, zRef_some, true_and, and_true, true_or, or_true, i10, i01]
      exact hQ
    | succ d ih =>
      intro k j acc iv1 hd h1 h2 h3 h4 h5 h6
      have ht1 := h6.tx ht
      have hcl := chr_le ht1 j
      have e : n - k = (n - (k + 1)) + 1 := by omega
      have hacc : acc < 10000 := Nat.lt_of_lt_of_le h3 (by
        rcases (show k = 0 ∨ k = 1 ∨ k = 2 ∨ k = 3 by omega) with rfl | rfl | rfl | rfl <;> decide)
      rw [e]
      unfold rdA
      by_cases hd2 : isDg (chr t j) = true
      · rw [if_pos hd2]
        have hd3 := of_decide_eq_true hd2
        have ht2 : isTx iv1 t := ht1
        obtain ⟨iv2, g1, g2, g3, g4, g5⟩ := ih (k + 1) (j + 1) (acc * 10 + (chr t j - 48)) (w2 (w2 iv1 90 3 (nI (j + 1))) 90 5 (nI (acc * 10 + (chr t j - 48)))) (by omega) (by omega) (by omega) (by rw [Nat.pow_succ]; omega) (by rw [w2_g (by omega), w2_eq]) w2_eq ((rKp.w (by omega)).tr ((rKp.w (by omega)).tr h6))
        refine ⟨iv2, g1, g2, fun g e1 e2 => by rw [g3 g e1 e2, w2_g e2, w2_g e1], g4, fun Q hQ => ?_⟩
        rw [u51_7, u51_8, u51_9, if_neg (by rw [nI_leI (by omega) (by omega)]; omega)]
        simp only [u51_12, u51_13, u51_14, u51_17, o5, c_hasDigit ht2 h4 (show j < 1000 by omega), hd2, Option.toList_some, Option.toList_none, List.cons_append, List.nil_append, zRef_some, true_and, and_true, true_or, or_true, i10, i01, zb_n, if_true]
        simp only [u51_22, u51_23, u51_24, u51_27, u51_29, u51_30, u51_31, u51_32, u51_35, u51_36, u51_39, u51_42, o5, h5, c_readDigit ht2 h4 (show j < 1000 by omega) hd2, Option.toList_some, Option.toList_none, List.cons_append, List.nil_append, zRef_some, true_and, and_true, true_or, or_true, i10, i01, show (10 : Int32) = nI 10 from rfl, pk_mul, nI_add, nI_1]
        exact g5 Q hQ
      · rw [if_neg hd2]
        refine ⟨iv1, h4, fun z => (by cases z), fun _ _ _ => rfl, h6, fun Q hQ => ?_⟩
        rw [Bool.not_eq_true] at hd2
        rw [u51_7, u51_8, u51_9, if_neg (by rw [nI_leI (by omega) (by omega)]; omega)]
        simp only [u51_12, u51_13, u51_14, u51_17, u51_20, u51_21, o5, c_hasDigit ht1 h4 (show j < 1000 by omega), hd2, Option.toList_some, Option.toList_none, List.cons_append, List.nil_append, zRef_some, true_and, and_true, true_or, or_true, i10, i01, zb_f, not_true_eq_false, if_false]
        exact hQ
  obtain ⟨iv2, g1, g2, g3, g4, g5⟩ := loop _ 0 i 0 (w2 iv 90 5 0) rfl (Nat.zero_le _) (by omega) (by decide) (by rw [w2_g (by omega)]; exact hn) (by rw [w2_eq]; rfl) (rKp.w (by omega))
  rw [Nat.sub_zero] at g1 g2 g5
  refine ⟨iv2, g1, g2, fun g e1 e2 => by rw [g3 g e1 e2, w2_g e2], g4, fun Q hQ => ?_⟩
  have l0 := g5 Q hQ
  rw [nI_0] at l0
  simp only [u51_0, u51_1, u51_2, u51_5, u51_6, o5]
  exact l0
theorem c_readWeight (ht : isTx iv t) (hn : iv 90 3 = nI i) (hi : i < 500) : ∃ iv2, iv2 90 3 = nI (rdW t i).2.1 ∧ ((rdW t i).1 = true → iv2 90 6 = nI (rdW t i).2.2) ∧ (∀ g, g ≠ 3 → g ≠ 6 → iv2 90 g = iv 90 g) ∧ rKp iv2 iv ∧ ∀ (Q : Option Value → zA → Prop), Q (some (.int (zb (rdW t i).1))) (zst p iv2) → zEv sc 52 0 [.ref 90, .ref 88] [] (zst p iv) Q := by
  obtain ⟨o1, o2, o3, o4, o5⟩ := z88
  have hc1 := chr_le ht i
  have hc2 := chr_le ht (i + 1)
  unfold rdW
  by_cases hd : isDg (chr t i) = true
  · rw [if_pos hd]
    have k1 : rKp (w2 (w2 iv 90 3 (nI (i + 1))) 90 6 (nI (chr t i - 48))) iv := (rKp.w (by omega)).tr (rKp.w (by omega))
    have ht1 := k1.tx ht
    have hn1 : (w2 (w2 iv 90 3 (nI (i + 1))) 90 6 (nI (chr t i - 48))) 90 3 = nI (i + 1) := by rw [w2_g (by omega), w2_eq]
    have start : ∀ Q, zEv sc 52 0 [.ref 90, .ref 88] [] (zst p iv) Q ↔ (if zb (isDg (chr t (i + 1))) = 0 then zEv sc 52 44 [.ref 90, .ref 88] [] (zst p (w2 (w2 iv 90 3 (nI (i + 1))) 90 6 (nI (chr t i - 48)))) Q else zEv sc 52 27 [.ref 90, .ref 88] [] (zst p (w2 (w2 iv 90 3 (nI (i + 1))) 90 6 (nI (chr t i - 48)))) Q) := by
      intro Q
      simp only [u52_0, u52_1, u52_2, u52_5, o5, c_hasDigit ht hn (show i < 1000 by omega), hd, Option.toList_some, Option.toList_none, List.cons_append, List.nil_append, zRef_some, true_and, and_true, true_or, or_true, i10, i01, zb_n, if_true]
      simp only [u52_10, u52_11, u52_12, u52_13, u52_16, u52_19, u52_20, u52_21, u52_24, o5, c_readDigit ht hn (show i < 1000 by omega) hd, c_hasDigit ht1 hn1 (show i + 1 < 1000 by omega), Option.toList_some, Option.toList_none, List.cons_append, List.nil_append, zRef_some, true_and, and_true, true_or, or_true, i10, i01]
    by_cases hd2 : isDg (chr t (i + 1)) = true
    · rw [if_pos hd2]
      refine ⟨w2 (w2 (w2 (w2 iv 90 3 (nI (i + 1))) 90 6 (nI (chr t i - 48))) 90 3 (nI (i + 2))) 90 6 (nI ((chr t i - 48) * 10 + (chr t (i + 1) - 48))), by rw [w2_g (by omega), w2_eq], fun _ => w2_eq, fun g e1 e2 => by rw [w2_g e2, w2_g e1, w2_g e2, w2_g e1], (rKp.w (by omega)).tr ((rKp.w (by omega)).tr k1), fun Q hQ => (start Q).mpr ?_⟩
      rw [hd2, if_neg (by decide)]
      simp only [u52_27, u52_28, u52_29, u52_32, u52_34, u52_35, u52_36, u52_37, u52_40, u52_41, u52_44, u52_45, o5, w2_eq, c_readDigit ht1 hn1 (show i + 1 < 1000 by omega) hd2, Option.toList_some, Option.toList_none, List.cons_append, List.nil_append, zRef_some, true_and, and_true, true_or, or_true, i10, i01, show (10 : Int32) = nI 10 from rfl, pk_mul, nI_add]
      exact hQ
    · rw [if_neg hd2]
      refine ⟨w2 (w2 iv 90 3 (nI (i + 1))) 90 6 (nI (chr t i - 48)), hn1, fun _ => w2_eq, fun g e1 e2 => by rw [w2_g e2, w2_g e1], k1, fun Q hQ => (start Q).mpr ?_⟩
      rw [Bool.not_eq_true] at hd2
      rw [hd2, if_pos (by decide)]
      simp only [u52_44, u52_45, Option.toList_some, Option.toList_none, List.cons_append, List.nil_append, zRef_some, true_and, and_true, true_or, or_true, i10, i01]
      exact hQ
  · rw [if_neg hd]
    refine ⟨iv, hn, fun z => (by cases z), fun _ _ _ => rfl, rKp.rf, fun Q hQ => ?_⟩
    rw [Bool.not_eq_true] at hd
    simp only [u52_0, u52_1, u52_2, u52_5, u52_8, u52_9, o5, c_hasDigit ht hn (show i < 1000 by omega), hd, Option.toList_some, Option.toList_none, List.cons_append, List.nil_append, zRef_some, true_and, and_true, true_or, or_true, i10, i01, zb_f, not_true_eq_false, if_false]
    exact hQ
theorem pl_I {c : Nat} (h : c < 1000) : decide ((0 : Int32) ≤ nI c - 48 ∧ nI c - 48 ≤ 1) = decide (c = 48 ∨ c = 49) := by
  have e : (nI c - 48).toInt = (c : Int) - 48 := by
    rw [show (48 : Int32) = nI 48 from rfl]
    exact pk_sub_toInt (by omega) (by omega)
  congr 1
  rw [Int32.le_iff_toInt_le, Int32.le_iff_toInt_le, e]
  show ((0 : Int) ≤ _ ∧ _ ≤ (1 : Int)) = _
  apply propext
  omega
theorem c_readForm (ht : isTx iv t) (hn : iv 90 3 = nI i) (hi : i < 400) (hk : n ≤ 4) : ∃ iv2, iv2 90 3 = nI (frm t n i).2.1 ∧ ((frm t n i).1 = true → iv2 90 4 = nI (frm t n i).2.2.1 ∧ iv2 90 5 = nI (frm t n i).2.2.2.1 ∧ iv2 90 6 = nI (frm t n i).2.2.2.2) ∧ rKp iv2 iv ∧ ∀ (Q : Option Value → zA → Prop), Q (some (.int (zb (frm t n i).1))) (zst p iv2) → zEv sc 53 0 [.ref 90, .ref 88, .int (nI n)] [] (zst p iv) Q := by
  obtain ⟨o1, o2, o3, o4, o5⟩ := z88
  have hc0 := chr_le ht i
  have k0 : rKp (w2 iv 90 4 (nI (chr t i) - 48)) iv := rKp.w (by omega)
  have start : ∀ Q, zEv sc 53 0 [.ref 90, .ref 88, .int (nI n)] [] (zst p iv) Q ↔ (if ¬ zb (decide (chr t i = 48 ∨ chr t i = 49)) = 0 then zEv sc 53 27 [.ref 90, .ref 88, .int (nI n)] [] (zst p (w2 iv 90 4 (nI (chr t i) - 48))) Q else zEv sc 53 25 [.ref 90, .ref 88, .int (nI n)] [] (zst p (w2 iv 90 4 (nI (chr t i) - 48))) Q) := by
    intro Q
    simp only [u53_0, u53_1, u53_2, u53_3, u53_6, u53_9, u53_11, u53_12, u53_15, u53_16, u53_19, u53_22, o1, o5, hn, c_signAt ht (show i < 1000 by omega), c_isPlayer, w2_eq, pl_I (show chr t i < 1000 by omega), Option.toList_some, Option.toList_none, List.cons_append, List.nil_append, zRef_some, true_and, and_true, true_or, or_true, i10, i01]
  unfold frm
  by_cases h0 : chr t i = 48 ∨ chr t i = 49
  · rw [if_neg (fun z => z h0)]
    obtain ⟨iv1, hiv1⟩ : ∃ z, z = w2 (w2 iv 90 4 (nI (chr t i) - 48)) 90 3 (nI (i + 1)) := ⟨_, rfl⟩
    have hp1 : iv1 90 4 = nI (chr t i - 48) := by
      rw [hiv1, w2_g (by omega), w2_eq, show (48 : Int32) = nI 48 from rfl, pk_sub (by omega)]
    have k1 : rKp iv1 iv := by rw [hiv1]; exact (rKp.w (by omega)).tr k0
    have ht1 := k1.tx ht
    have hn1 : iv1 90 3 = nI (i + 1) := by rw [hiv1, w2_eq]
    have start2 : ∀ Q, zEv sc 53 0 [.ref 90, .ref 88, .int (nI n)] [] (zst p iv) Q ↔ (if zb (decide (chr t (i + 1) = 58)) = 0 then zEv sc 53 56 [.ref 90, .ref 88, .int (nI n)] [] (zst p (if chr t (i + 1) = 58 then w2 iv1 90 3 (nI (i + 1 + 1)) else iv1)) Q else zEv sc 53 47 [.ref 90, .ref 88, .int (nI n)] [] (zst p (if chr t (i + 1) = 58 then w2 iv1 90 3 (nI (i + 1 + 1)) else iv1)) Q) := by
      intro Q
      rw [start, decide_eq_true h0, if_pos (by decide)]
      simp only [u53_27, u53_28, u53_29, u53_32, u53_33, u53_34, o5, w2_g (show (3 : Nat) ≠ 4 by omega), hn, nI_1, ← hiv1]
      simp only [u53_37, u53_38, u53_39, u53_41, u53_44, o5, show (58 : Int32) = nI 58 from rfl, c_readSign ht1 hn1 (show i + 1 < 1000 by omega) (show 58 < 1000 by omega), Option.toList_some, Option.toList_none, List.cons_append, List.nil_append, zRef_some, true_and, and_true, true_or, or_true, i10, i01]
    by_cases h1 : chr t (i + 1) = 58
    · rw [if_neg (fun z => z h1)]
      obtain ⟨iv2, hiv2⟩ : ∃ z, z = w2 iv1 90 3 (nI (i + 2)) := ⟨_, rfl⟩
      have k2 : rKp iv2 iv := by rw [hiv2]; exact (rKp.w (by omega)).tr k1
      have ht2 := k2.tx ht
      have hn2 : iv2 90 3 = nI (i + 2) := by rw [hiv2, w2_eq]
      obtain ⟨iv3, g1, g2, g3, g4, g5⟩ := c_readAllocation (sc := sc) (p := p) (v := .null) (n := n) ht2 hn2 (by omega) hk
      have hb := rdA_b t n (i + 2) 0
      obtain ⟨A, hA⟩ : ∃ A, A = rdA t n (i + 2) 0 := ⟨_, rfl⟩
      rw [← hA] at g1 g2 g5 hb ⊢
      have k3 : rKp iv3 iv := g4.tr k2
      have hp3 : iv3 90 4 = nI (chr t i - 48) := by rw [g3 4 (by omega) (by omega), hiv2, w2_g (by omega), hp1]
      have start3 : ∀ Q, (if ¬ zb A.1 = 0 then zEv sc 53 58 [.ref 90, .ref 88, .int (nI n)] [] (zst p iv3) Q else zEv sc 53 56 [.ref 90, .ref 88, .int (nI n)] [] (zst p iv3) Q) → zEv sc 53 0 [.ref 90, .ref 88, .int (nI n)] [] (zst p iv) Q := by
        intro Q hQ
        rw [start2, decide_eq_true h1, if_neg (by decide), if_pos h1, ← hiv2]
        simp only [u53_47, u53_48, u53_49, u53_50, o5]
        refine g5 _ ?_
        simp only [u53_53, Option.toList_some, Option.toList_none, List.cons_append, List.nil_append, zRef_some, true_and, and_true, true_or, or_true, i10, i01]
        exact hQ
      by_cases h2 : A.1 = false
      · rw [if_pos h2]
        refine ⟨iv3, g1, fun z => (by cases z), k3, fun Q hQ => start3 Q ?_⟩
        rw [h2, if_neg (by decide)]
        simp only [u53_56, u53_57, Option.toList_some, Option.toList_none, List.cons_append, List.nil_append, zRef_some, true_and, and_true, true_or, or_true, i10, i01]
        exact hQ
      · have h2 : A.1 = true := by rw [Bool.not_eq_false] at h2; exact h2
        rw [if_neg (by rw [h2]; decide)]
        have hal := g2 h2
        obtain ⟨j, hj⟩ : ∃ j, j = A.2.1 := ⟨_, rfl⟩
        rw [← hj] at g1 hb ⊢
        have hcj := chr_le ht j
        obtain ⟨iv4, hiv4⟩ : ∃ z, z = w2 iv3 90 6 1 := ⟨_, rfl⟩
        have k4 : rKp iv4 iv := by rw [hiv4]; exact (rKp.w (by omega)).tr k3
        have ht4 := k4.tx ht
        have hn4 : iv4 90 3 = nI j := by rw [hiv4, w2_g (by omega), g1]
        -- the weight: where it ends, and what the cells hold then
        have wt : ∃ iv5, iv5 90 3 = nI (frmW t j).2.1 ∧ ((frmW t j).1 = true → iv5 90 6 = nI (frmW t j).2.2) ∧ iv5 90 4 = nI (chr t i - 48) ∧ iv5 90 5 = nI A.2.2 ∧ rKp iv5 iv ∧ ∀ (Q : Option Value → zA → Prop), (if (frmW t j).1 = false then zEv sc 53 81 [.ref 90, .ref 88, .int (nI n)] [] (zst p iv5) Q else zEv sc 53 83 [.ref 90, .ref 88, .int (nI n)] [] (zst p iv5) Q) → zEv sc 53 58 [.ref 90, .ref 88, .int (nI n)] [] (zst p iv3) Q := by
          have s5 : ∀ Q, zEv sc 53 58 [.ref 90, .ref 88, .int (nI n)] [] (zst p iv3) Q ↔ (if zb (decide (chr t j = 42)) = 0 then zEv sc 53 83 [.ref 90, .ref 88, .int (nI n)] [] (zst p (if chr t j = 42 then w2 iv4 90 3 (nI (j + 1)) else iv4)) Q else zEv sc 53 73 [.ref 90, .ref 88, .int (nI n)] [] (zst p (if chr t j = 42 then w2 iv4 90 3 (nI (j + 1)) else iv4)) Q) := by
            intro Q
            simp only [u53_58, u53_59, u53_60, o5, ← hiv4]
            simp only [u53_63, u53_64, u53_65, u53_67, u53_70, o5, show (42 : Int32) = nI 42 from rfl, c_readSign ht4 hn4 (show j < 1000 by omega) (show 42 < 1000 by omega), Option.toList_some, Option.toList_none, List.cons_append, List.nil_append, zRef_some, true_and, and_true, true_or, or_true, i10, i01]
          unfold frmW
          by_cases h3 : chr t j = 42
          · rw [if_pos h3]
            have k5 : rKp (w2 iv4 90 3 (nI (j + 1))) iv := (rKp.w (by omega)).tr k4
            obtain ⟨iv5, q1, q2, q3, q4, q5⟩ := c_readWeight (sc := sc) (p := p) (k5.tx ht) (i := j + 1) w2_eq (by omega)
            refine ⟨iv5, q1, q2, ?_, ?_, q4.tr k5, fun Q hQ => ?_⟩
            · rw [q3 4 (by omega) (by omega), w2_g (by omega), hiv4, w2_g (by omega), hp3]
            · rw [q3 5 (by omega) (by omega), w2_g (by omega), hiv4, w2_g (by omega), hal]
            · rw [s5, decide_eq_true h3, if_neg (by decide), if_pos h3]
              simp only [u53_73, u53_74, u53_75, o5]
              refine q5 _ ?_
              simp only [u53_78, Option.toList_some, Option.toList_none, List.cons_append, List.nil_append, zRef_some, true_and, and_true, true_or, or_true, i10, i01]
              by_cases h4 : (rdW t (j + 1)).1 = false
              · rw [if_pos h4] at hQ
                rw [h4, if_neg (by decide)]
                exact hQ
              · rw [if_neg h4] at hQ
                rw [Bool.not_eq_false] at h4
                rw [h4, if_pos (by decide)]
                exact hQ
          · rw [if_neg h3]
            refine ⟨iv4, hn4, fun _ => by rw [hiv4, w2_eq]; rfl, by rw [hiv4, w2_g (by omega), hp3], by rw [hiv4, w2_g (by omega), hal], k4, fun Q hQ => ?_⟩
            rw [s5, decide_eq_false h3, if_pos (by decide), if_neg h3]
            exact hQ
        have hwb := frmW_b t j
        obtain ⟨iv5, q1, q2, q3, q4, q5, q6⟩ := wt
        obtain ⟨B, hB⟩ : ∃ B, B = frmW t j := ⟨_, rfl⟩
        rw [← hB] at q1 q2 q6 hwb ⊢
        have start4 : ∀ Q, (if B.1 = false then zEv sc 53 81 [.ref 90, .ref 88, .int (nI n)] [] (zst p iv5) Q else zEv sc 53 83 [.ref 90, .ref 88, .int (nI n)] [] (zst p iv5) Q) → zEv sc 53 0 [.ref 90, .ref 88, .int (nI n)] [] (zst p iv) Q := by
          intro Q hQ
          refine start3 Q ?_
          rw [h2, if_pos (by decide)]
          exact q6 Q hQ
        by_cases h3 : B.1 = false
        · rw [if_pos h3]
          refine ⟨iv5, q1, fun z => (by cases z), q5, fun Q hQ => start4 Q ?_⟩
          rw [if_pos h3]
          simp only [u53_81, u53_82, Option.toList_some, Option.toList_none, List.cons_append, List.nil_append, zRef_some, true_and, and_true, true_or, or_true, i10, i01]
          exact hQ
        · have h4 : B.1 = true := by rw [Bool.not_eq_false] at h3; exact h3
          have hcB := chr_le ht B.2.1
          have ht5 := q5.tx ht
          have start5 : ∀ Q, zEv sc 53 83 [.ref 90, .ref 88, .int (nI n)] [] (zst p iv5) Q ↔ Q (some (.int (zb (decide (chr t B.2.1 = 59))))) (zst p (if chr t B.2.1 = 59 then w2 iv5 90 3 (nI (B.2.1 + 1)) else iv5)) := by
            intro Q
            simp only [u53_83, u53_84, u53_85, u53_87, u53_90, o5, show (59 : Int32) = nI 59 from rfl, c_readSign ht5 q1 (show B.2.1 < 1000 by omega) (show 59 < 1000 by omega), Option.toList_some, Option.toList_none, List.cons_append, List.nil_append, zRef_some, true_and, and_true, true_or, or_true, i10, i01, zb_01]
          rw [if_neg h3]
          by_cases h5 : chr t B.2.1 = 59
          · rw [if_pos h5]
            refine ⟨w2 iv5 90 3 (nI (B.2.1 + 1)), w2_eq, fun _ => ⟨by rw [w2_g (by omega), q3], by rw [w2_g (by omega), q4], by rw [w2_g (by omega)]; exact q2 h4⟩, (rKp.w (by omega)).tr q5, fun Q hQ => start4 Q ?_⟩
            rw [if_neg h3, start5, decide_eq_true h5, if_pos h5]
            exact hQ
          · rw [if_neg h5]
            refine ⟨iv5, q1, fun z => (by cases z), q5, fun Q hQ => start4 Q ?_⟩
            rw [if_neg h3, start5, decide_eq_false h5, if_neg h5]
            exact hQ
    · rw [if_pos h1]
      refine ⟨iv1, hn1, fun z => (by cases z), k1, fun Q hQ => ?_⟩
      rw [start2, decide_eq_false h1, if_pos (by decide), if_neg h1]
      simp only [u53_56, u53_57, Option.toList_some, Option.toList_none, List.cons_append, List.nil_append, zRef_some, true_and, and_true, true_or, or_true, i10, i01]
      exact hQ
  · rw [if_pos h0]
    refine ⟨w2 iv 90 4 (nI (chr t i) - 48), by rw [w2_g (by omega)]; exact hn, fun z => (by cases z), k0, fun Q hQ => ?_⟩
    rw [start, decide_eq_false h0, if_neg (by decide)]
    simp only [u53_25, u53_26, Option.toList_some, Option.toList_none, List.cons_append, List.nil_append, zRef_some, true_and, and_true, true_or, or_true, i10, i01]
    exact hQ
theorem setM_ct {b q : Nat} {iv2 : Nat → Nat → Int32} {l : List (Nat × Nat)} (hc : isCt iv b cs) (hq : q < 2) (hm : isMix iv2 (sB b q + 2) l) (hf : ∀ c, b ≤ c → c < b + 12 → (c < sB b q + 2 ∨ sB b q + 5 ≤ c) → iv2 c = iv c) : isCt iv2 b (setM cs q l) := by
  have e0 : ∀ z, z < 2 → z ≠ q → isMix iv2 (sB b z + 2) (cM cs z) := by
    intro z hz hne
    refine (hc.sd hz).2.2.keep (fun c h1 h2 => ?_)
    rcases (show (z = 0 ∧ q = 1) ∨ (z = 1 ∧ q = 0) by omega) with ⟨rfl, rfl⟩ | ⟨rfl, rfl⟩
    · have h1 : b + 2 + 2 ≤ c := h1
      have h2 : c < b + 2 + 2 + 3 := h2
      exact hf c (by omega) (by omega) (by show c < b + 7 + 2 ∨ b + 7 + 5 ≤ c; omega)
    · have h1 : b + 7 + 2 ≤ c := h1
      have h2 : c < b + 7 + 2 + 3 := h2
      exact hf c (by omega) (by omega) (by show c < b + 2 + 2 ∨ b + 2 + 5 ≤ c; omega)
  have e1 : ∀ z, z < 2 → isMix iv2 (sB b z + 2) (if z = q then l else cM cs z) := by
    intro z hz
    by_cases e : z = q
    · subst e; rw [if_pos rfl]; exact hm
    · rw [if_neg e]; exact e0 z hz e
  have e2 : ∀ c, (c = b ∨ c = b + 1 ∨ c = b + 2 ∨ c = b + 3 ∨ c = b + 7 ∨ c = b + 8) → iv2 c = iv c := by
    intro c h
    refine hf c (by omega) (by omega) ?_
    unfold sB
    split <;> omega
  refine ⟨?_, ?_, fun f hff => ?_, ⟨?_, fun f hff => ?_, e1 0 (by omega)⟩, ⟨?_, fun f hff => ?_, e1 1 (by omega)⟩⟩
  · rw [e2 b (by omega)]; exact hc.1
  · rw [e2 b (by omega)]; exact hc.2.1
  · rw [e2 (b + 1) (by omega)]; exact hc.2.2.1 f hff
  · rw [e2 (b + 2) (by omega)]; exact hc.2.2.2.1.1
  · rw [e2 (b + 2 + 1) (by omega)]; exact hc.2.2.2.1.2.1 f hff
  · rw [e2 (b + 7) (by omega)]; exact hc.2.2.2.2.1
  · rw [e2 (b + 7 + 1) (by omega)]; exact hc.2.2.2.2.2.1 f hff
theorem pSt_ok (ho : cOk cs) (h0 : mOk (cM cs 0)) (h1 : mOk (cM cs 1)) : cOk (pSt cs t i).2.2 ∧ mOk (cM (pSt cs t i).2.2 0) ∧ mOk (cM (pSt cs t i).2.2 1) := by
  have hb := frm_b t (cN cs) i ho.2.1
  unfold pSt
  split
  · exact ⟨ho, h0, h1⟩
  next g0 =>
    have g0 : (frm t (cN cs) i).1 = true := by rw [Bool.not_eq_false] at g0; exact g0
    obtain ⟨b1, b2, b3, b4, b5⟩ := hb.2.2 g0
    split
    · exact ⟨ho, h0, h1⟩
    next g1 =>
      have g2 : ¬ (frm t (cN cs) i).2.2.2.2 = 0 := fun z => g1 (Or.inl z)
      have g3 : alw (cN cs) (cB cs (frm t (cN cs) i).2.2.1) (frm t (cN cs) i).2.2.2.1 (cR cs (frm t (cN cs) i).2.2.1) = true := by
        have : ¬ (alw (cN cs) (cB cs (frm t (cN cs) i).2.2.1) (frm t (cN cs) i).2.2.2.1 (cR cs (frm t (cN cs) i).2.2.1) = false) := fun z => g1 (Or.inr z)
        rw [Bool.not_eq_false] at this
        exact this
      split
      · exact ⟨ho, h0, h1⟩
      next g4 =>
        have g4 := Decidable.of_not_not g4
        have hmq : mOk (cM cs (frm t (cN cs) i).2.2.1) := by
          rcases (show (frm t (cN cs) i).2.2.1 = 0 ∨ (frm t (cN cs) i).2.2.1 = 1 by omega) with e | e
          · rw [e]; exact h0
          · rw [e]; exact h1
        have hms := mSet_ok hmq g4 b4 (show 1 ≤ (frm t (cN cs) i).2.2.2.2 by omega) b5
        refine ⟨setM_alw ho b3 hmq b4 g3, ?_, ?_⟩
        · show mOk (if 0 = _ then _ else cM cs 0)
          split
          · exact hms
          · exact h0
        · show mOk (if 1 = _ then _ else cM cs 1)
          split
          · exact hms
          · exact h1
theorem pSt_b (hk : cN cs ≤ 4) : i ≤ (pSt cs t i).2.1 ∧ (pSt cs t i).2.1 ≤ i + 20 ∧ ((pSt cs t i).1 = 0 → i < (pSt cs t i).2.1 ∧ (pSt cs t i).2.1 ≤ t.length) ∧ (pSt cs t i).1 ≤ 3 := by
  have hb := frm_b t (cN cs) i hk
  unfold pSt
  split
  · exact ⟨hb.1, hb.2.1, fun z => (by cases z), by dsimp only; omega⟩
  next h0 =>
    have h0 : (frm t (cN cs) i).1 = true := by rw [Bool.not_eq_false] at h0; exact h0
    have h1 := hb.2.2 h0
    split
    · exact ⟨hb.1, hb.2.1, fun z => (by cases z), by dsimp only; omega⟩
    · split
      · exact ⟨hb.1, hb.2.1, fun z => (by cases z), by dsimp only; omega⟩
      · exact ⟨hb.1, hb.2.1, fun _ => ⟨h1.1, h1.2.1⟩, by dsimp only; omega⟩
theorem c_readPart {v : Value} (ht : isTx iv t) (hn : iv 90 3 = nI i) (hi : i < 400) (hc : isCt iv 14 cs) (ho : cOk cs) : ∃ iv2, iv2 90 3 = nI (pSt cs t i).2.1 ∧ isCt iv2 14 (pSt cs t i).2.2 ∧ (∀ c, (c < 14 ∨ 26 ≤ c) → c ≠ 90 → iv2 c = iv c) ∧ (∀ g, g < 3 → iv2 90 g = iv 90 g) ∧ ∀ (Q : Option Value → zA → Prop), Q (some (.int (nI (pSt cs t i).1))) (zst p iv2) → zEv sc 54 0 [.ref 90, .ref 14, .ref 88, v] [] (zst p iv) Q := by
  obtain ⟨o1, o2, o3, o4, o5⟩ := z88
  obtain ⟨iv1, g1, g2, g3, g4⟩ := c_readForm (sc := sc) (p := p) ht hn hi ho.2.1
  have hb := frm_b t (cN cs) i ho.2.1
  have hc1 : isCt iv1 14 cs := hc.keep (fun c h1 h2 => g3.1 c (by omega))
  obtain ⟨F, hF⟩ : ∃ F, F = frm t (cN cs) i := ⟨_, rfl⟩
  have start : ∀ Q, (if ¬ zb F.1 = 0 then zEv sc 54 14 [.ref 90, .ref 14, .ref 88, v] [] (zst p iv1) Q else zEv sc 54 12 [.ref 90, .ref 14, .ref 88, v] [] (zst p iv1) Q) → zEv sc 54 0 [.ref 90, .ref 14, .ref 88, v] [] (zst p iv) Q := by
    intro Q hQ
    simp only [u54_0, u54_1, u54_2, u54_3, u54_6, o5, zCt_14.1, hc.1]
    refine g4 _ ?_
    simp only [u54_9, Option.toList_some, Option.toList_none, List.cons_append, List.nil_append, zRef_some, true_and, and_true, true_or, or_true, i10, i01]
    rw [← hF]
    exact hQ
  unfold pSt
  rw [← hF] at g1 g2 hb ⊢
  have kp : ∀ c, (c < 14 ∨ 26 ≤ c) → c ≠ 90 → iv1 c = iv c := fun c _ h => g3.1 c h
  by_cases h0 : F.1 = false
  · rw [if_pos h0]
    refine ⟨iv1, g1, hc1, kp, g3.2, fun Q hQ => start Q ?_⟩
    rw [h0, if_neg (by decide)]
    simp only [u54_12, u54_13]
    exact hQ
  · have h0' : F.1 = true := by rw [Bool.not_eq_false] at h0; exact h0
    obtain ⟨b1, b2, b3, b4, b5⟩ := hb.2.2 h0'
    obtain ⟨e4, e5, e6⟩ := g2 h0'
    have hq := b3
    have hS := hc1.sd hq
    have hz := zCt_14.sd (q := F.2.2.1)
    have hx := hz.2.2.2.2.2
    rw [if_neg h0]
    have start2 : ∀ Q, (if nI F.2.2.2.2 = 0 then zEv sc 54 36 [.ref 90, .ref 14, .ref 88, v] [] (zst p iv1) Q else if ¬ zb (alw (cN cs) (cB cs F.2.2.1) F.2.2.2.1 (cR cs F.2.2.1)) = 0 then zEv sc 54 38 [.ref 90, .ref 14, .ref 88, v] [] (zst p iv1) Q else zEv sc 54 36 [.ref 90, .ref 14, .ref 88, v] [] (zst p iv1) Q) → zEv sc 54 0 [.ref 90, .ref 14, .ref 88, v] [] (zst p iv) Q := by
      intro Q hQ
      refine start Q ?_
      rw [h0', if_pos (by decide)]
      simp only [u54_14, u54_15, u54_18, u54_21, u54_22, u54_23, u54_26, u54_27, u54_30, u54_33, o5, zCt_14.1, e4, e5, e6, c_allowsC (v := .null) zCt_14 hc1 ho hq, alwI_n (show F.2.2.2.1 < 2 ^ 31 by omega), Option.toList_some, Option.toList_none, List.cons_append, List.nil_append, zRef_some, true_and, and_true, true_or, or_true, i10, i01]
      exact hQ
    by_cases h1 : F.2.2.2.2 = 0 ∨ alw (cN cs) (cB cs F.2.2.1) F.2.2.2.1 (cR cs F.2.2.1) = false
    · rw [if_pos h1]
      refine ⟨iv1, g1, hc1, kp, g3.2, fun Q hQ => start2 Q ?_⟩
      have fin : zEv sc 54 36 [.ref 90, .ref 14, .ref 88, v] [] (zst p iv1) Q := by
        simp only [u54_36, u54_37]
        exact hQ
      by_cases h2 : F.2.2.2.2 = 0
      · rw [h2, if_pos (show nI 0 = 0 from rfl)]; exact fin
      · rw [if_neg (nI_ne0 (by omega) (by omega)), h1.resolve_left h2, if_neg (by decide)]; exact fin
    · have h2 : ¬ F.2.2.2.2 = 0 := fun z => h1 (Or.inl z)
      have h3 : alw (cN cs) (cB cs F.2.2.1) F.2.2.2.1 (cR cs F.2.2.1) = true := by
        have : ¬ (alw (cN cs) (cB cs F.2.2.1) F.2.2.2.1 (cR cs F.2.2.1) = false) := fun z => h1 (Or.inr z)
        rw [Bool.not_eq_false] at this
        exact this
      rw [if_neg h1]
      have start3 : ∀ Q, (if ¬ zb (decide ((cM cs F.2.2.1).length < 12 ∨ mIn (cM cs F.2.2.1) F.2.2.2.1 = true)) = 0 then zEv sc 54 63 [.ref 90, .ref 14, .ref 88, .ref (sB 14 F.2.2.1 + 2)] [] (zst p iv1) Q else zEv sc 54 61 [.ref 90, .ref 14, .ref 88, .ref (sB 14 F.2.2.1 + 2)] [] (zst p iv1) Q) → zEv sc 54 0 [.ref 90, .ref 14, .ref 88, v] [] (zst p iv) Q := by
        intro Q hQ
        refine start2 Q ?_
        rw [if_neg (nI_ne0 (by omega) (by omega)), h3, if_pos (by decide)]
        simp only [u54_38, u54_39, u54_40, u54_43, u54_46, u54_49, u54_50, u54_51, u54_52, u54_55, u54_58, o5, zCt_14.1, e4, e5, c_side zCt_14 hq, hz.1, hz.2.2.2.2.1, hx.1, zRef_some, c_hasRoomFor hx hS.2.2 b4, Option.toList_some, Option.toList_none, List.cons_append, List.nil_append, zRef_some, true_and, and_true, true_or, or_true, i10, i01]
        exact hQ
      by_cases h4 : (cM cs F.2.2.1).length < 12 ∨ mIn (cM cs F.2.2.1) F.2.2.2.1 = true
      · rw [if_neg (fun z => z h4)]
        obtain ⟨iv2, q1, q2, q3⟩ := c_setWeight (sc := sc) (p := p) (w := F.2.2.2.2) hx hS.2.2 b4 h4 (by omega) b5
        have hsb : 14 + 2 ≤ sB 14 F.2.2.1 ∧ sB 14 F.2.2.1 + 5 ≤ 26 := by unfold sB; split <;> omega
        refine ⟨iv2, by rw [q2 90 (by omega)]; exact g1, setM_ct hc1 hq q1 (fun c _ _ h => q2 c (by omega)), fun c h h2 => by rw [q2 c (by omega)]; exact kp c h h2, fun g hg => by rw [q2 90 (by omega)]; exact g3.2 g hg, fun Q hQ => start3 Q ?_⟩
        rw [decide_eq_true h4, if_pos (by decide)]
        simp only [u54_63, u54_64, u54_65, u54_68, u54_69, u54_72, u54_75, u54_76, o5, e5, e6, hx.1, q3, Option.toList_some, Option.toList_none, List.cons_append, List.nil_append, zRef_some, true_and, and_true, true_or, or_true, i10, i01]
        exact hQ
      · rw [if_pos h4]
        refine ⟨iv1, g1, hc1, kp, g3.2, fun Q hQ => start3 Q ?_⟩
        rw [decide_eq_false h4, if_neg (by decide)]
        simp only [u54_61, u54_62]
        exact hQ
theorem c_readInto {v : Value} (ht : isTx iv t) (hc : isCt iv 14 cs) (ho : cOk cs) : ∃ iv2, iv2 90 1 = nI (pGo t 80 cs 0).1 ∧ ((pGo t 80 cs 0).1 ≠ 0 → iv2 90 0 = nI (pGo t 80 cs 0).2.1 ∧ iv2 90 2 = nI (pGo t 80 cs 0).2.2.1 - nI (pGo t 80 cs 0).2.1) ∧ isCt iv2 14 (pGo t 80 cs 0).2.2.2 ∧ cOk (pGo t 80 cs 0).2.2.2 ∧ (∀ c, (c < 14 ∨ 26 ≤ c) → c ≠ 90 → iv2 c = iv c) ∧ ∀ (Q : Option Value → zA → Prop), Q none (zst p iv2) → zEv sc 55 0 [.ref 90, .ref 14, .ref 88, v] [] (zst p iv) Q := by
  obtain ⟨o1, o2, o3, o4, o5⟩ := z88
  have hl := ht.2.1
  have stop : ∀ (iv1 : Nat → Nat → Int32) k j r, k ≤ 80 → iv1 88 0 = nI t.length → iv1 90 3 = nI j → j < 1000 → iv1 90 1 = nI r → r < 1000 → (80 ≤ k ∨ t.length ≤ j ∨ r ≠ 0) → ∀ (Q : Option Value → zA → Prop), Q none (zst p iv1) → zEv sc 55 12 [.ref 90, .ref 14, .ref 88, .int (nI k)] [] (zst p iv1) Q := by
    intro iv1 k j r hk e0 e1 e2 e3 e4 h Q hQ
    have fin : zEv sc 55 73 [.ref 90, .ref 14, .ref 88, .int (nI k)] [] (zst p iv1) Q := by
      rw [u55_73]; exact hQ
    rw [u55_12, u55_13, u55_15, show (80 : Int32) = nI 80 from rfl]
    by_cases h1 : 80 ≤ k
    · rw [if_pos (by rw [nI_leI (by omega) (by omega)]; omega)]; exact fin
    · rw [if_neg (by rw [nI_leI (by omega) (by omega)]; omega)]
      simp only [u55_18, u55_19, u55_22, u55_23, u55_26, o1, o5, e0, e1]
      by_cases h2 : t.length ≤ j
      · rw [if_pos (by rw [nI_leI (by omega) (by omega)]; omega)]; exact fin
      · rw [if_neg (by rw [nI_leI (by omega) (by omega)]; omega)]
        simp only [u55_29, u55_30, u55_33, o5, e3]
        rw [if_pos (nI_ne0 (by omega) (by omega))]
        exact fin
  have loop : ∀ d k j (cs1 : CS) (iv1 : Nat → Nat → Int32), 80 - k = d → k ≤ 80 → j ≤ 100 → iv1 90 3 = nI j → iv1 90 1 = nI 0 → isTx iv1 t → isCt iv1 14 cs1 → cOk cs1 → ∃ iv2, iv2 90 1 = nI (pGo t d cs1 j).1 ∧ ((pGo t d cs1 j).1 ≠ 0 → iv2 90 0 = nI (pGo t d cs1 j).2.1 ∧ iv2 90 2 = nI (pGo t d cs1 j).2.2.1 - nI (pGo t d cs1 j).2.1) ∧ isCt iv2 14 (pGo t d cs1 j).2.2.2 ∧ cOk (pGo t d cs1 j).2.2.2 ∧ (∀ c, (c < 14 ∨ 26 ≤ c) → c ≠ 90 → iv2 c = iv1 c) ∧ ∀ (Q : Option Value → zA → Prop), Q none (zst p iv2) → zEv sc 55 12 [.ref 90, .ref 14, .ref 88, .int (nI k)] [] (zst p iv1) Q := by
    intro d
    induction d with
    | zero =>
      intro k j cs1 iv1 hd hk hj e1 e2 ht1 hc1 ho1
      exact ⟨iv1, e2, fun z => absurd rfl z, hc1, ho1, fun _ _ _ => rfl, fun Q hQ => stop iv1 k j 0 hk ht1.1 e1 (by omega) e2 (by omega) (Or.inl (by omega)) Q hQ⟩
    | succ d ih =>
      intro k j cs1 iv1 hd hk hj e1 e2 ht1 hc1 ho1
      unfold pGo
      by_cases h1 : j < t.length
      · rw [if_pos h1]
        have start : ∀ Q, zEv sc 55 12 [.ref 90, .ref 14, .ref 88, .int (nI k)] [] (zst p iv1) Q ↔ zEv sc 54 0 [.ref 90, .ref 14, .ref 88, .null] [] (zst p (w2 iv1 90 0 (nI j))) (fun r h9 => zEv sc 55 51 [.ref 90, .ref 14, .ref 88, .int (nI k)] (r.toList ++ [.ref 90]) h9 Q) := by
          intro Q
          rw [u55_12, u55_13, u55_15, show (80 : Int32) = nI 80 from rfl, if_neg (by rw [nI_leI (by omega) (by omega)]; omega)]
          simp only [u55_18, u55_19, u55_22, u55_23, u55_26, o1, o5, ht1.1, e1]
          rw [if_neg (by rw [nI_leI (by omega) (by omega)]; omega)]
          simp only [u55_29, u55_30, u55_33, o5, e2]
          rw [if_neg (show ¬ ¬ nI 0 = 0 from fun z => z rfl)]
          simp only [u55_36, u55_37, u55_38, u55_41, u55_44, u55_45, u55_46, u55_47, u55_48, o5, e1]
        have k1 : ∀ c, c ≠ 90 → (w2 iv1 90 0 (nI j)) c = iv1 c := fun c h => w2_c h
        have ht2 : isTx (w2 iv1 90 0 (nI j)) t := ht1.keep (fun c _ _ => k1 c (by omega))
        have hc2 : isCt (w2 iv1 90 0 (nI j)) 14 cs1 := hc1.keep (fun c _ _ => k1 c (by omega))
        obtain ⟨iv3, g1, g2, g3, g4, g5⟩ := c_readPart (sc := sc) (p := p) (v := .null) (i := j) ht2 (by rw [w2_g (by omega)]; exact e1) (by omega) hc2 ho1
        have hb := pSt_b (t := t) (i := j) (cs := cs1) ho1.2.1
        have hok := pSt_ok (t := t) (i := j) ho1 hc1.2.2.2.1.2.2.1 hc1.2.2.2.2.2.2.1
        obtain ⟨S, hS⟩ : ∃ S, S = pSt cs1 t j := ⟨_, rfl⟩
        rw [← hS] at g1 g2 g5 hb hok ⊢
        have hp : iv3 90 0 = nI j := by rw [g4 0 (by omega), w2_eq]
        obtain ⟨iv4, h4⟩ : ∃ iv4, iv4 = w2 (w2 iv3 90 1 (nI S.1)) 90 2 (nI S.2.1 - nI j) := ⟨_, rfl⟩
        have k4 : ∀ c, c ≠ 90 → iv4 c = iv3 c := fun c h => by rw [h4, w2_c h, w2_c h]
        have n4 : iv4 90 3 = nI S.2.1 := by rw [h4, w2_g (by omega), w2_g (by omega), g1]
        have r4 : iv4 90 1 = nI S.1 := by rw [h4, w2_g (by omega), w2_eq]
        have p4 : iv4 90 0 = nI j := by rw [h4, w2_g (by omega), w2_g (by omega), hp]
        have c4 : iv4 90 2 = nI S.2.1 - nI j := by rw [h4, w2_eq]
        have f4 : ∀ c, (c < 14 ∨ 26 ≤ c) → c ≠ 90 → iv4 c = iv1 c := fun c h h2 => by rw [k4 c h2, g3 c h h2, k1 c h2]
        have ct4 : isCt iv4 14 S.2.2 := g2.keep (fun c _ _ => k4 c (by omega))
        have ht4 : isTx iv4 t := ht1.keep (fun c _ _ => f4 c (by omega) (by omega))
        have next : ∀ Q, zEv sc 55 12 [.ref 90, .ref 14, .ref 88, .int (nI (k + 1))] [] (zst p iv4) Q → zEv sc 55 12 [.ref 90, .ref 14, .ref 88, .int (nI k)] [] (zst p iv1) Q := by
          intro Q hQ
          rw [start]
          refine g5 _ ?_
          simp only [u55_51, u55_54, u55_55, u55_56, u55_59, u55_60, u55_63, u55_64, u55_67, u55_70, o5, Option.toList_some, Option.toList_none, List.cons_append, List.nil_append, zRef_some, true_and, and_true, true_or, or_true, i10, i01, g1, hp, w2_eq, w2_g (show (3 : Nat) ≠ 1 by omega), w2_g (show (0 : Nat) ≠ 1 by omega), nI_1]
          rw [← h4]
          exact hQ
        by_cases h2 : S.1 = 0
        · rw [if_pos h2]
          obtain ⟨iv5, q1, q2, q3, q4, q5, q6⟩ := ih (k + 1) S.2.1 S.2.2 iv4 (by omega) (by omega) (by have := hb.2.2.1 h2; omega) n4 (by rw [r4, h2]) ht4 ct4 hok.1
          exact ⟨iv5, q1, q2, q3, q4, fun c h h2 => by rw [q5 c h h2, f4 c h h2], fun Q hQ => next Q (q6 Q hQ)⟩
        · rw [if_neg h2]
          refine ⟨iv4, r4, fun _ => ⟨p4, c4⟩, ct4, hok.1, f4, fun Q hQ => next Q ?_⟩
          exact stop iv4 (k + 1) S.2.1 S.1 (by omega) ht4.1 n4 (by omega) r4 (by omega) (Or.inr (Or.inr h2)) Q hQ
      · rw [if_neg h1]
        exact ⟨iv1, e2, fun z => absurd rfl z, hc1, ho1, fun _ _ _ => rfl, fun Q hQ => stop iv1 k j 0 hk ht1.1 e1 (by omega) e2 (by omega) (Or.inr (Or.inl (by omega))) Q hQ⟩
  have k1 : ∀ c, c ≠ 90 → (w2 (w2 iv 90 1 0) 90 3 0) c = iv c := fun c h => by rw [w2_c h, w2_c h]
  obtain ⟨iv2, g1, g2, g3, g4, g5, g6⟩ := loop 80 0 0 cs (w2 (w2 iv 90 1 0) 90 3 0) rfl (by omega) (by omega) (by rw [w2_eq]; rfl) (by rw [w2_g (by omega), w2_eq]; rfl) (ht.keep (fun c _ _ => k1 c (by omega))) (hc.keep (fun c _ _ => k1 c (by omega))) ho
  refine ⟨iv2, g1, g2, g3, g4, fun c h h2 => by rw [g5 c h h2, k1 c h2], fun Q hQ => ?_⟩
  have l0 := g6 Q hQ
  rw [nI_0] at l0
  simp only [u55_0, u55_1, u55_2, u55_5, u55_6, u55_7, u55_10, u55_11, o5]
  exact l0
theorem pGo_le (t : List Nat) : ∀ d (cs : CS) j, cOk cs → mOk (cM cs 0) → mOk (cM cs 1) → (pGo t d cs j).1 ≤ 3 ∧ ((pGo t d cs j).1 ≠ 0 → (pGo t d cs j).2.1 < t.length ∧ (pGo t d cs j).2.1 ≤ (pGo t d cs j).2.2.1 ∧ (pGo t d cs j).2.2.1 ≤ (pGo t d cs j).2.1 + 20) := by
  intro d
  induction d with
  | zero => intro cs j _ _ _; exact ⟨by show 0 ≤ 3; omega, fun z => absurd rfl z⟩
  | succ d ih =>
    intro cs j ho h0 h1
    have hb := pSt_b (t := t) (i := j) (cs := cs) ho.2.1
    have hok := pSt_ok (t := t) (i := j) ho h0 h1
    unfold pGo
    by_cases h2 : j < t.length
    · rw [if_pos h2]
      by_cases h3 : (pSt cs t j).1 = 0
      · rw [if_pos h3]
        exact ih _ _ hok.1 hok.2.1 hok.2.2
      · rw [if_neg h3]
        exact ⟨hb.2.2.2, fun _ => ⟨h2, hb.1, hb.2.1⟩⟩
    · rw [if_neg h2]
      exact ⟨by show 0 ≤ 3; omega, fun z => absurd rfl z⟩
theorem chr_snoc (t : List Nat) (x k : Nat) : chr (t ++ [x]) k = if k = t.length then x else chr t k := by
  unfold chr
  rw [List.getD_eq_getElem?_getD, List.getD_eq_getElem?_getD]
  by_cases h : k = t.length
  · subst h; rw [if_pos rfl, List.getElem?_append_right (Nat.le_refl _), Nat.sub_self]; rfl
  · rw [if_neg h]
    by_cases h2 : k < t.length
    · rw [List.getElem?_append_left h2]
    · rw [List.getElem?_eq_none (show (t ++ [x]).length ≤ k by rw [List.length_append, List.length_singleton]; omega), List.getElem?_eq_none (show t.length ≤ k by omega)]
theorem nar_chr : ∀ x, x < 127 → vp_nar .char ((nI x).toUInt32 % 65536).toInt32 = nI x := by decide +kernel
theorem c_append {x : Nat} (ht : isTx iv t) (hl : t.length < 80) (h1 : 32 ≤ x) (h2 : x ≤ 126) : ∃ iv2, isTx iv2 (t ++ [x]) ∧ (∀ c, c < 88 ∨ 90 ≤ c → iv2 c = iv c) ∧ ∀ (Q : Option Value → zA → Prop), Q none (zst p iv2) → zEv sc 43 0 [.ref 88, .int (nI x)] [] (zst p iv) Q := by
  obtain ⟨o1, o2, o3, o4, o5⟩ := z88
  refine ⟨w2 (w2 iv 89 t.length (nI x)) 88 0 (nI (t.length + 1)), ⟨by rw [w2_eq, List.length_append, List.length_singleton], by rw [List.length_append, List.length_singleton]; omega, fun k hk => ?_⟩, fun c hc => by rw [w2_c (by omega), w2_c (by omega)], fun Q hQ => ?_⟩
  · rw [List.length_append, List.length_singleton] at hk
    rw [chr_snoc, w2_c (by omega), w2_at]
    by_cases e : k = t.length
    · rw [if_pos e, if_pos ⟨rfl, e⟩]; exact ⟨rfl, h1, h2⟩
    · rw [if_neg e, if_neg (fun z => e z.2)]; exact ht.2.2 k (by omega)
  · simp only [u43_0, u43_1, u43_4, u43_6, o1, ht.1, show (80 : Int32) = nI 80 from rfl, nI_leI (show 80 < 2 ^ 31 by omega) (show t.length < 2 ^ 31 by omega)]
    rw [if_neg (by omega)]
    simp only [u43_9, u43_10, u43_13, u43_14, u43_17, u43_18, u43_19, u43_20, u43_21, u43_22, u43_25, u43_26, u43_27, u43_30, o1, o2, o3, o4, zRef_some, ht.1, nI_clamp (show t.length < 2 ^ 31 by omega), vp_in_nI (show t.length < 80 by omega) (by omega), true_and, nar_chr x (by omega), w2_c (show (88 : Nat) ≠ 89 by omega), nI_1]
    exact hQ
theorem c_clear : zEv sc 44 0 [.ref 88] [] (zst p iv) Q ↔ Q none (zst p (w2 iv 88 0 0)) := by
  simp only [u44_0, u44_1, u44_2, u44_5, z88.1]
end ZTX
