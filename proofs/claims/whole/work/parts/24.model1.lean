/-! ===== FieldMixturesModel: its state, its small methods ===== -/
def vOk (c : CS) : Prop := cOk c ∧ ∀ q, q < 2 → mOk (cM c q)
/-- as cOk, the mixtures aside -/
def wOk (c : CS) : Prop := 2 ≤ cN c ∧ cN c ≤ 4 ∧ cT c ≤ 2 ∧ (∀ f, f < 4 → 1 ≤ cV c f ∧ cV c f ≤ 9) ∧ ∀ q, q < 2 → cR c q ≤ 8 ∧ (∀ f, f < 4 → cB c q f ≤ 8) ∧ True
theorem cOk.w {c : CS} (h : cOk c) : wOk c := ⟨h.1, h.2.1, h.2.2.1, h.2.2.2.1, fun q hq => ⟨(h.2.2.2.2 q hq).1, (h.2.2.2.2 q hq).2.1, trivial⟩⟩
def isV (g : Nat → Int32) (c : CS) : Prop := g 0 = nI (cN c) ∧ g 1 = nI (cT c) ∧ (∀ f, f < 4 → g (2 + f) = nI (cV c f)) ∧ (∀ q, q < 2 → g (6 + q) = nI (cR c q)) ∧ (∀ q f, q < 2 → f < 4 → g (8 + 4 * q + f) = nI (cB c q f)) ∧ (∀ q, q < 2 → g (16 + 25 * q) = nI (cM c q).length) ∧ ∀ q k, q < 2 → k < (cM c q).length → g (16 + 25 * q + 1 + 2 * k) = nI (mA (cM c q) k) ∧ g (16 + 25 * q + 2 + 2 * k) = nI (mW (cM c q) k)
theorem isV.congr {g g2 : Nat → Int32} {c : CS} (h : isV g c) (o : vOk c) (e : ∀ k, k < 66 → g2 k = g k) : isV g2 c := by
  obtain ⟨h1, h2, h3, h4, h5, h6, h7⟩ := h
  refine ⟨by rw [e 0 (by omega)]; exact h1, by rw [e 1 (by omega)]; exact h2, fun f hf => by rw [e _ (by omega)]; exact h3 f hf, fun q hq => by rw [e _ (by omega)]; exact h4 q hq, fun q f hq hf => by rw [e _ (by omega)]; exact h5 q f hq hf, fun q hq => by rw [e _ (by omega)]; exact h6 q hq, fun q k hq hk => ?_⟩
  have := (o.2 q hq).1
  rw [e _ (by omega), e _ (by omega)]
  exact h7 q k hq hk
def RM (iv : Nat → Nat → Int32) (cs : CS) (hs : List CS) (t : List Nat) : Prop := isV (iv 92) cs ∧ vOk cs ∧ (iv 91 3 = nI hs.length ∧ hs.length ≤ 4 ∧ ∀ j (c : CS), hs[j]? = some c → isV (fun k => iv 94 (66 * j + k)) c ∧ vOk c) ∧ iv 91 5 = nI t.length ∧ t.length ≤ 80 ∧ ∀ k, k < t.length → iv 95 k = nI (chr t k) ∧ 32 ≤ chr t k ∧ chr t k ≤ 126
def FM (iv2 iv : Nat → Nat → Int32) : Prop := ∀ c, c < 91 → iv2 c = iv c
theorem FM.rf {iv : Nat → Nat → Int32} : FM iv iv := fun _ _ => rfl
/-- the cells that hold the state stay -/
def mKp (iv2 iv : Nat → Nat → Int32) : Prop := (∀ c, (c < 91 ∨ c = 92 ∨ c = 94 ∨ c = 95) → iv2 c = iv c) ∧ iv2 91 3 = iv 91 3 ∧ iv2 91 5 = iv 91 5
theorem mKp.rf {iv : Nat → Nat → Int32} : mKp iv iv := ⟨fun _ _ => rfl, rfl, rfl⟩
theorem mKp.tr {a b c : Nat → Nat → Int32} (h1 : mKp a b) (h2 : mKp b c) : mKp a c := ⟨fun x hx => (h1.1 x hx).trans (h2.1 x hx), h1.2.1.trans h2.2.1, h1.2.2.trans h2.2.2⟩
theorem RM.keep {iv iv2 : Nat → Nat → Int32} {cs : CS} {hs : List CS} {t : List Nat} (h : RM iv cs hs t) (e : mKp iv2 iv) : RM iv2 cs hs t := by
  obtain ⟨h1, h2, ⟨h3, h4, h5⟩, h6, h7, h8⟩ := h
  refine ⟨by rw [e.1 92 (by omega)]; exact h1, h2, ⟨by rw [e.2.1]; exact h3, h4, ?_⟩, by rw [e.2.2]; exact h6, h7, ?_⟩
  · rw [e.1 94 (by omega)]; exact h5
  · rw [e.1 95 (by omega)]; exact h8
theorem mKp.fm {iv iv2 : Nat → Nat → Int32} (e : mKp iv2 iv) : FM iv2 iv := fun c hc => e.1 c (by omega)
theorem z91 : zO 91 10 ∧ zO 92 100 ∧ zO 93 100 ∧ zO 94 100 ∧ zO 95 100 ∧ zO 96 100 ∧ zO 97 100 := ⟨zO_of (a := 91) (by omega) (by omega), zO_of (a := 92) (by omega) (by omega), zO_of (a := 93) (by omega) (by omega), zO_of (a := 94) (by omega) (by omega), zO_of (a := 95) (by omega) (by omega), zO_of (a := 96) (by omega) (by omega), zO_of (a := 97) (by omega) (by omega)⟩
theorem z92l : zLn 92 = 66 ∧ zLn 93 = 66 ∧ zLn 94 = 264 ∧ zLn 95 = 80 ∧ zLn 96 = 340 ∧ zLn 97 = 2 := ⟨zLn_of (a := 92) (by omega), zLn_of (a := 93) (by omega), zLn_of (a := 94) (by omega), zLn_of (a := 95) (by omega), zLn_of (a := 96) (by omega), zLn_of (a := 97) (by omega)⟩
theorem z91r {p : Nat → Option Nat} : zRV p 91 0 = some 92 ∧ zRV p 91 1 = some 93 ∧ zRV p 91 2 = some 94 ∧ zRV p 91 4 = some 95 ∧ zRV p 91 6 = some 96 ∧ zRV p 91 7 = some 97 := ⟨zRV_of (by decide +kernel) (by omega), zRV_of (by decide +kernel) (by omega), zRV_of (by decide +kernel) (by omega), zRV_of (by decide +kernel) (by omega), zRV_of (by decide +kernel) (by omega), zRV_of (by decide +kernel) (by omega)⟩
theorem c0 : (0 : Int32).toNatClampNeg = 0 := rfl
theorem c1 : (1 : Int32).toNatClampNeg = 1 := rfl
theorem v0 : vp_in 0 66 := vp_in_nI (n := 0) (by omega) (by omega)
theorem v1 : vp_in 1 66 := vp_in_nI (n := 1) (by omega) (by omega)
theorem okN {n : Nat} (h : n < 66) : vp_in (nI n) 66 := vp_in_nI h (by omega)
theorem n2 : (2 : Int32) = nI 2 := rfl
theorem n4 : (4 : Int32) = nI 4 := rfl
theorem n6 : (6 : Int32) = nI 6 := rfl
theorem n8 : (8 : Int32) = nI 8 := rfl
theorem n10 : (10 : Int32) = nI 10 := rfl
theorem n16 : (16 : Int32) = nI 16 := rfl
theorem n25 : (25 : Int32) = nI 25 := rfl
theorem n66 : (66 : Int32) = nI 66 := rfl
theorem n170 : (170 : Int32) = nI 170 := rfl
section ZM1
variable {sc : Nat × (Nat → Int32)} {Q : Option Value → zA → Prop} {h : zA} {p : Nat → Option Nat} {iv : Nat → Nat → Int32} {cs : CS} {hs : List CS} {t : List Nat} {x y z w lo hi : Int32} {q k : Nat}
theorem m_in : zEv sc 89 0 [.int x, .int lo, .int hi] [] h Q ↔ Q (some (.int (zb (decide (lo ≤ x ∧ x ≤ hi))))) h := by
  simp only [u89_0, u89_1, u89_2]
  by_cases h1 : x < lo
  · rw [if_pos h1, decide_eq_false (fun z => ii_lt.mp h1 z.1)]
    simp only [u89_15, u89_14, Option.toList_some, Option.toList_none, List.cons_append, List.nil_append, zRef_some, true_and, and_true, true_or, or_true, i10, i01]
    exact Iff.rfl
  · rw [if_neg h1]
    have h1 : lo ≤ x := by
      rw [ii_lt] at h1
      exact Decidable.of_not_not h1
    simp only [u89_5, u89_6, u89_7]
    by_cases h2 : hi < x
    · rw [if_pos h2, decide_eq_false (fun z => ii_lt.mp h2 z.2)]
      simp only [u89_15, u89_14, Option.toList_some, Option.toList_none, List.cons_append, List.nil_append, zRef_some, true_and, and_true, true_or, or_true, i10, i01]
      exact Iff.rfl
    · rw [if_neg h2]
      have h2 : x ≤ hi := by
        rw [ii_lt] at h2
        exact Decidable.of_not_not h2
      rw [decide_eq_true ⟨h1, h2⟩]
      simp only [u89_10, u89_11, u89_15, Option.toList_some, Option.toList_none, List.cons_append, List.nil_append, zRef_some, true_and, and_true, true_or, or_true, i10, i01]
      exact Iff.rfl
theorem m_isPlayer : zEv sc 93 0 [.int x] [] h Q ↔ Q (some (.int (zb (decide (0 ≤ x ∧ x ≤ 1))))) h := by
  simp only [u93_0, u93_1, u93_2, u93_3, u93_6, m_in, Option.toList_some, Option.toList_none, List.cons_append, List.nil_append, zRef_some, true_and, and_true, true_or, or_true, i10, i01, zb_01]
theorem m_isField (hv : isV (iv 92) cs) : zEv sc 94 0 [.ref 91, .int x] [] (zst p iv) Q ↔ Q (some (.int (zb (decide (0 ≤ x ∧ x ≤ nI (cN cs) - 1))))) (zst p iv) := by
  simp only [u94_0, u94_1, u94_2, u94_3, u94_6, u94_7, u94_8, u94_9, u94_10, u94_13, m_in, Option.toList_some, Option.toList_none, List.cons_append, List.nil_append, zRef_some, true_and, and_true, true_or, or_true, i10, i01, zb_01, z91.1, z91.2.1, z91r.1, z92l.1, c0, v0, hv.1]
/-- the copy of a row of 66 -/
def cp66 (iv : Nat → Nat → Int32) (a b : Nat) (n : Nat) : Nat → Nat → Int32 := fun c g => if c = a ∧ g < n then iv b g else iv c g
theorem cp66_s {iv : Nat → Nat → Int32} {a b n : Nat} (hab : a ≠ b) : w2 (cp66 iv a b n) a n (cp66 iv a b n b n) = cp66 iv a b (n + 1) := by
  funext c g
  rw [w2_at]
  unfold cp66
  rw [if_neg (show ¬ (b = a ∧ n < n) from fun z => hab z.1.symm)]
  by_cases e : c = a
  · subst e
    by_cases e2 : g = n
    · subst e2; rw [if_pos ⟨rfl, rfl⟩, if_pos ⟨rfl, by omega⟩]
    · rw [if_neg (fun z => e2 z.2)]
      by_cases e3 : g < n
      · rw [if_pos ⟨rfl, e3⟩, if_pos ⟨rfl, by omega⟩]
      · rw [if_neg (fun z => e3 z.2), if_neg (fun z => absurd z.2 (by omega))]
  · rw [if_neg (fun z => e z.1), if_neg (fun z => e z.1), if_neg (fun z => e z.1)]
theorem m_begins {v : Value} : zEv sc 90 0 [.ref 91, v] [] (zst p iv) Q ↔ Q none (zst p (cp66 iv 93 92 66)) := by
  have loop : ∀ d i, 66 - i = d → i ≤ 66 → (zEv sc 90 2 [.ref 91, .int (nI i)] [] (zst p (cp66 iv 93 92 i)) Q ↔ Q none (zst p (cp66 iv 93 92 66))) := by
    intro d
    induction d with
    | zero =>
      intro i hd hi
      have : i = 66 := by omega
      subst this
      rw [u90_2, u90_3, u90_5, if_pos (by decide), u90_26]
    | succ d ih =>
      intro i hd hi
      rw [u90_2, u90_3, u90_5, n66, if_neg (by rw [nI_leI (by omega) (by omega)]; omega)]
      simp only [u90_8, u90_9, u90_12, u90_13, u90_14, u90_17, u90_18, u90_19, u90_20, u90_23, zRef_some, z91.1, z91.2.1, z91.2.2.1, z91r.1, z91r.2.1, z92l.1, z92l.2.1, okN (show i < 66 by omega), nI_clamp (show i < 2 ^ 31 by omega), true_and, cp66_s (show (93 : Nat) ≠ 92 by omega), nI_1]
      exact ih (i + 1) (by omega) (by omega)
  have l0 := loop 66 0 rfl (by omega)
  rw [nI_0, show cp66 iv 93 92 0 = iv from by funext c g; unfold cp66; rw [if_neg (fun z => absurd z.2 (Nat.not_lt_zero _))]] at l0
  simp only [u90_0, u90_1]
  exact l0
theorem m_returns {v : Value} : zEv sc 91 0 [.ref 91, v] [] (zst p iv) Q ↔ Q none (zst p (cp66 iv 92 93 66)) := by
  have loop : ∀ d i, 66 - i = d → i ≤ 66 → (zEv sc 91 2 [.ref 91, .int (nI i)] [] (zst p (cp66 iv 92 93 i)) Q ↔ Q none (zst p (cp66 iv 92 93 66))) := by
    intro d
    induction d with
    | zero =>
      intro i hd hi
      have : i = 66 := by omega
      subst this
      rw [u91_2, u91_3, u91_5, if_pos (by decide), u91_26]
    | succ d ih =>
      intro i hd hi
      rw [u91_2, u91_3, u91_5, n66, if_neg (by rw [nI_leI (by omega) (by omega)]; omega)]
      simp only [u91_8, u91_9, u91_12, u91_13, u91_14, u91_17, u91_18, u91_19, u91_20, u91_23, zRef_some, z91.1, z91.2.1, z91.2.2.1, z91r.1, z91r.2.1, z92l.1, z92l.2.1, okN (show i < 66 by omega), nI_clamp (show i < 2 ^ 31 by omega), true_and, cp66_s (show (92 : Nat) ≠ 93 by omega), nI_1]
      exact ih (i + 1) (by omega) (by omega)
  have l0 := loop 66 0 rfl (by omega)
  rw [nI_0, show cp66 iv 92 93 0 = iv from by funext c g; unfold cp66; rw [if_neg (fun z => absurd z.2 (Nat.not_lt_zero _))]] at l0
  simp only [u91_0, u91_1]
  exact l0
theorem m_amount {y f : Nat} {v1 v2 : Value} (hv : isV (iv 92) cs) (ho : wOk cs) (hf : f < cN cs) (hy : y < 10000) : zEv sc 95 0 [.ref 91, .int (nI y), .int (nI f), v1, v2] [] (zst p iv) Q ↔ Q (some (.int (nI (dg (cN cs) y f)))) (zst p iv) := by
  have hn := ho.2.1
  have loop : ∀ d j, cN cs - 1 - f - j = d → j ≤ cN cs - 1 - f → (zEv sc 95 12 [.ref 91, .int (nI y), .int (nI f), .int (nI (y / 10 ^ j)), .int (nI (cN cs - 1 - j))] [] (zst p iv) Q ↔ Q (some (.int (nI (dg (cN cs) y f)))) (zst p iv)) := by
    intro d
    induction d with
    | zero =>
      intro j hd hj
      have e : j = cN cs - 1 - f := by omega
      have e2 : cN cs - 1 - j = f := by omega
      have hlt : y / 10 ^ j < 2 ^ 31 := Nat.lt_of_le_of_lt (Nat.div_le_self _ _) (by omega)
      rw [e2, u95_12, u95_14, u95_15, if_pos (Int32.le_refl _)]
      simp only [u95_29, u95_30, u95_32, u95_33, n10_0, not_false_eq_true, true_and, n_d10 hlt, n_r10 hlt]
      rw [e]
      rfl
    | succ d ih =>
      intro j hd hj
      have hlt : y / 10 ^ j < 2 ^ 31 := Nat.lt_of_le_of_lt (Nat.div_le_self _ _) (by omega)
      obtain ⟨i, hi⟩ : ∃ i, cN cs - 1 - j = i + 1 := ⟨cN cs - 1 - j - 1, by omega⟩
      rw [u95_12, u95_14, u95_15, hi, if_neg (by rw [nI_leI (by omega) (by omega)]; omega)]
      simp only [u95_18, u95_19, u95_21, u95_22, u95_23, u95_26, n10_0, not_false_eq_true, true_and, n_d10 hlt, pk_m1]
      rw [Nat.div_div_eq_div_mul, ← Nat.pow_succ, show i = cN cs - 1 - (j + 1) by omega]
      exact ih (j + 1) (by omega) (by omega)
  obtain ⟨i, hi⟩ : ∃ i, cN cs = i + 1 := ⟨cN cs - 1, by omega⟩
  have l0 := loop _ 0 rfl (Nat.zero_le _)
  rw [Nat.pow_zero, Nat.div_one, Nat.sub_zero] at l0
  simp only [u95_0, u95_1, u95_2, u95_3, u95_6, u95_7, u95_8, u95_9, u95_10, zRef_some, true_and, z91.1, z91.2.1, z91r.1, z92l.1, c0, v0, hv.1]
  rw [show nI (cN cs) - 1 = nI (cN cs - 1) by rw [hi, nI_pred]; rfl]
  exact l0
-- allocations
def okR (n x : Nat) (b : Nat → Nat) : Nat → Bool
  | 0 => true
  | f + 1 => okR n x b f && decide (dg n x f ≤ b f)
def dsR (n x : Nat) : Nat → Nat
  | 0 => 0
  | f + 1 => dsR n x f + dg n x f
theorem okR_s {n x f : Nat} {b : Nat → Nat} : okR n x b (f + 1) = (okR n x b f && decide (dg n x f ≤ b f)) := rfl
theorem dsR_s {n x f : Nat} : dsR n x (f + 1) = dsR n x f + dg n x f := rfl
theorem okR_0 {n x : Nat} {b : Nat → Nat} : okR n x b 0 = true := rfl
theorem dsR_0 {n x : Nat} : dsR n x 0 = 0 := rfl
theorem okR_p {n x : Nat} {b : Nat → Nat} : ∀ f, f ≤ n → okR (n + 1) x b f = okR n (x / 10) b f := by
  intro f
  induction f with
  | zero => intro _; rfl
  | succ f ih =>
    intro hf
    unfold okR
    rw [ih (by omega), dg_prev (by omega)]
theorem dsR_p {n x : Nat} : ∀ f, f ≤ n → dsR (n + 1) x f = dsR n (x / 10) f := by
  intro f
  induction f with
  | zero => intro _; rfl
  | succ f ih =>
    intro hf
    unfold dsR
    rw [ih (by omega), dg_prev (by omega)]
theorem alw_R {b : Nat → Nat} : ∀ n x r, alw n b x r = (decide (x < 10 ^ n) && (okR n x b n && decide (dsR n x n = r))) := by
  intro n
  induction n with
  | zero =>
    intro x r
    unfold alw okR dsR
    rw [Nat.pow_zero, Bool.true_and, ← Bool.decide_and]
    exact decide_eq_decide.mpr ⟨fun h => ⟨by omega, h.1.symm⟩, fun h => ⟨h.2.symm, by omega⟩⟩
  | succ n ih =>
    intro x r
    unfold alw okR dsR
    rw [okR_p n (Nat.le_refl _), dsR_p n (Nat.le_refl _), dg_last, Nat.pow_succ]
    have hx : x / 10 < 10 ^ n ↔ x < 10 ^ n * 10 := by
      rw [Nat.div_lt_iff_lt_mul (by omega)]
    by_cases h : b n < x % 10 ∨ r < x % 10
    · rw [if_pos h]
      symm
      rw [Bool.and_eq_false_iff, Bool.and_eq_false_iff, Bool.and_eq_false_iff]
      rcases h with h | h
      · exact Or.inr (Or.inl (Or.inr (decide_eq_false (by omega))))
      · exact Or.inr (Or.inr (decide_eq_false (by omega)))
    · rw [if_neg h, ih, decide_eq_true (show x % 10 ≤ b n by omega), Bool.and_true]
      congr 1
      · exact decide_eq_decide.mpr hx
      · congr 1
        exact decide_eq_decide.mpr (by omega)
theorem dsR_le (n x : Nat) : ∀ f, dsR n x f ≤ 9 * f := by
  intro f
  induction f with
  | zero => exact Nat.le_refl _
  | succ f ih =>
    unfold dsR
    have := dg_lt n x f
    omega
theorem m_isAlloc {v3 v4 v5 v6 v7 : Value} (hv : isV (iv 92) cs) (ho : wOk cs) (hq : q < 2) : zEv sc 96 0 [.ref 91, .int (nI q), .int x, v3, v4, v5, v6, v7] [] (zst p iv) Q ↔ Q (some (.int (zb (isA cs q x)))) (zst p iv) := by
  have hn := ho.2.1
  have hn2 := ho.1
  have hpow : ∃ T, T = 10 ^ cN cs - 1 ∧ T < 10000 ∧ T + 1 = 10 ^ cN cs := by
    rcases (show cN cs = 2 ∨ cN cs = 3 ∨ cN cs = 4 by omega) with e | e | e <;> rw [e] <;> exact ⟨_, rfl, by decide, by decide⟩
  obtain ⟨T, hT, hT2, hT3⟩ := hpow
  have head : zEv sc 96 0 [.ref 91, .int (nI q), .int x, v3, v4, v5, v6, v7] [] (zst p iv) Q ↔ zEv sc 96 34 [.ref 91, .int (nI q), .int x, v3, v4, v5, v6, v7] [.int (nI T)] (zst p iv) Q := by
    have h0 := hv.1
    rcases (show cN cs = 2 ∨ cN cs = 3 ∨ cN cs = 4 by omega) with e | e | e
    · rw [e] at hT h0
      simp only [u96_0, u96_1, u96_4, u96_5, u96_6, zRef_some, true_and, z91.1, z91.2.1, z91r.1, z92l.1, c0, v0, h0]
      rw [u96_7, if_neg (by decide)]
      simp only [u96_10, u96_12]
      rw [hT]
      exact Iff.rfl
    · rw [e] at hT h0
      simp only [u96_0, u96_1, u96_4, u96_5, u96_6, zRef_some, true_and, z91.1, z91.2.1, z91r.1, z92l.1, c0, v0, h0]
      rw [u96_7, if_pos (by decide)]
      simp only [u96_15, u96_16, u96_19, u96_20, u96_21, zRef_some, true_and, z91.1, z91.2.1, z91r.1, z92l.1, c0, v0, h0]
      rw [u96_22, if_neg (by decide)]
      simp only [u96_25, u96_28]
      rw [hT]
      exact Iff.rfl
    · rw [e] at hT h0
      simp only [u96_0, u96_1, u96_4, u96_5, u96_6, zRef_some, true_and, z91.1, z91.2.1, z91r.1, z92l.1, c0, v0, h0]
      rw [u96_7, if_pos (by decide)]
      simp only [u96_15, u96_16, u96_19, u96_20, u96_21, zRef_some, true_and, z91.1, z91.2.1, z91r.1, z92l.1, c0, v0, h0]
      rw [u96_22, if_pos (by decide)]
      simp only [u96_31]
      rw [hT]
      exact Iff.rfl
  rw [head]
  by_cases g : 0 ≤ x ∧ x ≤ nI T
  · have d1 := decide_eq_true g
    obtain ⟨j, hj, rfl⟩ := in_nI (k := T) (by omega) g.1 g.2
    have e1 : isA cs q (nI j) = (okR (cN cs) j (cB cs q) (cN cs) && decide (dsR (cN cs) j (cN cs) = cR cs q)) := by
      unfold isA
      rw [alwI_n (by omega), alw_R, decide_eq_true (show j < 10 ^ cN cs by omega), Bool.true_and]
    rw [e1]
    have loop : ∀ d f (v : Value), cN cs - f = d → f ≤ cN cs → (zEv sc 96 55 [.ref 91, .int (nI q), .int (nI j), .int (nI T), .int (nI (dsR (cN cs) j f)), .int (zb (okR (cN cs) j (cB cs q) f)), .int (nI f), v] [] (zst p iv) Q ↔ Q (some (.int (zb (okR (cN cs) j (cB cs q) (cN cs) && decide (dsR (cN cs) j (cN cs) = cR cs q))))) (zst p iv)) := by
      intro d
      induction d with
      | zero =>
        intro f v hd hf
        have : f = cN cs := by omega
        subst this
        have hr := (ho.2.2.2.2 q hq).1
        have hds := dsR_le (cN cs) j (cN cs)
        rw [u96_55]
        simp only [u96_57, u96_58, u96_61, u96_62, zRef_some, true_and, z91.1, z91.2.1, z91r.1, z92l.1, c0, v0, hv.1]
        rw [u96_63, if_pos (Int32.le_refl _)]
        simp only [u96_119, u96_121]
        rcases Bool.eq_false_or_eq_true (okR (cN cs) j (cB cs q) (cN cs)) with hk | hk
        · rw [hk, zb_t, if_neg (by decide), Bool.true_and]
          simp only [u96_124, u96_126, u96_127, u96_130, u96_132, u96_133, u96_134, zRef_some, true_and, z91.1, z91.2.1, z91r.1, z92l.1, n6, nI_add, okN (show 6 + q < 66 by omega), nI_clamp (show 6 + q < 2 ^ 31 by omega), hv.2.2.2.1 q hq]
          rw [u96_135]
          simp only [nI_eq (show dsR (cN cs) j (cN cs) < 2 ^ 31 by omega) (show cR cs q < 2 ^ 31 by omega)]
          by_cases e : dsR (cN cs) j (cN cs) = cR cs q
          · rw [if_neg (fun z => z e), decide_eq_true e]
            simp only [u96_138, u96_139, u96_143, Option.toList_some, Option.toList_none, List.cons_append, List.nil_append, zRef_some, true_and, and_true, true_or, or_true, i10, i01]
            exact Iff.rfl
          · rw [if_pos e, decide_eq_false e]
            simp only [u96_143, u96_142, Option.toList_some, Option.toList_none, List.cons_append, List.nil_append, zRef_some, true_and, and_true, true_or, or_true, i10, i01]
            exact Iff.rfl
        · rw [hk, zb_f, if_pos rfl, Bool.false_and]
          simp only [u96_143, u96_142, Option.toList_some, Option.toList_none, List.cons_append, List.nil_append, zRef_some, true_and, and_true, true_or, or_true, i10, i01]
          exact Iff.rfl
      | succ d ih =>
        intro f v hd hf
        have hb := (ho.2.2.2.2 q hq).2.1 f (by omega)
        have hdg := dg_lt (cN cs) j f
        have ih1 := ih (f + 1) (.int (nI (dg (cN cs) j f))) (by omega) (by omega)
        rw [okR_s, dsR_s] at ih1
        rw [← ih1, u96_55]
        simp only [u96_57, u96_58, u96_61, u96_62, zRef_some, true_and, z91.1, z91.2.1, z91r.1, z92l.1, c0, v0, hv.1]
        rw [u96_63, if_neg (by rw [nI_leI (by omega) (by omega)]; omega)]
        simp only [u96_66, u96_67, u96_68, u96_70, u96_73, u96_75, Option.toList_some, Option.toList_none, List.cons_append, List.nil_append, zRef_some, true_and, and_true, true_or, or_true, i10, i01, z91.1, m_amount hv ho (show f < cN cs by omega) (show j < 10000 by omega)]
        have tail : ∀ b : Bool, zEv sc 96 104 [.ref 91, .int (nI q), .int (nI j), .int (nI T), .int (nI (dsR (cN cs) j f)), .int (zb (okR (cN cs) j (cB cs q) f)), .int (nI f), .int (nI (dg (cN cs) j f))] [.int (zb b)] (zst p iv) Q ↔ zEv sc 96 55 [.ref 91, .int (nI q), .int (nI j), .int (nI T), .int (nI (dsR (cN cs) j f + dg (cN cs) j f)), .int (zb b), .int (nI (f + 1)), .int (nI (dg (cN cs) j f))] [] (zst p iv) Q := by
          intro b
          simp only [u96_104, u96_106, u96_108, u96_110, u96_111, u96_113, u96_116, nI_add, nI_1]
        rw [u96_77]
        rcases Bool.eq_false_or_eq_true (okR (cN cs) j (cB cs q) f) with hk | hk
        · rw [hk] at tail ⊢
          rw [zb_t, if_neg (by decide), Bool.true_and]
          simp only [u96_80, u96_82, u96_83, u96_86, u96_88, u96_89, u96_90, u96_91, u96_92, u96_94, u96_95, zRef_some, true_and, z91.1, z91.2.1, z91r.1, z92l.1, n8, n4, pk_mul, nI_add, okN (show 8 + 4 * q + f < 66 by omega), nI_clamp (show 8 + 4 * q + f < 2 ^ 31 by omega), hv.2.2.2.2.1 q f hq (by omega)]
          rw [u96_96]
          simp only [nI_ltI (show cB cs q f < 2 ^ 31 by omega) (show dg (cN cs) j f < 2 ^ 31 by omega)]
          by_cases e : cB cs q f < dg (cN cs) j f
          · rw [if_pos e, decide_eq_false (show ¬ dg (cN cs) j f ≤ cB cs q f by omega), u96_103]
            exact tail false
          · rw [if_neg e, decide_eq_true (show dg (cN cs) j f ≤ cB cs q f by omega), u96_99, u96_100]
            exact tail true
        · rw [hk] at tail ⊢
          rw [zb_f, if_pos rfl, Bool.false_and, u96_103]
          exact tail false
    have l0 := loop _ 0 v7 rfl (Nat.zero_le _)
    rw [okR_0, dsR_0, nI_0, zb_t] at l0
    simp only [u96_34, u96_35, u96_36, u96_37, u96_38, u96_41, u96_44, u96_45, u96_46, u96_47, u96_49, u96_50, u96_52, u96_53, m_in, d1, zb_t, Option.toList_some, Option.toList_none, List.cons_append, List.nil_append, zRef_some, true_and, and_true, true_or, or_true, i10, i01, not_false_eq_true, if_true]
    exact l0
  · have d1 := decide_eq_false g
    have e1 : isA cs q x = false := by
      rw [← Bool.not_eq_true]
      intro e
      unfold isA alwI at e
      rw [Bool.and_eq_true] at e
      have h0 := of_decide_eq_true e.1
      have hx : ¬ x < 0 := by
        rw [Int32.lt_iff_toInt_lt]
        rw [Int32.le_iff_toInt_le] at h0
        omega
      obtain ⟨j, hj, rfl⟩ := nI_of hx
      have h2 := e.2
      rw [nI_clamp hj, alw_R, Bool.and_eq_true] at h2
      have h3 := of_decide_eq_true h2.1
      exact g ⟨h0, (nI_leI hj (by omega)).mpr (by omega)⟩
    rw [e1]
    simp only [u96_34, u96_35, u96_36, u96_37, u96_38, u96_41, u96_44, u96_45, m_in, d1, zb_f, Option.toList_some, Option.toList_none, List.cons_append, List.nil_append, zRef_some, true_and, and_true, true_or, or_true, i10, i01, not_true_eq_false, if_false]
end ZM1
