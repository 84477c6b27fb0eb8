/-! ===== FieldMixtures$AllocationList, $Scores, $BestReply, fractions ===== -/
theorem zCell {a : Nat} {k n : Nat} (h1 : 1 ≤ a) (h2 : a < 91) (e : zi_sh.getD a (0, 0) = (k, n)) : zO a k ∧ zLn a = n := by
  have o1 := zO_of h1 h2
  have o2 := zLn_of h2
  rw [e] at o1 o2
  exact ⟨o1, o2⟩
theorem z1o : zO 1 9 := (zCell (by omega) (by omega) (n := 0) rfl).1
theorem z1r {p : Nat → Option Nat} : zRV p 1 0 = some 2 ∧ zRV p 1 1 = some 14 ∧ zRV p 1 2 = some 26 ∧ zRV p 1 3 = some 76 ∧ zRV p 1 4 = some 78 ∧ zRV p 1 5 = some 80 ∧ zRV p 1 6 = some 86 ∧ zRV p 1 7 = some 87 ∧ zRV p 1 8 = some 88 ∧ zRV p 1 9 = some 90 :=
  ⟨zRV_of (by decide +kernel) (by omega), zRV_of (by decide +kernel) (by omega), zRV_of (by decide +kernel) (by omega), zRV_of (by decide +kernel) (by omega), zRV_of (by decide +kernel) (by omega), zRV_of (by decide +kernel) (by omega), zRV_of (by decide +kernel) (by omega), zRV_of (by decide +kernel) (by omega), zRV_of (by decide +kernel) (by omega), zRV_of (by decide +kernel) (by omega)⟩
def zAl (a : Nat) : Prop := zO a 0 ∧ zO (a + 1) 100 ∧ zLn (a + 1) = 165 ∧ ∀ p, zRV p a 1 = some (a + 1)
theorem zAl_76 : zAl 76 := ⟨(zCell (by omega) (by omega) (n := 0) rfl).1, (zCell (by omega) (by omega) (n := 165) rfl).1, (zCell (by omega) (by omega) (k := 100) rfl).2, fun p => zRV_of (by decide +kernel) (by omega)⟩
theorem zAl_78 : zAl 78 := ⟨(zCell (by omega) (by omega) (n := 0) rfl).1, (zCell (by omega) (by omega) (n := 165) rfl).1, (zCell (by omega) (by omega) (k := 100) rfl).2, fun p => zRV_of (by decide +kernel) (by omega)⟩
theorem z80 : zO 80 5 ∧ zO 81 103 ∧ zLn 81 = 4 ∧ (∀ p, zRV p 80 2 = some 81) ∧ ∀ f, f < 4 → zO (82 + f) 100 ∧ zLn (82 + f) = 10 ∧ ∀ p, zRV p 81 f = some (82 + f) := by
  refine ⟨(zCell (by omega) (by omega) (n := 0) rfl).1, (zCell (by omega) (by omega) (n := 4) rfl).1, (zCell (by omega) (by omega) (k := 103) rfl).2, fun p => zRV_of (by decide +kernel) (by omega), fun f hf => ?_⟩
  rcases (show f = 0 ∨ f = 1 ∨ f = 2 ∨ f = 3 by omega) with rfl | rfl | rfl | rfl
  all_goals exact ⟨(zCell (by omega) (by omega) (n := 10) rfl).1, (zCell (by omega) (by omega) (k := 100) rfl).2, fun p => zRV_of (by decide +kernel) (by omega)⟩
theorem z86 : zO 86 1 ∧ zO 87 1 := ⟨(zCell (by omega) (by omega) (n := 0) rfl).1, (zCell (by omega) (by omega) (n := 0) rfl).1⟩
theorem z88 : zO 88 7 ∧ zO 89 101 ∧ zLn 89 = 80 ∧ (∀ p, zRV p 88 1 = some 89) ∧ zO 90 8 := ⟨(zCell (by omega) (by omega) (n := 0) rfl).1, (zCell (by omega) (by omega) (n := 80) rfl).1, (zCell (by omega) (by omega) (k := 101) rfl).2, fun p => zRV_of (by decide +kernel) (by omega), (zCell (by omega) (by omega) (n := 0) rfl).1⟩
def isAL (iv : Nat → Nat → Int32) (a : Nat) (l : List Nat) : Prop := iv a 0 = nI l.length ∧ l.length ≤ 165 ∧ ∀ k, k < l.length → iv (a + 1) k = nI (l.getD k 0)
theorem isAL.keep {iv iv2 : Nat → Nat → Int32} {a : Nat} {l : List Nat} (h : isAL iv a l) (e : ∀ c, a ≤ c → c < a + 2 → iv2 c = iv c) : isAL iv2 a l :=
  ⟨by rw [e a (by omega) (by omega)]; exact h.1, h.2.1, fun k hk => by rw [e (a + 1) (by omega) (by omega)]; exact h.2.2 k hk⟩
theorem alsUp_mono {n r : Nat} {b : Nat → Nat} (m : Nat) : ∀ d, (alsUp n b r m).length ≤ (alsUp n b r (m + d)).length := by
  intro d
  induction d with
  | zero => exact Nat.le_refl _
  | succ d ih =>
    rw [show m + (d + 1) = m + d + 1 by omega, alsUp_s, List.length_append]
    omega
theorem alsUp_len {n r : Nat} {b : Nat → Nat} (h1 : 2 ≤ n) (h2 : n ≤ 4) (hr : r ≤ 8) (m : Nat) : (alsUp n b r m).length ≤ 165 := by
  have e := als_len (b := b) h1 h2 hr
  have h3 := alsUp_mono (n := n) (r := r) (b := b) m (r * 10 ^ (n - 1) + 1)
  rw [als_end h1 h2 hr (show r * 10 ^ (n - 1) < m + (r * 10 ^ (n - 1) + 1) by omega)] at h3
  omega
section ZPLAY
variable {sc : Nat × (Nat → Int32)} {Q : Option Value → zA → Prop} {h : zA} {p : Nat → Option Nat} {iv : Nat → Nat → Int32} {b q n r a s : Nat} {cs : CS} {x lo hi : Int32} {bd : Nat → Nat} {l own : List (Nat × Nat)}
theorem c_fill {v1 v2 : Value} (ha : zAl a) (hs : zSd s) (hd : a + 2 ≤ s ∨ s + 5 ≤ a) (h1 : 2 ≤ n) (h2 : n ≤ 4) (hr : r ≤ 8) (hl : isSd iv s r bd l) (hb : ∀ f, f < 4 → bd f < 100) : ∃ iv2, isAL iv2 a (als n bd r) ∧ (∀ c, c ≠ a → c ≠ a + 1 → iv2 c = iv c) ∧ ∀ (Q : Option Value → zA → Prop), Q none (zst p iv2) → zEv sc 2 0 [.ref a, .ref s, .int (nI n), v1, v2] [] (zst p iv) Q := by
  obtain ⟨o1, o2, o3, o4⟩ := id ha
  obtain ⟨P, hP⟩ : ∃ P, P = r * 10 ^ (n - 1) := ⟨_, rfl⟩
  have hPl : P ≤ 8000 := by
    rw [hP]
    rcases (show n = 2 ∨ n = 3 ∨ n = 4 by omega) with rfl | rfl | rfl
    · have : (10 : Nat) ^ (2 - 1) = 10 := rfl
      rw [this]; omega
    · have : (10 : Nat) ^ (3 - 1) = 100 := rfl
      rw [this]; omega
    · have : (10 : Nat) ^ (4 - 1) = 1000 := rfl
      rw [this]; omega
  have hrP : r ≤ P := by rw [hP]; exact Nat.le_mul_of_pos_right r (Nat.pos_of_ne_zero (by simp))
  -- the last number
  have loop0 : ∀ Q d k, n - 1 - k = d → k ≤ n - 1 → (zEv sc 2 8 [.ref a, .ref s, .int (nI n), .int (nI (r * 10 ^ k)), .int (nI (k + 1))] [] (zst p iv) Q ↔ zEv sc 2 25 [.ref a, .ref s, .int (nI n), .int (nI P), .int (nI n)] [] (zst p iv) Q) := by
    intro Q d
    induction d with
    | zero =>
      intro k hd2 hk
      have : k = n - 1 := by omega
      subst this
      rw [u2_8, u2_10, u2_11, show n - 1 + 1 = n by omega, if_pos (Int32.le_refl _), hP]
    | succ d ih =>
      intro k hd2 hk
      rw [u2_8, u2_10, u2_11, if_neg (by rw [nI_leI (by omega) (by omega)]; omega)]
      simp only [u2_14, u2_15, u2_17, u2_18, u2_19, u2_22, show (10 : Int32) = nI 10 from rfl, pk_mul, nI_1]
      rw [Nat.mul_assoc, ← Nat.pow_succ]
      exact ih (k + 1) (by omega) (by omega)
  -- the numbers
  have loop := z_loop (σ := Nat → Nat → Int32) (fun j iv2 Q => zEv sc 2 36 [.ref a, .ref s, .int (nI n), .int (nI P), .int (nI (r + 9 * j))] [] (zst p iv2) Q) (fun j iv2 => isAL iv2 a (alsUp n bd r (r + 9 * j)) ∧ ∀ c, c ≠ a → c ≠ a + 1 → iv2 c = iv c) ((P - r) / 9 + 1) (by
    intro j iv1 hj ⟨g1, g2⟩
    have hle : r + 9 * j ≤ P := by omega
    have hlen := alsUp_len (b := bd) h1 h2 hr (r + 9 * j)
    have hlen2 := alsUp_len (b := bd) h1 h2 hr (r + 9 * (j + 1))
    have hl2 : isSd iv1 s r bd l := hl.keep (fun c e1 e2 => g2 c (by omega) (by omega))
    have e9 : nI (r + 9 * j) + 9 = nI (r + 9 * (j + 1)) := by
      rw [show (9 : Int32) = nI 9 from rfl, nI_add]
      congr 1
    have start : ∀ Q, zEv sc 2 36 [.ref a, .ref s, .int (nI n), .int (nI P), .int (nI (r + 9 * j))] [] (zst p iv1) Q ↔ (if 165 ≤ (alsUp n bd r (r + 9 * j)).length then zEv sc 2 83 [.ref a, .ref s, .int (nI n), .int (nI P), .int (nI (r + 9 * j))] [] (zst p iv1) Q else if zb (alw n bd (r + 9 * j) r) = 0 then zEv sc 2 83 [.ref a, .ref s, .int (nI n), .int (nI P), .int (nI (r + 9 * j))] [] (zst p iv1) Q else zEv sc 2 62 [.ref a, .ref s, .int (nI n), .int (nI P), .int (nI (r + 9 * j))] [] (zst p iv1) Q) := by
      intro Q
      rw [u2_36, u2_38, u2_39, if_neg (by rw [nI_ltI (by omega) (by omega)]; omega)]
      simp only [u2_42, u2_43, u2_46, u2_49, u2_52, u2_53, u2_55, u2_56, u2_59, o1, hs.1, g1.1, c_allows hs h2 hl2.1 hl2.2.1 (show r < 100 by omega) hb, alwI_n (show r + 9 * j < 2 ^ 31 by omega), Option.toList_some, Option.toList_none, List.cons_append, List.nil_append, zRef_some, true_and, and_true, true_or, or_true, i10, i01, show (165 : Int32) = nI 165 from rfl, nI_leI (show 165 < 2 ^ 31 by omega) (show (alsUp n bd r (r + 9 * j)).length < 2 ^ 31 by omega)]
    by_cases e : alw n bd (r + 9 * j) r = true
    · have hs9 := alsUp_9 (b := bd) (r := r) (show 0 < n by omega) j
      rw [if_pos e] at hs9
      have hlt : (alsUp n bd r (r + 9 * j)).length < 165 := by
        have := congrArg List.length hs9
        rw [List.length_append] at this
        simp at this
        omega
      refine ⟨w2 (w2 iv1 (a + 1) (alsUp n bd r (r + 9 * j)).length (nI (r + 9 * j))) a 0 (nI ((alsUp n bd r (r + 9 * j)).length + 1)), ⟨⟨?_, hlen2, fun k hk => ?_⟩, fun c e1 e2 => by rw [w2_c e1, w2_c e2]; exact g2 c e1 e2⟩, fun Q hQ => (start Q).mpr ?_⟩
      · rw [w2_eq, hs9, List.length_append]; rfl
      · rw [hs9] at hk ⊢
        rw [List.length_append] at hk
        simp at hk
        rw [w2_c (by omega), w2_at, List.getD_eq_getElem?_getD]
        by_cases e2 : k = (alsUp n bd r (r + 9 * j)).length
        · rw [if_pos ⟨rfl, e2⟩, e2, List.getElem?_append_right (Nat.le_refl _), Nat.sub_self]
          rfl
        · rw [if_neg (fun z => e2 z.2), List.getElem?_append_left (by omega), ← List.getD_eq_getElem?_getD]
          exact g1.2.2 k (by omega)
      · rw [if_neg (by omega), e, if_neg (by decide)]
        simp only [u2_62, u2_63, u2_66, u2_67, u2_70, u2_72, u2_73, u2_74, u2_75, u2_78, u2_79, u2_80, u2_83, u2_86, o1, o2, o3, o4, zRef_some, g1.1, nI_clamp (show (alsUp n bd r (r + 9 * j)).length < 2 ^ 31 by omega), vp_in_nI hlt (by omega), true_and, w2_c (show a ≠ a + 1 by omega), nI_1, e9]
        exact hQ
    · have hs9 := alsUp_9 (b := bd) (r := r) (show 0 < n by omega) j
      rw [if_neg e, List.append_nil] at hs9
      refine ⟨iv1, ⟨by rw [hs9]; exact g1, g2⟩, fun Q hQ => (start Q).mpr ?_⟩
      rw [Bool.not_eq_true] at e
      rw [e, if_pos (show zb false = 0 from rfl), ite_self, u2_83, u2_86, e9]
      exact hQ)
  obtain ⟨iv2, ⟨g1, g2⟩, g3⟩ := loop _ 0 (w2 iv a 0 0) rfl (by omega) ⟨by
    rw [Nat.mul_zero, Nat.add_zero, alsUp_r (by omega)]
    exact ⟨by rw [w2_eq]; exact nI_0.symm, by simp, fun k hk => absurd hk (Nat.not_lt_zero _)⟩, fun c e1 e2 => w2_c e1⟩
  have hJ : P < r + 9 * ((P - r) / 9 + 1) := by omega
  rw [als_end h1 h2 hr (by rw [← hP]; exact hJ)] at g1
  refine ⟨iv2, g1, g2, fun Q hQ => ?_⟩
  have l0 := loop0 Q _ 0 rfl (Nat.zero_le _)
  rw [Nat.pow_zero, Nat.mul_one, Nat.zero_add] at l0
  simp only [u2_0, u2_1, u2_4, u2_5, u2_6, hs.1, hl.1]
  rw [show (1 : Int32) = nI 1 from rfl, l0]
  simp only [u2_25, u2_26, u2_27, u2_30, u2_31, u2_34, o1, hs.1, w2_c (show s ≠ a by omega), hl.1]
  have l1 := g3 Q (by
    rw [u2_36, u2_38, u2_39, if_pos (by rw [nI_ltI (by omega) (by omega)]; omega)]
    simp only [u2_89]
    exact hQ)
  rw [Nat.mul_zero, Nat.add_zero] at l1
  exact l1
def aL (q : Nat) : Nat := if q = 0 then 76 else 78
theorem zAl_q {q : Nat} : zAl (aL q) := by
  unfold aL
  split
  · exact zAl_76
  · exact zAl_78
theorem aL_b (q : Nat) : aL q = 76 ∨ aL q = 78 := by
  unfold aL
  split
  · exact Or.inl rfl
  · exact Or.inr rfl
theorem c_freshList {v : Value} (hc : isCt iv 2 cs) (ho : cOk cs) (hq : q < 2) : ∃ iv2, isAL iv2 (aL q) (als (cN cs) (cB cs q) (cR cs q)) ∧ (∀ c, c ≠ aL q → c ≠ aL q + 1 → iv2 c = iv c) ∧ ∀ (Q : Option Value → zA → Prop), Q (some (.ref (aL q))) (zst p iv2) → zEv sc 62 0 [.ref 1, .int (nI q), v] [] (zst p iv) Q := by
  have h1 := hc.sd hq
  have h2 := ho.2.2.2.2 q hq
  have hA := aL_b q
  obtain ⟨iv2, g1, g2, g3⟩ := c_fill (sc := sc) (p := p) (v1 := .null) (v2 := .null) (zAl_q (q := q)) (zCt_2.sd (q := q)) (by unfold sB; split <;> omega) ho.1 ho.2.1 h2.1 h1 (fun f hf => by have := h2.2.1 f hf; omega)
  refine ⟨iv2, g1, g2, fun Q hQ => ?_⟩
  have l0 : ∀ Q2, zEv sc 62 0 [.ref 1, .int (nI q), v] [] (zst p iv) Q2 ↔ zEv sc 62 15 [.ref 1, .int (nI q), v] [.ref (aL q)] (zst p iv) Q2 := by
    intro Q2
    unfold aL
    rcases (show q = 0 ∨ q = 1 by omega) with rfl | rfl
    · rw [u62_0, u62_1, if_neg (by decide), if_pos rfl]
      simp only [u62_4, u62_5, u62_8, z1o, z1r.2.2.2.1, zRef_some]
    · rw [u62_0, u62_1, if_pos (by decide), if_neg (by decide)]
      simp only [u62_11, u62_12, z1o, z1r.2.2.2.2.1, zRef_some]
  rw [l0]
  simp only [u62_15, u62_16, u62_17, u62_18, u62_21, u62_22, u62_25, u62_26, u62_29, u62_32, z1o, z1r.1, zRef_some, zCt_2.1, c_side zCt_2 hq, hc.1, (zAl_q (q := q)).1, Option.toList_some, Option.toList_none, List.cons_append, List.nil_append, zRef_some, true_and, and_true, true_or, or_true, i10, i01]
  refine g3 _ ?_
  simp only [u62_35, u62_36, Option.toList_some, Option.toList_none, List.cons_append, List.nil_append, zRef_some, true_and, and_true, true_or, or_true, i10, i01]
  exact hQ
-- scores
def isSc (iv : Nat → Nat → Int32) (cs : CS) (q : Nat) (l : List (Nat × Nat)) : Prop := iv 80 0 = nI (cN cs) ∧ iv 80 1 = nI (mSum l) ∧ ∀ f a, f < cN cs → a < 10 → iv (82 + f) a = iI ((cV cs f : Int) * bal (cT cs) q (cN cs) l f a)
theorem isSc.keep {iv iv2 : Nat → Nat → Int32} {cs : CS} {l : List (Nat × Nat)} (hn : cN cs ≤ 4) (h : isSc iv cs q l) (e : ∀ c, 80 ≤ c → c < 86 → iv2 c = iv c) : isSc iv2 cs q l :=
  ⟨by rw [e 80 (by omega) (by omega)]; exact h.1, by rw [e 80 (by omega) (by omega)]; exact h.2.1, fun f a hf ha => by rw [e (82 + f) (by omega) (by omega)]; exact h.2.2 f a hf ha⟩
theorem c_balance {f y : Nat} {v1 v2 v3 v4 : Value} (hb : zCt b) (hc : isCt iv b cs) (ho : cOk cs) (hq : q < 2) (hf : f < cN cs) (hy : y < 10) : zEv sc 38 0 [.ref b, .int (nI q), .int (nI f), .int (nI y), v1, v2, v3, v4] [] (zst p iv) Q ↔ Q (some (.int (iI (bal (cT cs) q (cN cs) (cM cs (1 - q)) f y)))) (zst p iv) := by
  have hq2 : 1 - q < 2 := by omega
  have hS := hc.sd hq2
  have hz := hb.sd (q := 1 - q)
  have hx := hz.2.2.2.2.2
  have hlen := hS.2.2.1.1
  have e1 : (1 : Int32) - nI q = nI (1 - q) := by
    rw [show (1 : Int32) = nI 1 from rfl, pk_sub (by omega)]
  have loop : ∀ d k (v : Value), (cM cs (1 - q)).length - k = d → k ≤ (cM cs (1 - q)).length → (zEv sc 38 18 [.ref b, .int (nI q), .int (nI f), .int (nI y), .ref (sB b (1 - q) + 2), .int (iI (isum k (fun j => (mW (cM cs (1 - q)) j : Int) * oc (cT cs) q y (dg (cN cs) (mA (cM cs (1 - q)) j) f)))), .int (nI k), v] [] (zst p iv) Q ↔ Q (some (.int (iI (bal (cT cs) q (cN cs) (cM cs (1 - q)) f y)))) (zst p iv)) := by
    intro d
    induction d with
    | zero =>
      intro k v hd hk
      have : k = (cM cs (1 - q)).length := by omega
      subst this
      rw [u38_18, u38_20, u38_22 hx.1, hS.2.2.2.1, u38_25, if_pos (Int32.le_refl _)]
      simp only [u38_71, u38_73]
      exact Iff.rfl
    | succ d ih =>
      intro k v hd hk
      have hk2 : k < (cM cs (1 - q)).length := by omega
      have hA := mA_lt hS.2.2.1 hk2
      rw [u38_18, u38_20, u38_22 hx.1, hS.2.2.2.1, u38_25, if_neg (by rw [nI_leI (by omega) (by omega)]; omega)]
      simp only [u38_28, u38_29, u38_30, u38_32, u38_35, u38_37, u38_38, u38_41, u38_43, u38_45, u38_47, u38_50, u38_52, u38_53, u38_54, u38_55, u38_56, u38_58, u38_61, u38_62, u38_63, u38_65, u38_68, hb.1, hx.1, hx.2.1, hx.2.2.1, hx.2.2.2.1, hx.2.2.2.2.1, hx.2.2.2.2.2.1, hx.2.2.2.2.2.2, zRef_some, nI_clamp (show k < 2 ^ 31 by omega), vp_in_nI (show k < 12 by omega) (by omega), true_and, (hS.2.2.2.2 k hk2).1, (hS.2.2.2.2 k hk2).2, c_amountIn hb hc.1 ho.2.1 hf hA, c_outcome hb hc.2.1 ho.2.2.1 hq hy (dg_lt _ _ _), Option.toList_some, Option.toList_none, List.cons_append, List.nil_append, zRef_some, true_and, and_true, true_or, or_true, i10, i01, nI_1]
      rw [nI_iI (mW (cM cs (1 - q)) k), iI_mul, iI_add]
      exact ih (k + 1) _ (by omega) (by omega)
  have l0 := loop _ 0 v4 rfl (Nat.zero_le _)
  simp only [u38_0, u38_1, u38_2, u38_3, u38_4, u38_7, u38_10, u38_12, u38_13, u38_15, u38_16, hb.1, e1, c_side hb hq2, hz.1, hz.2.2.2.2.1, zRef_some, Option.toList_some, Option.toList_none, List.cons_append, List.nil_append, zRef_some, true_and, and_true, true_or, or_true, i10, i01]
  exact l0
theorem c_measure {v1 v2 v3 : Value} (hb : zCt b) (hd : b + 12 ≤ 80) (hc : isCt iv b cs) (ho : cOk cs) (hq : q < 2) : ∃ iv2, isSc iv2 cs q (cM cs (1 - q)) ∧ (∀ c, c < 80 ∨ 86 ≤ c → iv2 c = iv c) ∧ ∀ (Q : Option Value → zA → Prop), Q none (zst p iv2) → zEv sc 39 0 [.ref 80, .ref b, .int (nI q), v1, v2, v3] [] (zst p iv) Q := by
  obtain ⟨o1, o2, o3, o4, o5⟩ := z80
  have hq2 : 1 - q < 2 := by omega
  have hS := hc.sd hq2
  have hz := hb.sd (q := 1 - q)
  have hx := hz.2.2.2.2.2
  have e1 : (1 : Int32) - nI q = nI (1 - q) := by
    rw [show (1 : Int32) = nI 1 from rfl, pk_sub (by omega)]
  have hsb : sB b (1 - q) + 5 ≤ b + 12 := by unfold sB; split <;> omega
  obtain ⟨iv0, hiv0⟩ : ∃ z, z = w2 (w2 iv 80 0 (nI (cN cs))) 80 1 (nI (mSum (cM cs (1 - q)))) := ⟨_, rfl⟩
  have f0 : ∀ c, c ≠ 80 → iv0 c = iv c := fun c hc => by rw [hiv0, w2_c hc, w2_c hc]
  have loop2 : ∀ f, f < cN cs → ∀ (v9 : Value) (iv1 : Nat → Nat → Int32), isCt iv1 b cs → iv1 80 0 = nI (cN cs) → ∃ iv2, (∀ a, a < 10 → iv2 (82 + f) a = iI ((cV cs f : Int) * bal (cT cs) q (cN cs) (cM cs (1 - q)) f a)) ∧ (∀ c, c ≠ 82 + f → iv2 c = iv1 c) ∧ ∀ Q, zEv sc 39 30 [.ref 80, .ref b, .int (nI q), .ref (sB b (1 - q) + 2), .int (nI (f + 1)), .int 10] [] (zst p iv2) Q → zEv sc 39 30 [.ref 80, .ref b, .int (nI q), .ref (sB b (1 - q) + 2), .int (nI f), v9] [] (zst p iv1) Q := by
    intro f hf v9 iv1 hc1 hn1
    have hn := ho.2.1
    obtain ⟨r1, r2, r3⟩ := o5 f (by omega)
    have loop := z_loop (σ := Nat → Nat → Int32) (fun k iv2 Q => zEv sc 39 42 [.ref 80, .ref b, .int (nI q), .ref (sB b (1 - q) + 2), .int (nI f), .int (nI k)] [] (zst p iv2) Q) (fun k iv2 => (∀ a, a < k → iv2 (82 + f) a = iI ((cV cs f : Int) * bal (cT cs) q (cN cs) (cM cs (1 - q)) f a)) ∧ ∀ c, c ≠ 82 + f → iv2 c = iv1 c) 10 (by
      intro k iv2 hk ⟨g1, g2⟩
      have hc2 : isCt iv2 b cs := hc1.keep (fun c e1 e2 => g2 c (by omega))
      refine ⟨w2 iv2 (82 + f) k (iI ((cV cs f : Int) * bal (cT cs) q (cN cs) (cM cs (1 - q)) f k)), ⟨fun a ha => ?_, fun c hc => by rw [w2_c hc]; exact g2 c hc⟩, fun Q hQ => ?_⟩
      · rw [w2_at]
        by_cases e : a = k
        · rw [if_pos ⟨rfl, e⟩, e]
        · rw [if_neg (fun z => e z.2)]; exact g1 a (by omega)
      · rw [u39_42, u39_44, u39_46, show (10 : Int32) = nI 10 from rfl, if_neg (by rw [nI_leI (by omega) (by omega)]; omega)]
        simp only [u39_49, u39_50, u39_53, u39_55, u39_56, u39_58, u39_59, u39_62, u39_64, u39_65, u39_66, u39_67, u39_69, u39_71, u39_74, u39_75, u39_76, u39_79, o1, o2, o3, o4, r1, r2, r3, hb.1, hb.2.1, hb.2.2.1, hb.2.2.2.1, zRef_some, nI_clamp (show f < 2 ^ 31 by omega), vp_in_nI (show f < 4 by omega) (by omega), nI_clamp (show k < 2 ^ 31 by omega), vp_in_nI (show k < 10 by omega) (by omega), true_and, hc2.2.2.1 f (by omega), c_balance hb hc2 ho hq hf (show k < 10 by omega), Option.toList_some, Option.toList_none, List.cons_append, List.nil_append, zRef_some, true_and, and_true, true_or, or_true, i10, i01, nI_1]
        rw [nI_iI (cV cs f), iI_mul]
        exact hQ)
    obtain ⟨iv2, ⟨g1, g2⟩, g3⟩ := loop _ 0 iv1 rfl (by omega) ⟨fun a ha => absurd ha (Nat.not_lt_zero _), fun c _ => rfl⟩
    refine ⟨iv2, g1, g2, fun Q hQ => ?_⟩
    have l1 := g3 Q (by
      rw [u39_42, u39_44, u39_46, if_pos (show (10 : Int32) ≤ nI 10 by decide), u39_82, u39_85, nI_1]
      exact hQ)
    rw [nI_0] at l1
    rw [u39_30, u39_32, u39_33 o1, u39_36, hn1, if_neg (by rw [nI_leI (by omega) (by omega)]; omega)]
    simp only [u39_39, u39_40]
    exact l1
  have loop := z_loop (σ := (Nat → Nat → Int32) × Value) (fun f s Q => zEv sc 39 30 [.ref 80, .ref b, .int (nI q), .ref (sB b (1 - q) + 2), .int (nI f), s.2] [] (zst p s.1) Q) (fun f s => (∀ g a, g < f → a < 10 → s.1 (82 + g) a = iI ((cV cs g : Int) * bal (cT cs) q (cN cs) (cM cs (1 - q)) g a)) ∧ ∀ c, c < 82 ∨ 86 ≤ c → s.1 c = iv0 c) (cN cs) (by
    intro f s hf ⟨g1, g2⟩
    have hn := ho.2.1
    have hc1 : isCt s.1 b cs := hc.keep (fun c e1 e2 => by rw [g2 c (by omega), f0 c (by omega)])
    obtain ⟨iv2, k1, k2, k3⟩ := loop2 f hf s.2 s.1 hc1 (by rw [g2 80 (by omega), hiv0, w2_g (by omega), w2_eq])
    refine ⟨(iv2, .int 10), ⟨fun g a hg ha => ?_, fun c hc => ?_⟩, k3⟩
    · by_cases e : g = f
      · subst e; exact k1 a ha
      · show iv2 (82 + g) a = _
        rw [k2 (82 + g) (by omega)]
        exact g1 g a (by omega) ha
    · show iv2 c = _
      rw [k2 c (by omega)]
      exact g2 c hc)
  obtain ⟨⟨iv2, v9⟩, ⟨g1, g2⟩, g3⟩ := loop _ 0 (iv0, v3) rfl (Nat.zero_le _) ⟨fun g a hg => absurd hg (Nat.not_lt_zero _), fun c _ => rfl⟩
  dsimp only at g1 g2 g3
  refine ⟨iv2, ⟨?_, ?_, fun f a hf ha => g1 f a hf ha⟩, fun c hc => ?_, fun Q hQ => ?_⟩
  · rw [g2 80 (by omega), hiv0, w2_g (by omega), w2_eq]
  · rw [g2 80 (by omega), hiv0, w2_eq]
  · rw [g2 c (by omega), f0 c (by omega)]
  · have l1 := g3 Q (by
      rw [u39_30, u39_32, u39_33 o1, u39_36, g2 80 (by omega), hiv0, w2_g (by omega), w2_eq, if_pos (Int32.le_refl _)]
      simp only [u39_88]
      exact hQ)
    rw [nI_0] at l1
    have hmx : isMix (w2 iv 80 0 (nI (cN cs))) (sB b (1 - q) + 2) (cM cs (1 - q)) := hS.2.2.keep (fun c e1 e2 => w2_c (by omega))
    simp only [u39_0, u39_1, u39_2, u39_3, u39_4, u39_7, u39_10, u39_11, u39_12, u39_13, u39_16, u39_19, u39_20, u39_21, u39_24, u39_27, u39_28, hb.1, o1, e1, c_side hb hq2, hz.1, hz.2.2.2.2.1, hx.1, zRef_some, hc.1, c_weight hx hmx, Option.toList_some, Option.toList_none, List.cons_append, List.nil_append, zRef_some, true_and, and_true, true_or, or_true, i10, i01]
    rw [← hiv0]
    exact l1
theorem c_of {y : Nat} {v1 v2 v3 : Value} (ho : cOk cs) (hs : isSc iv cs q l) (hy : y < 10000) : zEv sc 4 0 [.ref 80, .int (nI y), v1, v2, v3] [] (zst p iv) Q ↔ Q (some (.int (iI (sco cs q l y)))) (zst p iv) := by
  obtain ⟨o1, o2, o3, o4, o5⟩ := z80
  have hn := ho.2.1
  have loop : ∀ (k d : Nat) (z : Int), k ≤ cN cs → d < 10000 → (zEv sc 4 12 [.ref 80, .int (nI y), .int (nI d), .int (iI z), .int (nI k - 1)] [] (zst p iv) Q ↔ Q (some (.int (iI (z + isum k (fun f => (cV cs f : Int) * bal (cT cs) q (cN cs) l f (dg k d f)))))) (zst p iv)) := by
    intro k
    induction k with
    | zero =>
      intro d z hk hd
      rw [u4_12, u4_14, if_pos (by decide)]
      simp only [u4_43, u4_44]
      unfold isum
      rw [Int.add_zero]
    | succ k ih =>
      intro d z hk hd
      obtain ⟨r1, r2, r3⟩ := o5 k (by omega)
      rw [u4_12, u4_14, nI_pred, if_neg (nI_pos (by omega))]
      simp only [u4_17, u4_18, u4_19, u4_22, u4_24, u4_25, u4_26, u4_28, u4_29, u4_30, u4_31, u4_32, u4_33, u4_35, u4_36, u4_37, u4_40, o1, o2, o3, o4, r1, r2, r3, zRef_some, nI_clamp (show k < 2 ^ 31 by omega), vp_in_nI (show k < 4 by omega) (by omega), true_and, n10_0, not_false_eq_true, n_d10 (show d < 2 ^ 31 by omega), n_r10 (show d < 2 ^ 31 by omega), nI_clamp (show d % 10 < 2 ^ 31 by omega), vp_in_nI (show d % 10 < 10 by omega) (by omega), hs.2.2 k (d % 10) (by omega) (by omega), iI_add, n_sub1]
      rw [ih _ _ (by omega) (by omega), Int.add_assoc]
      have e : (cV cs k : Int) * bal (cT cs) q (cN cs) l k (d % 10) + isum k (fun f => (cV cs f : Int) * bal (cT cs) q (cN cs) l f (dg k (d / 10) f)) = isum (k + 1) (fun f => (cV cs f : Int) * bal (cT cs) q (cN cs) l f (dg (k + 1) d f)) := by
        show _ = isum k _ + _
        dsimp only
        rw [dg_last, Int.add_comm]
        congr 1
        exact isum_congr (fun f hf => by rw [dg_prev hf])
      rw [e]
  have l0 := loop (cN cs) y 0 (Nat.le_refl _) hy
  rw [Int.zero_add] at l0
  simp only [u4_0, u4_1, u4_2, u4_3, u4_4, u4_5, u4_8, u4_9, u4_10, o1, hs.1]
  exact l0
theorem c_ofMixture {m : Nat} {v1 v2 : Value} (ho : cOk cs) (hm : zMx m) (hl : isMix iv m own) (hs : isSc iv cs q l) : zEv sc 40 0 [.ref 80, .ref m, v1, v2] [] (zst p iv) Q ↔ Q (some (.int (iI (scoM cs q own l)))) (zst p iv) := by
  obtain ⟨o1, o2, o3, o4, o5, o6, o7⟩ := id hm
  have hlen := hl.1.1
  have loop : ∀ d k, own.length - k = d → k ≤ own.length → (zEv sc 40 4 [.ref 80, .ref m, .int (iI (isum k (fun j => (mW own j : Int) * sco cs q l (mA own j)))), .int (nI k)] [] (zst p iv) Q ↔ Q (some (.int (iI (scoM cs q own l)))) (zst p iv)) := by
    intro d
    induction d with
    | zero =>
      intro k hd hk
      have : k = own.length := by omega
      subst this
      rw [u40_4, u40_5, u40_6 o1, hl.2.1, u40_9, if_pos (Int32.le_refl _)]
      simp only [u40_38, u40_39]
      exact Iff.rfl
    | succ d ih =>
      intro k hd hk
      have hk2 : k < own.length := by omega
      rw [u40_4, u40_5, u40_6 o1, hl.2.1, u40_9, if_neg (by rw [nI_leI (by omega) (by omega)]; omega)]
      simp only [u40_12, u40_13, u40_14, u40_17, u40_18, u40_19, u40_20, u40_21, u40_24, u40_25, u40_26, u40_29, u40_30, u40_31, u40_32, u40_35, z80.1, o1, o2, o3, o4, o5, o6, o7, zRef_some, nI_clamp (show k < 2 ^ 31 by omega), vp_in_nI (show k < 12 by omega) (by omega), true_and, (hl.2.2 k hk2).1, (hl.2.2 k hk2).2, c_of ho hs (mA_lt hl.1 hk2), Option.toList_some, Option.toList_none, List.cons_append, List.nil_append, zRef_some, true_and, and_true, true_or, or_true, i10, i01, nI_1]
      rw [nI_iI (mW own k), iI_mul, iI_add]
      exact ih (k + 1) (by omega) (by omega)
  have l0 := loop _ 0 rfl (Nat.zero_le _)
  simp only [u40_0, u40_1, u40_2, u40_3]
  exact l0
end ZPLAY
