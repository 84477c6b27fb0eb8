/-! ===== FieldMixturesModel: begins, acted, rounds ===== -/
def hPt (iv : Nat → Nat → Int32) (hs : List CS) : Prop := iv 91 3 = nI hs.length ∧ hs.length ≤ 4 ∧ ∀ j (c : CS), hs[j]? = some c → isV (fun k => iv 94 (66 * j + k)) c ∧ vOk c
def tPt (iv : Nat → Nat → Int32) (t : List Nat) : Prop := iv 91 5 = nI t.length ∧ t.length ≤ 80 ∧ ∀ k, k < t.length → iv 95 k = nI (chr t k) ∧ 32 ≤ chr t k ∧ chr t k ≤ 126
/-- inside a call: the state at its begin is put by -/
def WM (iv : Nat → Nat → Int32) (cs : CS) (hs : List CS) (t : List Nat) : Prop := isV (iv 93) cs ∧ vOk cs ∧ hPt iv hs ∧ tPt iv t
theorem hPt.keep {iv iv2 : Nat → Nat → Int32} {hs : List CS} (h : hPt iv hs) (e1 : iv2 91 3 = iv 91 3) (e2 : iv2 94 = iv 94) : hPt iv2 hs := by
  refine ⟨by rw [e1]; exact h.1, h.2.1, ?_⟩
  rw [e2]
  exact h.2.2
theorem tPt.keep {iv iv2 : Nat → Nat → Int32} {t : List Nat} (h : tPt iv t) (e1 : iv2 91 5 = iv 91 5) (e2 : iv2 95 = iv 95) : tPt iv2 t := by
  refine ⟨by rw [e1]; exact h.1, h.2.1, ?_⟩
  rw [e2]
  exact h.2.2
theorem WM.keep {iv iv2 : Nat → Nat → Int32} {cs : CS} {hs : List CS} {t : List Nat} (h : WM iv cs hs t) (e1 : iv2 91 3 = iv 91 3) (e2 : iv2 91 5 = iv 91 5) (e : ∀ c, (c = 93 ∨ c = 94 ∨ c = 95) → iv2 c = iv c) : WM iv2 cs hs t :=
  ⟨by rw [e 93 (by omega)]; exact h.1, h.2.1, h.2.2.1.keep e1 (e 94 (by omega)), h.2.2.2.keep e2 (e 95 (by omega))⟩
theorem WM.w92 {iv iv2 : Nat → Nat → Int32} {cs : CS} {hs : List CS} {t : List Nat} (h : WM iv cs hs t) (e : ∀ c, c ≠ 92 → iv2 c = iv c) : WM iv2 cs hs t :=
  h.keep (by rw [e 91 (by omega)]) (by rw [e 91 (by omega)]) (fun c hc => e c (by omega))
def OKm (sc : Nat × (Nat → Int32)) (k : Nat) (args : List Value) (p : Nat → Option Nat) (iv : Nat → Nat → Int32) (a : Int32) (cs : CS) (hs : List CS) (t : List Nat) : Prop := ∃ iv2, RM iv2 cs hs t ∧ FM iv2 iv ∧ ∀ (Q : Option Value → zA → Prop), Q (some (.int a)) (zst p iv2) → zEv sc k 0 args [] (zst p iv) Q
section ZM5
variable {sc : Nat × (Nat → Int32)} {Q : Option Value → zA → Prop} {h : zA} {p : Nat → Option Nat} {iv : Nat → Nat → Int32} {cs d : CS} {hs : List CS} {t : List Nat} {x y z w lo hi : Int32} {q k i : Nat}
theorem cp66_in {a b : Nat} (g : Nat) (hg : g < 66) : cp66 iv a b 66 a g = iv b g := by unfold cp66; rw [if_pos ⟨rfl, hg⟩]
theorem cp66_ne {a b c : Nat} (hc : c ≠ a) : cp66 iv a b 66 c = iv c := by funext g; unfold cp66; rw [if_neg (fun z => hc z.1)]
theorem RM.begin (R : RM iv cs hs t) : WM (cp66 iv 93 92 66) cs hs t ∧ isV ((cp66 iv 93 92 66) 92) cs ∧ FM (cp66 iv 93 92 66) iv := by
  obtain ⟨h1, h2, h3, h4⟩ := R
  refine ⟨⟨h1.congr h2 (fun k hk => cp66_in k hk), h2, ?_, ?_⟩, by rw [cp66_ne (by omega)]; exact h1, fun c hc => cp66_ne (by omega)⟩
  · exact hPt.keep (iv := iv) h3 (by rw [cp66_ne (by omega)]) (cp66_ne (by omega))
  · exact tPt.keep (iv := iv) h4 (by rw [cp66_ne (by omega)]) (cp66_ne (by omega))
theorem le_IA : ¬ eIA < eIA ∧ ¬ eIA < eNP ∧ ¬ eIA < eLR := ⟨by decide, by decide, by decide⟩
theorem m_actedNo {a : Int32} {v : Value} (W : WM iv cs hs t) (ha : ¬ eIA < a) : ∃ iv2, RM iv2 cs hs t ∧ FM iv2 iv ∧ ∀ (Q : Option Value → zA → Prop), Q (some (.int a)) (zst p iv2) → zEv sc 92 0 [.ref 91, .int a, v] [] (zst p iv) Q := by
  obtain ⟨h1, h2, h3, h4⟩ := W
  refine ⟨cp66 iv 92 93 66, ⟨h1.congr h2 (fun k hk => cp66_in k hk), h2, ?_, ?_⟩, fun c hc => cp66_ne (by omega), fun Q hQ => ?_⟩
  · exact hPt.keep (iv := iv) h3 (by rw [cp66_ne (by omega)]) (cp66_ne (by omega))
  · exact tPt.keep (iv := iv) h4 (by rw [cp66_ne (by omega)]) (cp66_ne (by omega))
  · rw [u92_0, u92_1, u92_3, if_neg (show ¬ (-1000001 : Int32) < a from ha)]
    simp only [u92_6, u92_7, u92_10, u92_11, z91.1, m_returns, Option.toList_some, Option.toList_none, List.cons_append, List.nil_append, zRef_some, true_and, and_true, true_or, or_true, i10, i01]
    exact hQ
def shF (iv : Nat → Nat → Int32) (n : Nat) : Nat → Nat → Int32 := fun c g => if c = 94 ∧ g < n then iv 94 (g + 66) else iv c g
theorem shF_s {n : Nat} : w2 (shF iv n) 94 n (shF iv n 94 (n + 66)) = shF iv (n + 1) := by
  funext c g
  rw [w2_at]
  unfold shF
  rw [if_neg (show ¬ (94 = 94 ∧ n + 66 < n) by omega)]
  by_cases e : c = 94
  · by_cases e2 : g = n
    · rw [if_pos ⟨e, e2⟩, if_pos (by omega), e2]
    · rw [if_neg (fun z => e2 z.2)]
      by_cases e3 : g < n
      · rw [if_pos ⟨e, e3⟩, if_pos (by omega)]
      · rw [if_neg (fun z => e3 z.2), if_neg (by omega)]
  · rw [if_neg (fun z => e z.1), if_neg (fun z => e z.1), if_neg (fun z => e z.1)]
def cpF (iv : Nat → Nat → Int32) (s n : Nat) : Nat → Nat → Int32 := fun c g => if c = 94 ∧ s ≤ g ∧ g < s + n then iv 93 (g - s) else iv c g
theorem cpF_s {s n : Nat} : w2 (cpF iv s n) 94 (s + n) (cpF iv s n 93 n) = cpF iv s (n + 1) := by
  funext c g
  rw [w2_at]
  unfold cpF
  rw [if_neg (show ¬ (93 = 94 ∧ s ≤ n ∧ n < s + n) by omega)]
  by_cases e : c = 94
  · by_cases e2 : g = s + n
    · rw [if_pos ⟨e, e2⟩, if_pos (by omega), e2, Nat.add_sub_cancel_left]
    · rw [if_neg (fun z => e2 z.2)]
      by_cases e3 : s ≤ g ∧ g < s + n
      · rw [if_pos ⟨e, e3⟩, if_pos (by omega)]
      · rw [if_neg (fun z => e3 z.2), if_neg (by omega)]
  · rw [if_neg (fun z => e z.1), if_neg (fun z => e z.1), if_neg (fun z => e z.1)]
/-- the push, with room -/
theorem m_push {a : Int32} (W : WM iv cs hs t) (hd : isV (iv 92) d) (od : vOk d) (hl : hs.length ≤ 3) : ∃ iv2, RM iv2 d (hs ++ [cs]) t ∧ FM iv2 iv ∧ ∀ (Q : Option Value → zA → Prop) (v : Value), Q (some (.int a)) (zst p iv2) → zEv sc 92 60 [.ref 91, .int a, v] [] (zst p iv) Q := by
  obtain ⟨h1, h2, h3, h4⟩ := W
  have v94 : ∀ g, cpF iv (66 * hs.length) 66 94 g = if 66 * hs.length ≤ g ∧ g < 66 * hs.length + 66 then iv 93 (g - 66 * hs.length) else iv 94 g := by
    intro g
    unfold cpF
    by_cases e : 66 * hs.length ≤ g ∧ g < 66 * hs.length + 66
    · rw [if_pos ⟨rfl, e⟩, if_pos e]
    · rw [if_neg (fun z => e z.2), if_neg e]
  have vne : ∀ n c, c ≠ 94 → cpF iv (66 * hs.length) n c = iv c := fun n c hc => by
    funext g
    unfold cpF
    rw [if_neg (fun z => hc z.1)]
  refine ⟨w2 (cpF iv (66 * hs.length) 66) 91 3 (nI (hs.length + 1)), ⟨by rw [w2_c (by omega), vne _ _ (by omega)]; exact hd, od, ⟨by rw [w2_eq, List.length_append]; rfl, by rw [List.length_append, List.length_singleton]; omega, fun j c hj => ?_⟩, by rw [w2_g (by omega), vne _ _ (by omega)]; exact h4.1, h4.2.1, by rw [w2_c (by omega), vne _ _ (by omega)]; exact h4.2.2⟩, fun c hc => by rw [w2_c (by omega), vne _ _ (by omega)], fun Q v hQ => ?_⟩
  · rw [w2_c (by omega)]
    by_cases e : j < hs.length
    · rw [List.getElem?_append_left e] at hj
      obtain ⟨g1, g2⟩ := h3.2.2 j c hj
      refine ⟨g1.congr g2 (fun k hk => ?_), g2⟩
      show cpF iv (66 * hs.length) 66 94 (66 * j + k) = iv 94 (66 * j + k)
      rw [v94, if_neg (by omega)]
    · rw [List.getElem?_append_right (by omega)] at hj
      have e2 : j - hs.length = 0 := by
        by_cases e3 : j - hs.length = 0
        · exact e3
        · rw [List.getElem?_eq_none (by rw [List.length_singleton]; omega)] at hj
          cases hj
      rw [e2] at hj
      obtain rfl := Option.some.inj hj
      refine ⟨h1.congr h2 (fun k hk => ?_), h2⟩
      show cpF iv (66 * hs.length) 66 94 (66 * j + k) = iv 93 k
      rw [v94, if_pos (by omega)]
      congr 1
      omega
  · have e913 : ∀ n, cpF iv (66 * hs.length) n 91 3 = nI hs.length := fun n => by rw [vne _ _ (by omega)]; exact h3.1
    have loop : ∀ d n, 66 - n = d → n ≤ 66 → zEv sc 92 62 [.ref 91, .int a, .int (nI n)] [] (zst p (cpF iv (66 * hs.length) n)) Q := by
      intro d
      induction d with
      | zero =>
        intro n hd hn
        have : n = 66 := by omega
        subst this
        rw [u92_62, u92_63, u92_65, if_pos (by decide)]
        simp only [u92_94, u92_95, u92_96, u92_99, u92_100, u92_101, u92_104, u92_105, z91.1, e913, nI_1]
        exact hQ
      | succ d ih =>
        intro n hd hn
        have ih1 := ih (n + 1) (by omega) (by omega)
        rw [u92_62, u92_63, u92_65, n66, if_neg (by rw [nI_leI (by omega) (by omega)]; omega)]
        simp only [u92_68, u92_69, u92_72, u92_74, u92_75, u92_78, u92_79, u92_80, u92_81, u92_82, u92_85, u92_86, u92_87, u92_88, u92_91, zRef_some, true_and, z91.1, z91.2.2.1, z91.2.2.2.1, z91r.2.1, z91r.2.2.1, z92l.2.1, z92l.2.2.1, e913, n66, pk_mul, nI_add, okN (show n < 66 by omega), nI_clamp (show n < 2 ^ 31 by omega), vp_in_nI (show 66 * hs.length + n < 264 by omega) (by omega), nI_clamp (show 66 * hs.length + n < 2 ^ 31 by omega), cpF_s, nI_1]
        exact ih1
    have l0 := loop _ 0 rfl (by omega)
    have e5 : cpF iv (66 * hs.length) 0 = iv := by
      funext c g
      unfold cpF
      rw [if_neg (by omega)]
    rw [e5, nI_0] at l0
    simp only [u92_60, u92_61]
    exact l0
theorem m_acted {n : Nat} {v : Value} (W : WM iv cs hs t) (hd : isV (iv 92) d) (od : vOk d) (hn : n < 2 ^ 31) : ∃ iv2, RM iv2 d (hRec hs cs) t ∧ FM iv2 iv ∧ ∀ (Q : Option Value → zA → Prop), Q (some (.int (nI n))) (zst p iv2) → zEv sc 92 0 [.ref 91, .int (nI n), v] [] (zst p iv) Q := by
  have hpos : eIA < nI n := by
    have h0 := nI_pos' hn
    rw [Int32.le_iff_toInt_le] at h0
    rw [Int32.lt_iff_toInt_lt]
    have e0 : (0 : Int32).toInt = 0 := rfl
    have e1 : eIA.toInt = -1000001 := by decide
    rw [e0] at h0
    omega
  have hl4 := W.2.2.1.2.1
  have h3 := W.2.2.1.1
  have start : ∀ Q, zEv sc 92 0 [.ref 91, .int (nI n), v] [] (zst p iv) Q ↔ (if ¬ hs.length = 4 then zEv sc 92 60 [.ref 91, .int (nI n), v] [] (zst p iv) Q else zEv sc 92 20 [.ref 91, .int (nI n), v] [] (zst p iv) Q) := by
    intro Q
    rw [u92_0, u92_1, u92_3, if_pos (show (-1000001 : Int32) < nI n from hpos)]
    simp only [u92_12, u92_13, u92_16, z91.1, h3]
    rw [u92_17, show (4 : Int32) = nI 4 from rfl]
    simp only [nI_eq (show hs.length < 2 ^ 31 by omega) (show 4 < 2 ^ 31 by omega)]
  unfold hRec
  by_cases e : hs.length = 4
  · rw [if_pos e]
    have vne : ∀ n c, c ≠ 94 → shF iv n c = iv c := fun n c hc => by
      funext g
      unfold shF
      rw [if_neg (fun z => hc z.1)]
    obtain ⟨iv1, hiv1⟩ : ∃ iv1, iv1 = w2 (shF iv 198) 91 3 (nI 3) := ⟨_, rfl⟩
    have W1 : WM iv1 cs (hs.drop 1) t := by
      obtain ⟨h1, h2, h3, h4⟩ := W
      refine ⟨by rw [hiv1, w2_c (by omega), vne _ _ (by omega)]; exact h1, h2, ⟨by rw [hiv1, w2_eq, List.length_drop, e], by rw [List.length_drop]; omega, fun j c hj => ?_⟩, h4.keep (by rw [hiv1, w2_g (by omega), vne _ _ (by omega)]) (by rw [hiv1, w2_c (by omega), vne _ _ (by omega)])⟩
      rw [List.getElem?_drop] at hj
      have hj4 : 1 + j < hs.length := by
        by_cases e9 : 1 + j < hs.length
        · exact e9
        · rw [List.getElem?_eq_none (by omega)] at hj; cases hj
      obtain ⟨g1, g2⟩ := h3.2.2 (1 + j) c hj
      refine ⟨g1.congr g2 (fun k hk => ?_), g2⟩
      rw [hiv1, w2_c (by omega)]
      show shF iv 198 94 (66 * j + k) = iv 94 (66 * (1 + j) + k)
      unfold shF
      rw [if_pos (by omega)]
      congr 1
      omega
    have hd1 : isV (iv1 92) d := by rw [hiv1, w2_c (by omega), vne _ _ (by omega)]; exact hd
    obtain ⟨iv2, g1, g2, g3⟩ := m_push (sc := sc) (p := p) (a := nI n) W1 hd1 od (by rw [List.length_drop]; omega)
    refine ⟨iv2, g1, fun c hc => by rw [g2 c hc, hiv1, w2_c (by omega), vne _ _ (by omega)], fun Q hQ => (start Q).mpr ?_⟩
    rw [if_neg (fun z => z e)]
    have e913 : shF iv 198 91 3 = nI 4 := by rw [vne _ _ (by omega), h3, e]
    have loop : ∀ d m, 198 - m = d → m ≤ 198 → zEv sc 92 22 [.ref 91, .int (nI n), .int (nI m)] [] (zst p (shF iv m)) Q := by
      intro d
      induction d with
      | zero =>
        intro m hd hm
        have : m = 198 := by omega
        subst this
        have hf := g3 Q (.int (nI 198)) hQ
        rw [hiv1] at hf
        rw [u92_22, u92_23, u92_26, if_pos (by decide)]
        simp only [u92_50, u92_51, u92_52, u92_55, u92_56, u92_57, z91.1, e913, nI_pred]
        exact hf
      | succ d ih =>
        intro m hd hm
        have ih1 := ih (m + 1) (by omega) (by omega)
        rw [u92_22, u92_23, u92_26, show (198 : Int32) = nI 198 from rfl, if_neg (by rw [nI_leI (by omega) (by omega)]; omega)]
        simp only [u92_29, u92_30, u92_33, u92_34, u92_35, u92_38, u92_39, u92_41, u92_42, u92_43, u92_44, u92_47, zRef_some, true_and, z91.1, z91.2.2.2.1, z91r.2.2.1, z92l.2.2.1, n66, nI_add, vp_in_nI (show m < 264 by omega) (by omega), nI_clamp (show m < 2 ^ 31 by omega), vp_in_nI (show m + 66 < 264 by omega) (by omega), nI_clamp (show m + 66 < 2 ^ 31 by omega), shF_s, nI_1]
        exact ih1
    have l0 := loop _ 0 rfl (by omega)
    have e5 : shF iv 0 = iv := by
      funext c g
      unfold shF
      rw [if_neg (by omega)]
    rw [e5, nI_0] at l0
    simp only [u92_20, u92_21]
    exact l0
  · rw [if_neg e]
    obtain ⟨iv2, g1, g2, g3⟩ := m_push (sc := sc) (p := p) (a := nI n) W hd od (by omega)
    refine ⟨iv2, g1, g2, fun Q hQ => (start Q).mpr ?_⟩
    rw [if_pos e]
    exact g3 Q v hQ
end ZM5
