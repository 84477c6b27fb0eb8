/-! ===== FieldMixtures: what the calls of the face come to, part 1 ===== -/
def RC (iv : Nat → Nat → Int32) (p : Nat → Option Nat) (cs : CS) (hs : List CS) (t : List Nat) : Prop := isCt iv 2 cs ∧ cOk cs ∧ isH iv p hs ∧ (∀ c ∈ hs, cOk c) ∧ isTx iv t
def FC (iv2 iv : Nat → Nat → Int32) : Prop := ∀ c, 91 ≤ c → iv2 c = iv c
theorem FC.rf {iv : Nat → Nat → Int32} : FC iv iv := fun _ _ => rfl
theorem RC.keep {iv iv2 : Nat → Nat → Int32} {p : Nat → Option Nat} {cs : CS} {hs : List CS} {t : List Nat} (h : RC iv p cs hs t) (e : ∀ c, (2 ≤ c ∧ c < 14) ∨ (26 ≤ c ∧ c < 76) ∨ (88 ≤ c ∧ c < 90) → iv2 c = iv c) : RC iv2 p cs hs t :=
  ⟨h.1.keep (fun c h1 h2 => e c (by omega)), h.2.1, h.2.2.1.keep (fun c h1 h2 => e c (by omega)), h.2.2.2.1, h.2.2.2.2.keep (fun c h1 h2 => e c (by omega))⟩
theorem hRec_ok {hs : List CS} {cs : CS} (h : ∀ c ∈ hs, cOk c) (h2 : cOk cs) : ∀ c ∈ hRec hs cs, cOk c := by
  intro c hc
  unfold hRec at hc
  rcases List.mem_append.mp hc with hc | hc
  · split at hc
    · exact h c (List.mem_of_mem_drop hc)
    · exact h c hc
  · rw [List.mem_singleton.mp hc]; exact h2
theorem RC.rec {iv iv1 iv2 : Nat → Nat → Int32} {p p1 : Nat → Option Nat} {cs cs' : CS} {hs : List CS} {t : List Nat} (R : RC iv p cs hs t) (h1 : isH iv1 p1 (hRec hs cs)) (f1 : ∀ c, c < 26 ∨ 76 ≤ c → iv1 c = iv c) (hc : isCt iv2 2 cs') (ho : cOk cs') (f2 : ∀ c, c < 2 ∨ 14 ≤ c → iv2 c = iv1 c) : RC iv2 p1 cs' (hRec hs cs) t ∧ FC iv2 iv :=
  ⟨⟨hc, ho, h1.keep (fun c _ _ => f2 c (by omega)), hRec_ok R.2.2.2.1 R.2.1, R.2.2.2.2.keep (fun c _ _ => by rw [f2 c (by omega), f1 c (by omega)])⟩, fun c _ => by rw [f2 c (by omega), f1 c (by omega)]⟩
/-- a call's answer and the state behind it -/
def OKc (sc : Nat × (Nat → Int32)) (k : Nat) (args : List Value) (p : Nat → Option Nat) (iv : Nat → Nat → Int32) (a : Int32) (cs : CS) (hs : List CS) (t : List Nat) : Prop := ∃ iv2 p2, RC iv2 p2 cs hs t ∧ FC iv2 iv ∧ ∀ (Q : Option Value → zA → Prop), Q (some (.int a)) (zst p2 iv2) → zEv sc k 0 args [] (zst p iv) Q
def nC (cs : CS) (o : Int32 × Option CS) : CS := o.2.getD cs
def nH (cs : CS) (hs : List CS) (o : Int32 × Option CS) : List CS := match o.2 with
  | none => hs
  | some _ => hRec hs cs
def tn (x : Int32) : Nat := x.toNatClampNeg
theorem tn_nI {n : Nat} (h : n < 2 ^ 31) : tn (nI n) = n := nI_clamp h
theorem in_nI {x : Int32} {k : Nat} (hk : k < 2 ^ 31) (h0 : 0 ≤ x) (h1 : x ≤ nI k) : ∃ j, j ≤ k ∧ x = nI j := by
  have hx : ¬ x < 0 := by
    rw [Int32.lt_iff_toInt_lt]
    rw [Int32.le_iff_toInt_le] at h0
    omega
  obtain ⟨j, hj, rfl⟩ := nI_of hx
  exact ⟨j, (nI_leI hj hk).mp h1, rfl⟩
theorem in_nI2 {x : Int32} {l k : Nat} (hl : l < 2 ^ 31) (hk : k < 2 ^ 31) (h0 : nI l ≤ x) (h1 : x ≤ nI k) : ∃ j, l ≤ j ∧ j ≤ k ∧ x = nI j := by
  have h2 : 0 ≤ x := by
    have := nI_pos' hl
    rw [Int32.le_iff_toInt_le] at *
    omega
  obtain ⟨j, hj, rfl⟩ := in_nI hk h2 h1
  exact ⟨j, (nI_leI hl (by omega)).mp h0, hj, rfl⟩
theorem in_fld {x : Int32} {n : Nat} (h2 : 2 ≤ n) (hn : n ≤ 4) (h0 : 0 ≤ x) (h1 : x ≤ nI n - 1) : ∃ j, j < n ∧ x = nI j := by
  rw [show (1 : Int32) = nI 1 from rfl, pk_sub (by omega)] at h1
  obtain ⟨j, hj, rfl⟩ := in_nI (by omega) h0 h1
  exact ⟨j, by omega, rfl⟩
def eIA : Int32 := -1000001
def eNP : Int32 := -1000002
def eLR : Int32 := -1000003
def eNF : Int32 := -1000004
abbrev isQ (x : Int32) : Prop := 0 ≤ x ∧ x ≤ 1
abbrev isF (c : CS) (x : Int32) : Prop := 0 ≤ x ∧ x ≤ nI (cN c) - 1
theorem isQ_nI {x : Int32} (h : isQ x) : ∃ q, q < 2 ∧ x = nI q := by
  obtain ⟨j, hj, e⟩ := in_nI (k := 1) (by omega) h.1 h.2
  exact ⟨j, by omega, e⟩
theorem isF_nI {c : CS} {x : Int32} (ho : cOk c) (h : isF c x) : ∃ f, f < cN c ∧ x = nI f := in_fld ho.1 ho.2.1 h.1 h.2
-- what each call asks
def setV (c : CS) (f v : Nat) : CS := (cN c, cT c, fun k => if k = f then v else cV c k, cR c, cB c, cM c)
def setT (c : CS) (r : Nat) : CS := (cN c, r, cV c, cR c, cB c, cM c)
def setS (c : CS) (q r : Nat) (bd : Nat → Nat) (l : List (Nat × Nat)) : CS := (cN c, cT c, cV c, fun z => if z = q then r else cR c z, fun z => if z = q then bd else cB c z, fun z => if z = q then l else cM c z)
def sFields (c : CS) (x : Int32) : Int32 × Option CS := if 2 ≤ x ∧ x ≤ 4 then (nI (cN c), some (cFields c (tn x))) else (eIA, none)
def sValue (c : CS) (x y : Int32) : Int32 × Option CS := if isF c x ∧ 1 ≤ y ∧ y ≤ 9 then (nI (cV c (tn x)), some (setV c (tn x) (tn y))) else (eIA, none)
def sTie (c : CS) (x : Int32) : Int32 × Option CS := if 0 ≤ x ∧ x ≤ 2 then (nI (cT c), some (setT c (tn x))) else (eIA, none)
def sSide (c : CS) (q r : Nat) (bd : Nat → Nat) : Int32 × Option CS := (nI (drL (cN c) bd r (cM c q)).length, some (setS c q r bd (drL (cN c) bd r (cM c q))))
def sRes (c : CS) (x y : Int32) : Int32 × Option CS := if isQ x ∧ 0 ≤ y ∧ y ≤ 8 then sSide c (tn x) (tn y) (cB c (tn x)) else (eIA, none)
def sBound (c : CS) (x y z : Int32) : Int32 × Option CS := if isQ x ∧ isF c y ∧ 0 ≤ z ∧ z ≤ 8 then sSide c (tn x) (cR c (tn x)) (fun f => if f = tn y then tn z else cB c (tn x) f) else (eIA, none)
theorem cFields_ok {c : CS} {k : Nat} (ho : cOk c) (h2 : 2 ≤ k) (h4 : k ≤ 4) : cOk (cFields c k) := by
  refine ⟨h2, h4, ho.2.2.1, fun f _ => by show 1 ≤ 1 ∧ 1 ≤ 9; omega, fun q hq => ⟨(ho.2.2.2.2 q hq).1, fun f _ => by show 8 ≤ 8; omega, fun j hj => ?_⟩⟩
  show alw k (fun _ => 8) (mA (if k = cN c then cM c q else []) j) (cR c q) = true
  have hj : j < (if k = cN c then cM c q else []).length := hj
  by_cases e : k = cN c
  · rw [if_pos e] at hj ⊢
    rw [e]
    have h := (ho.2.2.2.2 q hq).2.2 j hj
    have hb := (ho.2.2.2.2 q hq).2.1
    have mono : ∀ (n x r : Nat), n ≤ 4 → alw n (cB c q) x r = true → alw n (fun _ => 8) x r = true := by
      intro n
      induction n with
      | zero => intro x r _ h; exact h
      | succ n ih =>
        intro x r hn h
        unfold alw at h ⊢
        have := hb n (by omega)
        split at h
        · cases h
        next h0 => rw [if_neg (show ¬ ((8 : Nat) < x % 10 ∨ r < x % 10) by omega)]; exact ih _ _ (by omega) h
    exact mono _ _ _ ho.2.1 h
  · rw [if_neg e] at hj
    exact absurd hj (Nat.not_lt_zero _)
theorem drL_alw {n r : Nat} {bd : Nat → Nat} {l : List (Nat × Nat)} : ∀ k, k < (drL n bd r l).length → alw n bd (mA (drL n bd r l) k) r = true := by
  intro k hk
  have h1 : (drL n bd r l)[k] ∈ drL n bd r l := List.getElem_mem hk
  have h2 := (List.mem_filter.mp h1).2
  unfold mA
  rw [List.getD_eq_getElem?_getD, List.getElem?_eq_getElem hk]
  exact h2
theorem setS_ok {c : CS} {q r : Nat} {bd : Nat → Nat} (ho : cOk c) (hr : r ≤ 8) (hb : ∀ f, f < 4 → bd f ≤ 8) : cOk (setS c q r bd (drL (cN c) bd r (cM c q))) := by
  refine ⟨ho.1, ho.2.1, ho.2.2.1, ho.2.2.2.1, fun z hz => ?_⟩
  have h := ho.2.2.2.2 z hz
  unfold setS
  dsimp only [cN, cR, cB, cM]
  by_cases e : z = q
  · subst e
    simp only [if_pos]
    exact ⟨hr, hb, drL_alw⟩
  · simp only [if_neg e]
    exact h
theorem setS_ct {iv iv2 : Nat → Nat → Int32} {b q r : Nat} {c : CS} {bd : Nat → Nat} {l : List (Nat × Nat)} (hc : isCt iv b c) (hq : q < 2) (hs : isSd iv2 (sB b q) r bd l) (hf : ∀ x, b ≤ x → x < b + 12 → (x < sB b q ∨ sB b q + 5 ≤ x) → iv2 x = iv x) : isCt iv2 b (setS c q r bd l) := by
  obtain ⟨h1, h2, h3, h4, h5⟩ := hc
  rcases (show q = 0 ∨ q = 1 by omega) with rfl | rfl
  · have hf : ∀ x, b ≤ x → x < b + 12 → (x < b + 2 ∨ b + 2 + 5 ≤ x) → iv2 x = iv x := hf
    refine ⟨by rw [hf b (by omega) (by omega) (by omega)]; exact h1, by rw [hf b (by omega) (by omega) (by omega)]; exact h2, fun f hff => by rw [hf (b + 1) (by omega) (by omega) (by omega)]; exact h3 f hff, hs, h5.keep (fun x _ _ => hf x (by omega) (by omega) (by omega))⟩
  · have hf : ∀ x, b ≤ x → x < b + 12 → (x < b + 7 ∨ b + 7 + 5 ≤ x) → iv2 x = iv x := hf
    refine ⟨by rw [hf b (by omega) (by omega) (by omega)]; exact h1, by rw [hf b (by omega) (by omega) (by omega)]; exact h2, fun f hff => by rw [hf (b + 1) (by omega) (by omega) (by omega)]; exact h3 f hff, h4.keep (fun x _ _ => hf x (by omega) (by omega) (by omega)), hs⟩
section ZC1
variable {sc : Nat × (Nat → Int32)} {Q : Option Value → zA → Prop} {h : zA} {p : Nat → Option Nat} {iv : Nat → Nat → Int32} {cs : CS} {hs : List CS} {t : List Nat} {x y z : Int32}
theorem k_fields {v : Value} (R : RC iv p cs hs t) : OKc sc 57 [.ref 1, .int x, v] p iv (sFields cs x).1 (nC cs (sFields cs x)) (nH cs hs (sFields cs x)) t := by
  unfold sFields
  by_cases g : 2 ≤ x ∧ x ≤ 4
  · rw [if_pos g]
    obtain ⟨k, hk2, hk4, rfl⟩ := in_nI2 (l := 2) (k := 4) (by omega) (by omega) g.1 g.2
    obtain ⟨iv1, p1, q1, q2, q3⟩ := c_record (sc := sc) (v := .null) R.1 R.2.2.1
    have hc1 : isCt iv1 2 cs := R.1.keep (fun c _ _ => q2 c (by omega))
    obtain ⟨iv2, r1, r2, r3⟩ := c_startWith (sc := sc) (p := p1) (v := .null) zCt_2 hc1 (show k < 100 by omega) (by have := R.2.1.2.1; omega)
    obtain ⟨w1, w2⟩ := R.rec q1 q2 r1 (cFields_ok R.2.1 hk2 hk4) r2
    refine ⟨iv2, p1, ?_, w2, fun Q hQ => ?_⟩
    · show RC iv2 p1 (cFields cs (tn (nI k))) (hRec hs cs) t
      rw [tn_nI (by omega)]; exact w1
    · simp only [u57_0, u57_1, u57_2, u57_3, u57_6, u57_9, u57_11, u57_12, u57_13, u57_16, u57_19, u57_20, u57_21, u57_24, u57_25, u57_28, u57_31, u57_32, u57_35, u57_36, u57_39, u57_40, c_isIn, decide_eq_true g, zb_t, Option.toList_some, Option.toList_none, List.cons_append, List.nil_append, zRef_some, true_and, and_true, true_or, or_true, i10, i01, not_false_eq_true, if_true, z1o, z1r.1, z1r.2.2.1, zCt_2.1, z26.1, R.1.1]
      refine q3 _ ?_
      simp only [u57_0, u57_1, u57_2, u57_3, u57_6, u57_9, u57_11, u57_12, u57_13, u57_16, u57_19, u57_20, u57_21, u57_24, u57_25, u57_28, u57_31, u57_32, u57_35, u57_36, u57_39, u57_40, Option.toList_some, Option.toList_none, List.cons_append, List.nil_append, zRef_some, true_and, and_true, true_or, or_true, i10, i01, z1o, z1r.1, zCt_2.1, r3]
      exact hQ
  · rw [if_neg g]
    refine ⟨iv, p, R, FC.rf, fun Q hQ => ?_⟩
    simp only [u57_0, u57_1, u57_2, u57_3, u57_6, u57_9, u57_11, u57_12, u57_13, u57_16, u57_19, u57_20, u57_21, u57_24, u57_25, u57_28, u57_31, u57_32, u57_35, u57_36, u57_39, u57_40, c_isIn, decide_eq_false g, zb_f, Option.toList_some, Option.toList_none, List.cons_append, List.nil_append, zRef_some, true_and, and_true, true_or, or_true, i10, i01, not_true_eq_false, if_false]
    exact hQ
theorem k_tie {v : Value} (R : RC iv p cs hs t) : OKc sc 61 [.ref 1, .int x, v] p iv (sTie cs x).1 (nC cs (sTie cs x)) (nH cs hs (sTie cs x)) t := by
  unfold sTie
  by_cases g : 0 ≤ x ∧ x ≤ 2
  · rw [if_pos g]
    obtain ⟨k, hk, rfl⟩ := in_nI (k := 2) (by omega) g.1 g.2
    obtain ⟨iv1, p1, q1, q2, q3⟩ := c_record (sc := sc) (v := .null) R.1 R.2.2.1
    have hc1 : isCt iv1 2 cs := R.1.keep (fun c _ _ => q2 c (by omega))
    have hc2 : isCt (w2 iv1 2 1 (nI k)) 2 (setT cs k) := by
      obtain ⟨a1, a2, a3, a4, a5⟩ := hc1
      exact ⟨by rw [w2_g (by omega)]; exact a1, w2_eq, fun f hf => by rw [w2_c (by omega)]; exact a3 f hf, a4.keep (fun c _ _ => w2_c (by omega)), a5.keep (fun c _ _ => w2_c (by omega))⟩
    have ho2 : cOk (setT cs k) := ⟨R.2.1.1, R.2.1.2.1, hk, R.2.1.2.2.2.1, R.2.1.2.2.2.2⟩
    obtain ⟨w1, w3⟩ := R.rec q1 q2 hc2 ho2 (fun c hc => w2_c (by omega))
    refine ⟨w2 iv1 2 1 (nI k), p1, ?_, w3, fun Q hQ => ?_⟩
    · show RC _ p1 (setT cs (tn (nI k))) (hRec hs cs) t
      rw [tn_nI (by omega)]; exact w1
    · simp only [u61_0, u61_1, u61_2, u61_3, u61_6, u61_9, u61_11, u61_12, u61_13, u61_16, u61_19, u61_20, u61_21, u61_24, u61_25, u61_28, u61_31, u61_32, u61_35, u61_36, u61_39, u61_40, c_isIn, decide_eq_true g, zb_t, Option.toList_some, Option.toList_none, List.cons_append, List.nil_append, zRef_some, true_and, and_true, true_or, or_true, i10, i01, not_false_eq_true, if_true, z1o, z1r.1, z1r.2.2.1, zCt_2.1, z26.1, R.1.2.1]
      refine q3 _ ?_
      simp only [u61_0, u61_1, u61_2, u61_3, u61_6, u61_9, u61_11, u61_12, u61_13, u61_16, u61_19, u61_20, u61_21, u61_24, u61_25, u61_28, u61_31, u61_32, u61_35, u61_36, u61_39, u61_40, Option.toList_some, Option.toList_none, List.cons_append, List.nil_append, zRef_some, true_and, and_true, true_or, or_true, i10, i01, z1o, z1r.1, zCt_2.1]
      exact hQ
  · rw [if_neg g]
    refine ⟨iv, p, R, FC.rf, fun Q hQ => ?_⟩
    simp only [u61_0, u61_1, u61_2, u61_3, u61_6, u61_9, u61_11, u61_12, u61_13, u61_16, u61_19, u61_20, u61_21, u61_24, u61_25, u61_28, u61_31, u61_32, u61_35, u61_36, u61_39, u61_40, c_isIn, decide_eq_false g, zb_f, Option.toList_some, Option.toList_none, List.cons_append, List.nil_append, zRef_some, true_and, and_true, true_or, or_true, i10, i01, not_true_eq_false, if_false]
    exact hQ
theorem k_value {v : Value} (R : RC iv p cs hs t) : OKc sc 58 [.ref 1, .int x, .int y, v] p iv (sValue cs x y).1 (nC cs (sValue cs x y)) (nH cs hs (sValue cs x y)) t := by
  unfold sValue
  have hN := R.2.1.2.1
  by_cases g1 : isF cs x
  · by_cases g2 : 1 ≤ y ∧ y ≤ 9
    · rw [if_pos ⟨g1, g2⟩]
      have g1' : 0 ≤ x ∧ x ≤ nI (cN cs) - 1 := g1
      have d1 := decide_eq_true g1'
      have d2 := decide_eq_true g2
      obtain ⟨f, hf, rfl⟩ := isF_nI R.2.1 g1
      obtain ⟨w, hw1, hw9, rfl⟩ := in_nI2 (l := 1) (k := 9) (by omega) (by omega) g2.1 g2.2
      obtain ⟨iv1, p1, q1, q2, q3⟩ := c_record (sc := sc) (v := .null) R.1 R.2.2.1
      have hc1 : isCt iv1 2 cs := R.1.keep (fun c _ _ => q2 c (by omega))
      have hc2 : isCt (w2 iv1 3 f (nI w)) 2 (setV cs f w) := by
        obtain ⟨a1, a2, a3, a4, a5⟩ := hc1
        refine ⟨by rw [w2_c (by omega)]; exact a1, by rw [w2_c (by omega)]; exact a2, fun k hk => ?_, a4.keep (fun c _ _ => w2_c (by omega)), a5.keep (fun c _ _ => w2_c (by omega))⟩
        show w2 iv1 3 f (nI w) 3 k = nI (if k = f then w else cV cs k)
        by_cases e : k = f
        · subst e; rw [w2_eq, if_pos rfl]
        · rw [w2_g e, if_neg e]; exact a3 k hk
      have ho2 : cOk (setV cs f w) := ⟨R.2.1.1, R.2.1.2.1, R.2.1.2.2.1, fun k hk => by
        show 1 ≤ (if k = f then w else cV cs k) ∧ (if k = f then w else cV cs k) ≤ 9
        have := R.2.1.2.2.2.1 k hk
        split <;> omega, R.2.1.2.2.2.2⟩
      obtain ⟨w1, w3⟩ := R.rec q1 q2 hc2 ho2 (fun c hc => w2_c (by omega))
      refine ⟨w2 iv1 3 f (nI w), p1, ?_, w3, fun Q hQ => ?_⟩
      · show RC _ p1 (setV cs (tn (nI f)) (tn (nI w))) (hRec hs cs) t
        rw [tn_nI (by omega), tn_nI (by omega)]; exact w1
      · have hQ : Q (some (.int (nI (cV cs (tn (nI f)))))) (zst p1 (w2 iv1 3 f (nI w))) := hQ
        rw [tn_nI (by omega)] at hQ
        simp only [u58_0, u58_1, u58_4, u58_5, u58_8, u58_11, u58_12, u58_13, u58_15, u58_18, u58_24, u58_25, u58_28, u58_31, u58_32, u58_33, u58_34, u58_35, u58_38, u58_39, u58_42, u58_45, u58_46, u58_49, u58_52, u58_53, u58_54, u58_55, u58_56, u58_21, u58_23, c_hasField zCt_2 R.1.1, c_isIn, d1, d2, zb_t, Option.toList_some, Option.toList_none, List.cons_append, List.nil_append, zRef_some, true_and, and_true, true_or, or_true, i10, i01, not_false_eq_true, if_true, if_false, z1o, z1r.1, z1r.2.2.1, zCt_2.1, zCt_2.2.1, zCt_2.2.2.1, zCt_2.2.2.2.1, z26.1, nI_clamp (show f < 2 ^ 31 by omega), vp_in_nI (show f < 4 by omega) (by omega), R.1.2.2.1 f (by omega)]
        refine q3 _ ?_
        simp only [u58_0, u58_1, u58_4, u58_5, u58_8, u58_11, u58_12, u58_13, u58_15, u58_18, u58_24, u58_25, u58_28, u58_31, u58_32, u58_33, u58_34, u58_35, u58_38, u58_39, u58_42, u58_45, u58_46, u58_49, u58_52, u58_53, u58_54, u58_55, u58_56, u58_21, u58_23, Option.toList_some, Option.toList_none, List.cons_append, List.nil_append, zRef_some, true_and, and_true, true_or, or_true, i10, i01, z1o, z1r.1, zCt_2.1, zCt_2.2.1, zCt_2.2.2.1, zCt_2.2.2.2.1, nI_clamp (show f < 2 ^ 31 by omega), vp_in_nI (show f < 4 by omega) (by omega)]
        exact hQ
    · rw [if_neg (fun z => g2 z.2)]
      have d1 : decide (0 ≤ x ∧ x ≤ nI (cN cs) - 1) = true := decide_eq_true g1
      refine ⟨iv, p, R, FC.rf, fun Q hQ => ?_⟩
      simp only [u58_0, u58_1, u58_4, u58_5, u58_8, u58_11, u58_12, u58_13, u58_15, u58_18, u58_24, u58_25, u58_28, u58_31, u58_32, u58_33, u58_34, u58_35, u58_38, u58_39, u58_42, u58_45, u58_46, u58_49, u58_52, u58_53, u58_54, u58_55, u58_56, u58_21, u58_23, z1o, z1r.1, zCt_2.1, c_hasField zCt_2 R.1.1, c_isIn, d1, decide_eq_false g2, zb_t, zb_f, Option.toList_some, Option.toList_none, List.cons_append, List.nil_append, zRef_some, true_and, and_true, true_or, or_true, i10, i01, not_true_eq_false, if_false]
      exact hQ
  · rw [if_neg (fun z => g1 z.1)]
    have d1 : decide (0 ≤ x ∧ x ≤ nI (cN cs) - 1) = false := decide_eq_false g1
    refine ⟨iv, p, R, FC.rf, fun Q hQ => ?_⟩
    simp only [u58_0, u58_1, u58_4, u58_5, u58_8, u58_11, u58_12, u58_13, u58_15, u58_18, u58_24, u58_25, u58_28, u58_31, u58_32, u58_33, u58_34, u58_35, u58_38, u58_39, u58_42, u58_45, u58_46, u58_49, u58_52, u58_53, u58_54, u58_55, u58_56, u58_21, u58_23, z1o, z1r.1, zCt_2.1, c_hasField zCt_2 R.1.1, d1, zb_f, Option.toList_some, Option.toList_none, List.cons_append, List.nil_append, zRef_some, true_and, and_true, true_or, or_true, i10, i01, if_true]
    exact hQ
theorem side_end {iv1 iv2 iv3 : Nat → Nat → Int32} {p1 : Nat → Option Nat} {q r : Nat} {bd : Nat → Nat} (R : RC iv p cs hs t) (q1 : isH iv1 p1 (hRec hs cs)) (q2 : ∀ c, c < 26 ∨ 76 ≤ c → iv1 c = iv c) (hq : q < 2) (hr : r ≤ 8) (hb : ∀ f, f < 4 → bd f ≤ 8) (e1 : ∀ c, c < sB 2 q ∨ sB 2 q + 5 ≤ c → iv2 c = iv1 c) (s1 : isSd iv3 (sB 2 q) r bd (drL (cN cs) bd r (cM cs q))) (s2 : ∀ c, c < sB 2 q ∨ sB 2 q + 5 ≤ c → iv3 c = iv2 c) : RC iv3 p1 (nC cs (sSide cs q r bd)) (nH cs hs (sSide cs q r bd)) t ∧ FC iv3 iv := by
  have hsb : 4 ≤ sB 2 q ∧ sB 2 q + 5 ≤ 14 := by unfold sB; split <;> omega
  have hc1 : isCt iv1 2 cs := R.1.keep (fun c _ _ => q2 c (by omega))
  exact R.rec q1 q2 (setS_ct hc1 hq s1 (fun x _ _ h => by rw [s2 x h, e1 x h])) (setS_ok R.2.1 hr hb) (fun c hc => by rw [s2 c (by omega), e1 c (by omega)])
theorem k_res {v : Value} (R : RC iv p cs hs t) : OKc sc 59 [.ref 1, .int x, .int y, v] p iv (sRes cs x y).1 (nC cs (sRes cs x y)) (nH cs hs (sRes cs x y)) t := by
  unfold sRes
  by_cases g1 : isQ x
  · have d1 := decide_eq_true g1
    by_cases g2 : 0 ≤ y ∧ y ≤ 8
    · rw [if_pos ⟨g1, g2⟩]
      have d2 := decide_eq_true g2
      obtain ⟨q, hq, rfl⟩ := isQ_nI g1
      obtain ⟨r, hr, rfl⟩ := in_nI (k := 8) (by omega) g2.1 g2.2
      rw [tn_nI (by omega), tn_nI (by omega)]
      obtain ⟨iv1, p1, q1, q2, q3⟩ := c_record (sc := sc) (v := .null) R.1 R.2.2.1
      have hc1 : isCt iv1 2 cs := R.1.keep (fun c _ _ => q2 c (by omega))
      have hS := hc1.sd hq
      have hz := zCt_2.sd (q := q)
      have hN := R.2.1.2.1
      have hbd := (R.2.1.2.2.2.2 q hq).2.1
      have hsb : 4 ≤ sB 2 q ∧ sB 2 q + 5 ≤ 14 := by unfold sB; split <;> omega
      have hS2 : isSd (w2 iv1 (sB 2 q) 0 (nI r)) (sB 2 q) r (cB cs q) (cM cs q) := ⟨w2_eq, fun f hf => by rw [w2_c (by omega)]; exact hS.2.1 f hf, hS.2.2.keep (fun c _ _ => w2_c (by omega))⟩
      obtain ⟨iv3, s1, s2, s3⟩ := c_drop (sc := sc) (p := p1) (v := .null) hz hN hS2 (show r < 100 by omega) (fun f hf => by have := hbd f hf; omega)
      obtain ⟨w1, w3⟩ := side_end R q1 q2 hq hr hbd (fun c hc => w2_c (by omega)) s1 s2
      refine ⟨iv3, p1, w1, w3, fun Q hQ => ?_⟩
      have hn0 : w2 iv1 (sB 2 q) 0 (nI r) 2 0 = nI (cN cs) := by rw [w2_c (by omega)]; exact hc1.1
      simp only [u59_0, u59_1, u59_4, u59_7, u59_8, u59_9, u59_11, u59_14, u59_20, u59_21, u59_24, u59_25, u59_28, u59_31, u59_32, u59_35, u59_36, u59_39, u59_40, u59_41, u59_42, u59_45, u59_46, u59_47, u59_50, u59_53, u59_56, u59_57, u59_60, u59_63, u59_17, u59_19, c_isPlayer, c_isIn, d1, d2, zb_t, Option.toList_some, Option.toList_none, List.cons_append, List.nil_append, zRef_some, true_and, and_true, true_or, or_true, i10, i01, not_false_eq_true, if_true, if_false, z1o, z1r.1, z1r.2.2.1, zCt_2.1, z26.1]
      refine q3 _ ?_
      simp only [u59_0, u59_1, u59_4, u59_7, u59_8, u59_9, u59_11, u59_14, u59_20, u59_21, u59_24, u59_25, u59_28, u59_31, u59_32, u59_35, u59_36, u59_39, u59_40, u59_41, u59_42, u59_45, u59_46, u59_47, u59_50, u59_53, u59_56, u59_57, u59_60, u59_63, u59_17, u59_19, Option.toList_some, Option.toList_none, List.cons_append, List.nil_append, zRef_some, true_and, and_true, true_or, or_true, i10, i01, z1o, z1r.1, zCt_2.1, c_side zCt_2 hq, hz.1, hn0]
      refine s3 _ ?_
      simp only [u59_0, u59_1, u59_4, u59_7, u59_8, u59_9, u59_11, u59_14, u59_20, u59_21, u59_24, u59_25, u59_28, u59_31, u59_32, u59_35, u59_36, u59_39, u59_40, u59_41, u59_42, u59_45, u59_46, u59_47, u59_50, u59_53, u59_56, u59_57, u59_60, u59_63, u59_17, u59_19, Option.toList_some, Option.toList_none, List.cons_append, List.nil_append, zRef_some, true_and, and_true, true_or, or_true, i10, i01, hz.1, hz.2.2.2.2.1, hz.2.2.2.2.2.1, s1.2.2.2.1]
      exact hQ
    · rw [if_neg (fun z => g2 z.2)]
      refine ⟨iv, p, R, FC.rf, fun Q hQ => ?_⟩
      simp only [u59_0, u59_1, u59_4, u59_7, u59_8, u59_9, u59_11, u59_14, u59_20, u59_21, u59_24, u59_25, u59_28, u59_31, u59_32, u59_35, u59_36, u59_39, u59_40, u59_41, u59_42, u59_45, u59_46, u59_47, u59_50, u59_53, u59_56, u59_57, u59_60, u59_63, u59_17, u59_19, c_isPlayer, c_isIn, d1, decide_eq_false g2, zb_t, zb_f, Option.toList_some, Option.toList_none, List.cons_append, List.nil_append, zRef_some, true_and, and_true, true_or, or_true, i10, i01, not_true_eq_false, if_false]
      exact hQ
  · rw [if_neg (fun z => g1 z.1)]
    refine ⟨iv, p, R, FC.rf, fun Q hQ => ?_⟩
    simp only [u59_0, u59_1, u59_4, u59_7, u59_8, u59_9, u59_11, u59_14, u59_20, u59_21, u59_24, u59_25, u59_28, u59_31, u59_32, u59_35, u59_36, u59_39, u59_40, u59_41, u59_42, u59_45, u59_46, u59_47, u59_50, u59_53, u59_56, u59_57, u59_60, u59_63, u59_17, u59_19, c_isPlayer, decide_eq_false g1, zb_f, Option.toList_some, Option.toList_none, List.cons_append, List.nil_append, zRef_some, true_and, and_true, true_or, or_true, i10, i01, if_true]
    exact hQ
theorem k_bound {v : Value} (R : RC iv p cs hs t) : OKc sc 60 [.ref 1, .int x, .int y, .int z, v] p iv (sBound cs x y z).1 (nC cs (sBound cs x y z)) (nH cs hs (sBound cs x y z)) t := by
  unfold sBound
  by_cases g1 : isQ x
  · have d1 := decide_eq_true g1
    by_cases g2 : isF cs y
    · have d2 : decide (0 ≤ y ∧ y ≤ nI (cN cs) - 1) = true := decide_eq_true g2
      by_cases g3 : 0 ≤ z ∧ z ≤ 8
      · rw [if_pos ⟨g1, g2, g3⟩]
        have d3 := decide_eq_true g3
        obtain ⟨q, hq, rfl⟩ := isQ_nI g1
        obtain ⟨f, hf, rfl⟩ := isF_nI R.2.1 g2
        obtain ⟨r, hr, rfl⟩ := in_nI (k := 8) (by omega) g3.1 g3.2
        have hN := R.2.1.2.1
        rw [tn_nI (by omega), tn_nI (by omega), tn_nI (by omega)]
        obtain ⟨iv1, p1, q1, q2, q3⟩ := c_record (sc := sc) (v := .null) R.1 R.2.2.1
        have hc1 : isCt iv1 2 cs := R.1.keep (fun c _ _ => q2 c (by omega))
        have hS := hc1.sd hq
        have hz := zCt_2.sd (q := q)
        have hbd := (R.2.1.2.2.2.2 q hq).2.1
        have hrs := (R.2.1.2.2.2.2 q hq).1
        have hsb : 4 ≤ sB 2 q ∧ sB 2 q + 5 ≤ 14 := by unfold sB; split <;> omega
        have hb2 : ∀ k, k < 4 → (if k = f then r else cB cs q k) ≤ 8 := fun k hk => by have := hbd k hk; split <;> omega
        have hS2 : isSd (w2 iv1 (sB 2 q + 1) f (nI r)) (sB 2 q) (cR cs q) (fun k => if k = f then r else cB cs q k) (cM cs q) := ⟨by rw [w2_c (by omega)]; exact hS.1, fun k hk => by
          show w2 iv1 (sB 2 q + 1) f (nI r) (sB 2 q + 1) k = nI (if k = f then r else cB cs q k)
          by_cases e : k = f
          · rw [e, w2_eq, if_pos rfl]
          · rw [w2_g e, if_neg e]; exact hS.2.1 k hk, hS.2.2.keep (fun c _ _ => w2_c (by omega))⟩
        obtain ⟨iv3, s1, s2, s3⟩ := c_drop (sc := sc) (p := p1) (v := .null) hz hN hS2 (show cR cs q < 100 by omega) (fun k hk => by have := hb2 k hk; omega)
        obtain ⟨w1, w3⟩ := side_end R q1 q2 hq hrs hb2 (fun c hc => w2_c (by omega)) s1 s2
        refine ⟨iv3, p1, w1, w3, fun Q hQ => ?_⟩
        have hn0 : w2 iv1 (sB 2 q + 1) f (nI r) 2 0 = nI (cN cs) := by rw [w2_c (by omega)]; exact hc1.1
        simp only [u60_0, u60_1, u60_4, u60_7, u60_8, u60_11, u60_12, u60_15, u60_18, u60_19, u60_20, u60_22, u60_25, u60_31, u60_32, u60_35, u60_36, u60_39, u60_42, u60_43, u60_46, u60_47, u60_50, u60_52, u60_54, u60_57, u60_58, u60_59, u60_60, u60_62, u60_63, u60_66, u60_69, u60_72, u60_74, u60_77, u60_80, u60_28, u60_30, c_isPlayer, c_hasField zCt_2 R.1.1, c_isIn, d1, d2, d3, zb_t, Option.toList_some, Option.toList_none, List.cons_append, List.nil_append, zRef_some, true_and, and_true, true_or, or_true, i10, i01, not_false_eq_true, if_true, if_false, z1o, z1r.1, z1r.2.2.1, zCt_2.1, z26.1]
        refine q3 _ ?_
        simp only [u60_0, u60_1, u60_4, u60_7, u60_8, u60_11, u60_12, u60_15, u60_18, u60_19, u60_20, u60_22, u60_25, u60_31, u60_32, u60_35, u60_36, u60_39, u60_42, u60_43, u60_46, u60_47, u60_50, u60_52, u60_54, u60_57, u60_58, u60_59, u60_60, u60_62, u60_63, u60_66, u60_69, u60_72, u60_74, u60_77, u60_80, u60_28, u60_30, Option.toList_some, Option.toList_none, List.cons_append, List.nil_append, zRef_some, true_and, and_true, true_or, or_true, i10, i01, z1o, z1r.1, zCt_2.1, c_side zCt_2 hq, hz.1, hz.2.1, hz.2.2.1, hz.2.2.2.1, nI_clamp (show f < 2 ^ 31 by omega), vp_in_nI (show f < 4 by omega) (by omega), hn0]
        refine s3 _ ?_
        simp only [u60_0, u60_1, u60_4, u60_7, u60_8, u60_11, u60_12, u60_15, u60_18, u60_19, u60_20, u60_22, u60_25, u60_31, u60_32, u60_35, u60_36, u60_39, u60_42, u60_43, u60_46, u60_47, u60_50, u60_52, u60_54, u60_57, u60_58, u60_59, u60_60, u60_62, u60_63, u60_66, u60_69, u60_72, u60_74, u60_77, u60_80, u60_28, u60_30, Option.toList_some, Option.toList_none, List.cons_append, List.nil_append, zRef_some, true_and, and_true, true_or, or_true, i10, i01, hz.1, hz.2.2.2.2.1, hz.2.2.2.2.2.1, s1.2.2.2.1]
        exact hQ
      · rw [if_neg (fun z => g3 z.2.2)]
        refine ⟨iv, p, R, FC.rf, fun Q hQ => ?_⟩
        simp only [u60_0, u60_1, u60_4, u60_7, u60_8, u60_11, u60_12, u60_15, u60_18, u60_19, u60_20, u60_22, u60_25, u60_31, u60_32, u60_35, u60_36, u60_39, u60_42, u60_43, u60_46, u60_47, u60_50, u60_52, u60_54, u60_57, u60_58, u60_59, u60_60, u60_62, u60_63, u60_66, u60_69, u60_72, u60_74, u60_77, u60_80, u60_28, u60_30, z1o, z1r.1, zCt_2.1, c_hasField zCt_2 R.1.1, c_isPlayer, c_isIn, d1, d2, decide_eq_false g3, zb_t, zb_f, Option.toList_some, Option.toList_none, List.cons_append, List.nil_append, zRef_some, true_and, and_true, true_or, or_true, i10, i01, not_true_eq_false, if_false]
        exact hQ
    · rw [if_neg (fun z => g2 z.2.1)]
      have d2 : decide (0 ≤ y ∧ y ≤ nI (cN cs) - 1) = false := decide_eq_false g2
      refine ⟨iv, p, R, FC.rf, fun Q hQ => ?_⟩
      simp only [u60_0, u60_1, u60_4, u60_7, u60_8, u60_11, u60_12, u60_15, u60_18, u60_19, u60_20, u60_22, u60_25, u60_31, u60_32, u60_35, u60_36, u60_39, u60_42, u60_43, u60_46, u60_47, u60_50, u60_52, u60_54, u60_57, u60_58, u60_59, u60_60, u60_62, u60_63, u60_66, u60_69, u60_72, u60_74, u60_77, u60_80, u60_28, u60_30, z1o, z1r.1, zCt_2.1, c_hasField zCt_2 R.1.1, c_isPlayer, d1, d2, zb_t, zb_f, Option.toList_some, Option.toList_none, List.cons_append, List.nil_append, zRef_some, true_and, and_true, true_or, or_true, i10, i01, if_true, if_false]
      exact hQ
  · rw [if_neg (fun z => g1 z.1)]
    refine ⟨iv, p, R, FC.rf, fun Q hQ => ?_⟩
    simp only [u60_0, u60_1, u60_4, u60_7, u60_8, u60_11, u60_12, u60_15, u60_18, u60_19, u60_20, u60_22, u60_25, u60_31, u60_32, u60_35, u60_36, u60_39, u60_42, u60_43, u60_46, u60_47, u60_50, u60_52, u60_54, u60_57, u60_58, u60_59, u60_60, u60_62, u60_63, u60_66, u60_69, u60_72, u60_74, u60_77, u60_80, u60_28, u60_30, c_isPlayer, decide_eq_false g1, zb_f, Option.toList_some, Option.toList_none, List.cons_append, List.nil_append, zRef_some, true_and, and_true, true_or, or_true, i10, i01, if_true]
    exact hQ
end ZC1
