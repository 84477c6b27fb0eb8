/-! ===== what an act's call comes to, case by case ===== -/
section ZPU
variable {cs : CS} {P q n a w f v r b m : Nat} {hs : List CS} {t : List Nat}
theorem lt3 (h : P < 3) (h2 : ¬ P = 2) : P < 2 := by omega
theorem put_cases (hsk : sOk cs) (hP : P < 3) (hq : P < 2 → q = P) (ha : a < 9000) (hw : w < 101) (hn : n ≠ 0 → alw (cN cs) (cB cs q) a (cR cs q) = true) :
    (sPut cs (nI P) (nI a) (nI w) = (eIA, none) ∧ (P = 2 ∨ w = 0 ∨ w = 100 ∨ n = 0)) ∨ (P < 2 ∧ sPut cs (nI P) (nI a) (nI w) = (eLR, none) ∧ (cM cs P).length = 12) ∨ (P < 2 ∧ ∃ had c', sPut cs (nI P) (nI a) (nI w) = (nI had, some c') ∧ had ≤ 99 ∧ (cM c' P).length = (cM cs P).length + (if had = 0 then 1 else 0)) := by
  by_cases g : isQ (nI P) ∧ isA cs (tn (nI P)) (nI a) = true ∧ 1 ≤ nI w ∧ nI w ≤ 99
  · have hP2 : P < 2 := by
      by_cases c : P = 2
      · exact absurd g.1 (isQ_2 (by omega) (by omega))
      · omega
    have m0 := hsk.2 P hP2
    have e : sPut cs (nI P) (nI a) (nI w) = if (cM cs P).length < 12 ∨ mIn (cM cs P) a = true then (nI (mOf (cM cs P) a), some (setM cs P (mSet (cM cs P) a w))) else (eLR, none) := by
      unfold sPut
      rw [if_pos g, tn_nI (by omega), tn_nI (by omega), tn_nI (by omega)]
    by_cases g2 : (cM cs P).length < 12 ∨ mIn (cM cs P) a = true
    · rw [if_pos g2] at e
      have ho := mOf_ok (x := a) m0
      refine Or.inr (Or.inr ⟨hP2, mOf (cM cs P) a, _, e, ho.1, ?_⟩)
      rw [cM_set]
      by_cases g3 : mIn (cM cs P) a = true
      · have := ho.2.mpr g3
        rw [(mSet_in (w := w) g3).1, if_neg (by omega)]
        rfl
      · have : ¬ 0 < mOf (cM cs P) a := fun z => g3 (ho.2.mp z)
        rw [(mSet_new (w := w) g3).1, if_pos (by omega)]
    · rw [if_neg g2] at e
      have := m0.1
      exact Or.inr (Or.inl ⟨hP2, e, by omega⟩)
  · have e : sPut cs (nI P) (nI a) (nI w) = (eIA, none) := by
      unfold sPut
      rw [if_neg g]
    refine Or.inl ⟨e, ?_⟩
    by_cases c : P = 2
    · exact Or.inl c
    · by_cases c2 : n = 0
      · exact Or.inr (Or.inr (Or.inr c2))
      · have hP2 := lt3 hP c
        have hq := hq hP2
        subst hq
        by_cases c3 : w = 0
        · exact Or.inr (Or.inl c3)
        · by_cases c4 : w = 100
          · exact Or.inr (Or.inr (Or.inl c4))
          · refine absurd ⟨isQ_q hP2, ?_, nI_le (a := 1) (by omega) (by omega), nI_le (b := 99) (by omega) (by omega)⟩ g
            rw [tn_nI (by omega)]
            exact isA_of hsk.1 hP2 (by omega) (hn c2)
theorem take_cases (hsk : sOk cs) (hP : P < 3) (hq : P < 2 → q = P) (ha : a < 9000) (hn : n ≠ 0 → alw (cN cs) (cB cs q) a (cR cs q) = true) :
    (sTake cs (nI P) (nI a) = (eIA, none) ∧ (P = 2 ∨ n = 0)) ∨ sTake cs (nI P) (nI a) = (eNP, none) ∨ (P < 2 ∧ ∃ had c', sTake cs (nI P) (nI a) = (nI had, some c') ∧ 0 < had ∧ had ≤ 99 ∧ 0 < (cM cs P).length ∧ (cM c' P).length = (cM cs P).length - 1) := by
  by_cases g : isQ (nI P) ∧ isA cs (tn (nI P)) (nI a) = true
  · have hP2 : P < 2 := by
      by_cases c : P = 2
      · exact absurd g.1 (isQ_2 (by omega) (by omega))
      · omega
    have m0 := hsk.2 P hP2
    have ho := mOf_ok (x := a) m0
    have e : sTake cs (nI P) (nI a) = if mOf (cM cs P) a = 0 then (eNP, none) else (nI (mOf (cM cs P) a), some (setM cs P ((cM cs P).eraseIdx (mPl (cM cs P) a)))) := by
      unfold sTake
      rw [if_pos g, tn_nI (by omega), tn_nI (by omega)]
    by_cases g2 : mOf (cM cs P) a = 0
    · rw [if_pos g2] at e
      exact Or.inr (Or.inl e)
    · rw [if_neg g2] at e
      have g3 := (mIn_iff.mp (ho.2.mp (by omega))).1
      refine Or.inr (Or.inr ⟨hP2, mOf (cM cs P) a, _, e, by omega, ho.1, by omega, ?_⟩)
      rw [cM_set]
      exact (mDel_at g3).1
  · have e : sTake cs (nI P) (nI a) = (eIA, none) := by
      unfold sTake
      rw [if_neg g]
    refine Or.inl ⟨e, ?_⟩
    by_cases c : P = 2
    · exact Or.inl c
    · by_cases c2 : n = 0
      · exact Or.inr c2
      · have hP2 := lt3 hP c
        have hq := hq hP2
        subst hq
        refine absurd ⟨isQ_q hP2, ?_⟩ g
        rw [tn_nI (by omega)]
        exact isA_of hsk.1 hP2 (by omega) (hn c2)
theorem sum_ins {l : List (Nat × Nat)} {x w : Nat} (h : ¬ mIn l x = true) : mSum (mSet l x w) = mSum l + w := by
  unfold mSet
  rw [if_neg h]
  unfold mSum
  rw [List.map_append, List.map_cons, List.sum_append, List.sum_cons]
  have e : ((l.take (mPl l x)).map (fun e => e.2)).sum + ((l.drop (mPl l x)).map (fun e => e.2)).sum = (l.map (fun e => e.2)).sum := by
    rw [← List.sum_append, ← List.map_append, List.take_append_drop]
  omega
theorem sum_set : ∀ (l : List (Nat × Nat)) (i : Nat) (e : Nat × Nat), i < l.length → mSum (l.set i e) + (l.getD i (0, 0)).2 = mSum l + e.2 := by
  intro l
  induction l with
  | nil => intro i e h; exact absurd h (Nat.not_lt_zero _)
  | cons z l ih =>
    intro i e h
    cases i with
    | zero =>
      show e.2 + (l.map _).sum + z.2 = z.2 + (l.map _).sum + e.2
      omega
    | succ i =>
      have h2 := ih i e (by rw [List.length_cons] at h; omega)
      have e1 : mSum ((z :: l).set (i + 1) e) = z.2 + mSum (l.set i e) := rfl
      have e2 : mSum (z :: l) = z.2 + mSum l := rfl
      have e3 : ((z :: l).getD (i + 1) (0, 0)).2 = (l.getD i (0, 0)).2 := rfl
      omega
theorem sum_in {l : List (Nat × Nat)} {x w : Nat} (h : mIn l x = true) : mSum (mSet l x w) + mOf l x = mSum l + w := by
  have h2 := (mIn_iff.mp h).1
  unfold mSet mOf
  rw [if_pos h, if_pos h]
  exact sum_set l (mPl l x) (x, w) h2
theorem sum_add (l : List (Nat × Nat)) (x : Nat) : mSum (mSet l x (mOf l x + 1)) = mSum l + 1 := by
  by_cases h : mIn l x = true
  · have := sum_in (w := mOf l x + 1) h
    omega
  · have e : mOf l x = 0 := if_neg h
    rw [sum_ins h, e]
theorem rnd1_sum {c d : CS} (e : rnd1 c = some d) : mSum (cM d 0) = mSum (cM c 0) + 1 := by
  unfold rnd1 at e
  split at e
  next h0 =>
    split at e
    next h1 =>
      obtain rfl := Option.some.inj e
      have e2 : cM (setM (setM c 0 (mSet (cM c 0) (bR c 0).1 (mOf (cM c 0) (bR c 0).1 + 1))) 1 (mSet (cM c 1) (bR c 1).1 (mOf (cM c 1) (bR c 1).1 + 1))) 0 = mSet (cM c 0) (bR c 0).1 (mOf (cM c 0) (bR c 0).1 + 1) := rfl
      rw [e2, sum_add]
    next => cases e
  next => cases e
theorem rnd_sum : ∀ m (c d : CS), rnd m c = some d → mSum (cM d 0) = mSum (cM c 0) + m := by
  intro m
  induction m with
  | zero =>
    intro c d e
    cases e
    rfl
  | succ m ih =>
    intro c d e
    unfold rnd at e
    split at e
    next => cases e
    next c1 h1 =>
      rw [ih c1 d e, rnd1_sum h1]
      omega
theorem round_cases (hm : m ≤ 21) : ((m = 0 ∨ m = 21) ∧ sRound cs (nI m) = (eIA, none)) ∨ (¬ m = 0 ∧ ¬ m = 21 ∧ (sRound cs (nI m) = (eNP, none) ∨ sRound cs (nI m) = (eLR, none) ∨ ∃ d, sRound cs (nI m) = (szM d, some d) ∧ mSum (cM d 0) = mSum (cM cs 0) + m)) := by
  by_cases c : m = 0 ∨ m = 21
  · refine Or.inl ⟨c, ?_⟩
    unfold sRound
    rw [if_neg]
    rintro ⟨z1, z2⟩
    rcases c with rfl | rfl
    · exact absurd z1 (by decide)
    · exact absurd z2 (by decide)
  · have e : sRound cs (nI m) = if (cM cs 0).length = 0 ∨ (cM cs 1).length = 0 then (eNP, none) else oRnd (rnd m cs) := by
      unfold sRound
      rw [if_pos ⟨nI_le (a := 1) (by omega) (by omega), nI_le (b := 20) (by omega) (by omega)⟩, tn_nI (by omega)]
    refine Or.inr ⟨fun z => c (Or.inl z), fun z => c (Or.inr z), ?_⟩
    by_cases g : (cM cs 0).length = 0 ∨ (cM cs 1).length = 0
    · rw [if_pos g] at e
      exact Or.inl e
    · rw [if_neg g] at e
      cases er : rnd m cs with
      | none =>
        rw [er] at e
        exact Or.inr (Or.inl e)
      | some d =>
        rw [er] at e
        exact Or.inr (Or.inr ⟨d, e, rnd_sum m cs d er⟩)
theorem value_no (ho : cOk cs) (hf : cN cs ≤ f) (h : f < 1000) : sValue cs (nI f) (nI v) = (eIA, none) := by
  unfold sValue
  rw [if_neg (fun z => isF_no ho hf h z.1)]
theorem value_no2 (hv : v = 0 ∨ v = 10) : sValue cs (nI f) (nI v) = (eIA, none) := by
  unfold sValue
  rw [if_neg]
  rintro ⟨-, z1, z2⟩
  rcases hv with rfl | rfl
  · exact absurd z1 (by decide)
  · exact absurd z2 (by decide)
theorem value_ok (ho : cOk cs) (hf : f < cN cs) (h1 : 1 ≤ v) (h9 : v ≤ 9) : sValue cs (nI f) (nI v) = (nI (cV cs f), some (setV cs f v)) := by
  have := ho.2.1
  unfold sValue
  rw [if_pos ⟨isF_f ho hf, nI_le (a := 1) h1 (by omega), nI_le (b := 9) h9 (by omega)⟩, tn_nI (by omega), tn_nI (by omega)]
theorem res_no (hP : P < 3) (hr : r < 10) (h : P = 2 ∨ r = 9) : sRes cs (nI P) (nI r) = (eIA, none) := by
  unfold sRes
  rw [if_neg]
  rintro ⟨z1, z2, z3⟩
  rcases h with rfl | rfl
  · exact isQ_2 (q := 2) (by omega) (by omega) z1
  · exact absurd z3 (by decide)
theorem drL_le {bd : Nat → Nat} {l : List (Nat × Nat)} : (drL n bd r l).length ≤ l.length := List.length_filter_le _ _
theorem cM_setS {c : CS} {bd : Nat → Nat} {l : List (Nat × Nat)} : cM (setS c q r bd l) q = l := by
  show (if q = q then l else cM c q) = l
  exact if_pos rfl
theorem cB_setS {c : CS} {bd : Nat → Nat} {l : List (Nat × Nat)} : cB (setS c q r bd l) q = bd := by
  show (if q = q then bd else cB c q) = bd
  exact if_pos rfl
theorem res_ok (hP : P < 2) (hr : r ≤ 8) : ∃ c', sRes cs (nI P) (nI r) = (nI (cM c' P).length, some c') ∧ (cM c' P).length ≤ (cM cs P).length := by
  have e : sRes cs (nI P) (nI r) = sSide cs P r (cB cs P) := by
    unfold sRes
    rw [if_pos ⟨isQ_q hP, nI_pos' (by omega), nI_le (b := 8) hr (by omega)⟩, tn_nI (by omega), tn_nI (by omega)]
  refine ⟨setS cs P r (cB cs P) (drL (cN cs) (cB cs P) r (cM cs P)), ?_, ?_⟩
  · rw [e, cM_setS]
    rfl
  · rw [cM_setS]
    exact drL_le
theorem bound_no (ho : cOk cs) (hf1 : f < 1000) (h : P = 2 ∨ cN cs ≤ f ∨ b = 9) : sBound cs (nI P) (nI f) (nI b) = (eIA, none) := by
  unfold sBound
  rw [if_neg]
  rintro ⟨z1, z2, z3, z4⟩
  rcases h with rfl | h | rfl
  · exact isQ_2 (q := 2) (by omega) (by omega) z1
  · exact isF_no ho h hf1 z2
  · exact absurd z4 (by decide)
theorem bound_ok (ho : cOk cs) (hP : P < 2) (hf : f < cN cs) (hb : b ≤ 8) : ∃ c', sBound cs (nI P) (nI f) (nI b) = (nI (cM c' P).length, some c') ∧ cB c' P f = b ∧ cN c' = cN cs := by
  have := ho.2.1
  have e : sBound cs (nI P) (nI f) (nI b) = sSide cs P (cR cs P) (fun g => if g = f then b else cB cs P g) := by
    unfold sBound
    rw [if_pos ⟨isQ_q hP, isF_f ho hf, nI_pos' (by omega), nI_le (b := 8) hb (by omega)⟩, tn_nI (by omega), tn_nI (by omega), tn_nI (by omega)]
  refine ⟨setS cs P (cR cs P) (fun g => if g = f then b else cB cs P g) (drL (cN cs) (fun g => if g = f then b else cB cs P g) (cR cs P) (cM cs P)), ?_, ?_, rfl⟩
  · rw [e, cM_setS]
    rfl
  · rw [cB_setS]
    exact if_pos rfl
theorem tie_no : sTie cs (nI 3) = (eIA, none) := by
  unfold sTie
  rw [if_neg (fun z => absurd z.2 (by decide))]
theorem tie_ok (hr : r ≤ 2) : sTie cs (nI r) = (nI (cT cs), some (setT cs r)) := by
  unfold sTie
  rw [if_pos ⟨nI_pos' (by omega), nI_le (b := 2) hr (by omega)⟩, tn_nI (by omega)]
theorem fields_no (h : m = 1 ∨ m = 5) : sFields cs (nI m) = (eIA, none) := by
  unfold sFields
  rw [if_neg]
  rintro ⟨z1, z2⟩
  rcases h with rfl | rfl
  · exact absurd z1 (by decide)
  · exact absurd z2 (by decide)
theorem fields_ok (h2 : 2 ≤ m) (h4 : m ≤ 4) : sFields cs (nI m) = (nI (cN cs), some (cFields cs m)) := by
  unfold sFields
  rw [if_pos ⟨nI_le (a := 2) h2 (by omega), nI_le (b := 4) h4 (by omega)⟩, tn_nI (by omega)]
theorem vSum_1 : ∀ m, vSum (fun _ => 1) m = m := by
  intro m
  induction m with
  | zero => rfl
  | succ m ih =>
    unfold vSum
    rw [ih]
end ZPU
