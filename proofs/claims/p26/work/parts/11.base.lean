/-! ===== plain facts: numbers below 2^31 as ints, mixtures as lists, shapes of the class's objects ===== -/
theorem i10 : ((1 : Int32) = 0) = False := by simp
theorem i01 : ((0 : Int32) = 1) = False := by simp
theorem nI_lit {n : Nat} : Int32.ofNat n = nI n := rfl
theorem zE_use {sc : Nat × (Nat → Int32)} {k pc : Nat} {ls st : List Value} {h h2 : zA} {Q : Option Value → zA → Prop} {r : Option Value} (e : ∀ Q : Option Value → zA → Prop, Q r h2 → zEv sc k pc ls st h Q) : zEv sc k pc ls st h Q ↔ Q r h2 := by
  constructor
  · rintro ⟨n, r1, h1, h3⟩
    obtain ⟨m, r4, h4, h5⟩ := e (fun a b => a = r ∧ b = h2) ⟨rfl, rfl⟩
    have g1 := z_mono sc _ _ _ _ _ _ _ h1 _ (Nat.le_max_left n m)
    have g2 := z_mono sc _ _ _ _ _ _ _ h4 _ (Nat.le_max_right n m)
    have g3 : r1 = r4 := Option.some.inj (g1.symm.trans g2)
    subst g3
    rw [← h5.1, ← h5.2]
    exact h3
  · exact e Q
/-- a loop over a counter: the state at the end, with what it says -/
theorem z_loop {σ : Type} (Z : Nat → σ → (Option Value → zA → Prop) → Prop) (I : Nat → σ → Prop) (e : Nat) (step : ∀ i s, i < e → I i s → ∃ s', I (i + 1) s' ∧ ∀ Q, Z (i + 1) s' Q → Z i s Q) : ∀ d i s, e - i = d → i ≤ e → I i s → ∃ s', I e s' ∧ ∀ Q, Z e s' Q → Z i s Q := by
  intro d
  induction d with
  | zero =>
    intro i s hd hi hI
    have : i = e := by omega
    subst this
    exact ⟨s, hI, fun Q h => h⟩
  | succ d ih =>
    intro i s hd hi hI
    obtain ⟨s1, h1, h2⟩ := step i s (by omega) hI
    obtain ⟨s2, h3, h4⟩ := ih (i + 1) s1 (by omega) (by omega) h1
    exact ⟨s2, h3, fun Q h => h2 Q (h4 Q h)⟩
/-- the same, downwards to 0 -/
theorem z_loopD {σ : Type} (Z : Nat → σ → (Option Value → zA → Prop) → Prop) (I : Nat → σ → Prop) (step : ∀ i s, I (i + 1) s → ∃ s', I i s' ∧ ∀ Q, Z i s' Q → Z (i + 1) s Q) : ∀ i s, I i s → ∃ s', I 0 s' ∧ ∀ Q, Z 0 s' Q → Z i s Q := by
  intro i
  induction i with
  | zero => intro s h; exact ⟨s, h, fun Q h => h⟩
  | succ i ih =>
    intro s h
    obtain ⟨s1, h1, h2⟩ := step i s h
    obtain ⟨s2, h3, h4⟩ := ih s1 h1
    exact ⟨s2, h3, fun Q h => h2 Q (h4 Q h)⟩
-- mixtures
def mA (l : List (Nat × Nat)) (k : Nat) : Nat := (l.getD k (0, 0)).1
def mW (l : List (Nat × Nat)) (k : Nat) : Nat := (l.getD k (0, 0)).2
def mPl (l : List (Nat × Nat)) (x : Nat) : Nat := match l with
  | [] => 0
  | e :: l => if e.1 < x then mPl l x + 1 else 0
theorem mPl_le (l : List (Nat × Nat)) (x : Nat) : mPl l x ≤ l.length := by
  induction l with
  | nil => exact Nat.le_refl _
  | cons e l ih =>
    unfold mPl
    rw [List.length_cons]
    split <;> omega
theorem mPl_lt (l : List (Nat × Nat)) (x : Nat) : ∀ k, k < mPl l x → mA l k < x := by
  induction l with
  | nil => intro k h; unfold mPl at h; omega
  | cons e l ih =>
    intro k h
    unfold mPl at h
    split at h
    next c =>
      cases k with
      | zero => exact c
      | succ k => exact ih k (by omega)
    next => omega
theorem mPl_ge (l : List (Nat × Nat)) (x : Nat) : mPl l x < l.length → ¬ mA l (mPl l x) < x := by
  induction l with
  | nil => intro h; exact absurd h (Nat.not_lt_zero _)
  | cons e l ih =>
    unfold mPl
    intro h
    split at h
    next c =>
      rw [if_pos c]
      rw [List.length_cons] at h
      exact ih (by omega)
    next c =>
      rw [if_neg c]
      exact c
theorem mPl_of {l : List (Nat × Nat)} {x k : Nat} (h1 : k ≤ l.length) (h2 : ∀ j, j < k → mA l j < x) (h3 : k < l.length → ¬ mA l k < x) : mPl l x = k := by
  rcases Nat.lt_trichotomy (mPl l x) k with h | h | h
  · exact absurd (h2 _ h) (mPl_ge l x (by omega))
  · exact h
  · exact absurd (mPl_lt l x k h) (h3 (Nat.lt_of_lt_of_le h (mPl_le l x)))
def mIn (l : List (Nat × Nat)) (x : Nat) : Bool := decide (mPl l x < l.length ∧ mA l (mPl l x) = x)
def mOf (l : List (Nat × Nat)) (x : Nat) : Nat := if mIn l x then mW l (mPl l x) else 0
def mSet (l : List (Nat × Nat)) (x w : Nat) : List (Nat × Nat) := if mIn l x then l.set (mPl l x) (x, w) else l.take (mPl l x) ++ (x, w) :: l.drop (mPl l x)
def mSum (l : List (Nat × Nat)) : Nat := (l.map (fun e => e.2)).sum
/-- what stands in a mixture: in order, weights of 1 to 99, at most 12 -/
def mOk (l : List (Nat × Nat)) : Prop := l.length ≤ 12 ∧ (∀ k, k < l.length → mA l k < 10000 ∧ 1 ≤ mW l k ∧ mW l k ≤ 99) ∧ ∀ i j, i < j → j < l.length → mA l i < mA l j
theorem mA_lt {l : List (Nat × Nat)} {k : Nat} (o : mOk l) (h : k < l.length) : mA l k < 10000 := (o.2.1 k h).1
theorem mW_ok {l : List (Nat × Nat)} {k : Nat} (o : mOk l) (h : k < l.length) : 1 ≤ mW l k ∧ mW l k ≤ 99 := (o.2.1 k h).2
theorem mOf_ok {l : List (Nat × Nat)} {x : Nat} (o : mOk l) : mOf l x ≤ 99 ∧ (0 < mOf l x ↔ mIn l x = true) := by
  unfold mOf
  by_cases h : mIn l x = true
  · rw [if_pos h]
    have h2 : mPl l x < l.length := (of_decide_eq_true h).1
    have := mW_ok o h2
    exact ⟨this.2, fun _ => h, fun _ => by omega⟩
  · rw [if_neg h]
    exact ⟨by omega, fun z => by omega, fun z => absurd z h⟩
theorem mIn_iff {l : List (Nat × Nat)} {x : Nat} : mIn l x = true ↔ mPl l x < l.length ∧ mA l (mPl l x) = x := decide_eq_true_iff
theorem mPl_gt {l : List (Nat × Nat)} {x : Nat} (o : mOk l) (h : ¬ mIn l x = true) : ∀ k, mPl l x ≤ k → k < l.length → x < mA l k := by
  intro k h1 h2
  have g1 := mPl_ge l x (by omega)
  have g2 : mA l (mPl l x) ≠ x := fun z => h (mIn_iff.mpr ⟨by omega, z⟩)
  by_cases e : mPl l x = k
  · rw [e] at g1 g2; omega
  · have := o.2.2 (mPl l x) k (by omega) h2
    omega
theorem mSet_in {l : List (Nat × Nat)} {x w : Nat} (h : mIn l x = true) : (mSet l x w).length = l.length ∧ ∀ k, k < l.length → mA (mSet l x w) k = mA l k ∧ mW (mSet l x w) k = if k = mPl l x then w else mW l k := by
  have h2 := mIn_iff.mp h
  unfold mSet
  rw [if_pos h]
  refine ⟨List.length_set, fun k hk => ?_⟩
  unfold mA mW
  rw [List.getD_eq_getElem?_getD, List.getD_eq_getElem?_getD]
  by_cases e : k = mPl l x
  · subst e
    rw [List.getElem?_set_self hk, if_pos rfl]
    refine ⟨?_, rfl⟩
    have := h2.2
    unfold mA at this
    rw [List.getD_eq_getElem?_getD] at this
    exact this.symm
  · rw [List.getElem?_set_ne (fun q => e q.symm), if_neg e]
    exact ⟨rfl, rfl⟩
theorem mIns_at {l : List (Nat × Nat)} {i : Nat} {e : Nat × Nat} (hi : i ≤ l.length) (k : Nat) : (l.take i ++ e :: l.drop i)[k]? = if k < i then l[k]? else if k = i then some e else l[k - 1]? := by
  by_cases h1 : k < i
  · rw [if_pos h1, List.getElem?_append_left (by rw [List.length_take]; omega), List.getElem?_take_of_lt h1]
  · rw [if_neg h1, List.getElem?_append_right (by rw [List.length_take]; omega), List.length_take, Nat.min_eq_left hi]
    by_cases h2 : k = i
    · subst h2
      rw [if_pos rfl, Nat.sub_self]
      rfl
    · rw [if_neg h2]
      obtain ⟨j, hj⟩ : ∃ j, k - i = j + 1 := ⟨k - i - 1, by omega⟩
      rw [hj, List.getElem?_cons_succ, List.getElem?_drop]
      congr 1
      omega
theorem mSet_new {l : List (Nat × Nat)} {x w : Nat} (h : ¬ mIn l x = true) : (mSet l x w).length = l.length + 1 ∧ ∀ k, mA (mSet l x w) k = (if k < mPl l x then mA l k else if k = mPl l x then x else mA l (k - 1)) ∧ mW (mSet l x w) k = (if k < mPl l x then mW l k else if k = mPl l x then w else mW l (k - 1)) := by
  have hp := mPl_le l x
  unfold mSet
  rw [if_neg h]
  refine ⟨by rw [List.length_append, List.length_cons, List.length_take, List.length_drop]; omega, fun k => ?_⟩
  unfold mA mW
  simp only [List.getD_eq_getElem?_getD, mIns_at hp]
  by_cases h1 : k < mPl l x
  · simp only [if_pos h1]; exact ⟨trivial, trivial⟩
  · by_cases h2 : k = mPl l x
    · simp only [if_neg h1, if_pos h2]; exact ⟨rfl, rfl⟩
    · simp only [if_neg h1, if_neg h2]; exact ⟨trivial, trivial⟩
theorem mDel_at {l : List (Nat × Nat)} {i : Nat} (h : i < l.length) : (l.eraseIdx i).length = l.length - 1 ∧ ∀ k, mA (l.eraseIdx i) k = (if k < i then mA l k else mA l (k + 1)) ∧ mW (l.eraseIdx i) k = (if k < i then mW l k else mW l (k + 1)) := by
  refine ⟨List.length_eraseIdx_of_lt h, fun k => ?_⟩
  unfold mA mW
  simp only [List.getD_eq_getElem?_getD, List.getElem?_eraseIdx]
  by_cases h1 : k < i
  · simp only [if_pos h1]; exact ⟨trivial, trivial⟩
  · simp only [if_neg h1]; exact ⟨trivial, trivial⟩
theorem mSet_ok {l : List (Nat × Nat)} {x w : Nat} (o : mOk l) (hr : l.length < 12 ∨ mIn l x = true) (hx : x < 10000) (h1 : 1 ≤ w) (h2 : w ≤ 99) : mOk (mSet l x w) := by
  have hp := mPl_le l x
  by_cases hi : mIn l x = true
  · obtain ⟨e1, e2⟩ := mSet_in (w := w) hi
    refine ⟨by rw [e1]; exact o.1, fun k hk => ?_, fun i j hij hj => ?_⟩
    · rw [e1] at hk
      rw [(e2 k hk).1, (e2 k hk).2]
      have := o.2.1 k hk
      split <;> omega
    · rw [e1] at hj
      rw [(e2 i (by omega)).1, (e2 j hj).1]
      exact o.2.2 i j hij hj
  · obtain ⟨e1, e2⟩ := mSet_new (w := w) hi
    have hgt := mPl_gt o hi
    have hlt := mPl_lt l x
    have hl : l.length < 12 := hr.resolve_right hi
    refine ⟨by omega, fun k hk => ?_, fun i j hij hj => ?_⟩
    · rw [e1] at hk
      rw [(e2 k).1, (e2 k).2]
      by_cases c1 : k < mPl l x
      · rw [if_pos c1, if_pos c1]
        exact o.2.1 k (by omega)
      · rw [if_neg c1, if_neg c1]
        by_cases c2 : k = mPl l x
        · rw [if_pos c2, if_pos c2]; exact ⟨hx, h1, h2⟩
        · rw [if_neg c2, if_neg c2]
          exact o.2.1 (k - 1) (by omega)
    · rw [e1] at hj
      rw [(e2 i).1, (e2 j).1]
      by_cases c1 : j < mPl l x
      · rw [if_pos c1, if_pos (by omega)]
        exact o.2.2 i j hij (by omega)
      · rw [if_neg c1]
        by_cases c2 : j = mPl l x
        · rw [if_pos c2, if_pos (by omega)]
          exact hlt i (by omega)
        · rw [if_neg c2]
          by_cases c3 : i < mPl l x
          · rw [if_pos c3]
            have := hlt i c3
            have := hgt (j - 1) (by omega) (by omega)
            omega
          · rw [if_neg c3]
            by_cases c4 : i = mPl l x
            · rw [if_pos c4]
              exact hgt (j - 1) (by omega) (by omega)
            · rw [if_neg c4]
              exact o.2.2 (i - 1) (j - 1) (by omega) (by omega)
theorem mDel_ok {l : List (Nat × Nat)} {i : Nat} (o : mOk l) (h : i < l.length) : mOk (l.eraseIdx i) := by
  obtain ⟨e1, e2⟩ := mDel_at h
  have := o.1
  refine ⟨by omega, fun k hk => ?_, fun a b hab hb => ?_⟩
  · rw [e1] at hk
    rw [(e2 k).1, (e2 k).2]
    split
    · exact o.2.1 k (by omega)
    · exact o.2.1 (k + 1) (by omega)
  · rw [e1] at hb
    rw [(e2 a).1, (e2 b).1]
    split
    · split
      · exact o.2.2 a b hab (by omega)
      · exact o.2.2 a (b + 1) (by omega) (by omega)
    · split
      · omega
      · exact o.2.2 (a + 1) (b + 1) (by omega) (by omega)
theorem mPl_self {l : List (Nat × Nat)} {i : Nat} (o : mOk l) (h : i < l.length) : mPl l (mA l i) = i ∧ mIn l (mA l i) = true := by
  have e : mPl l (mA l i) = i := mPl_of (by omega) (fun j hj => o.2.2 j i hj h) (fun _ => by omega)
  exact ⟨e, mIn_iff.mpr ⟨by rw [e]; exact h, by rw [e]⟩⟩
theorem mSum_snoc (l : List (Nat × Nat)) (k : Nat) : mSum (l.take k) + (if k < l.length then mW l k else 0) = mSum (l.take (k + 1)) := by
  unfold mSum mW
  by_cases h : k < l.length
  · rw [if_pos h, List.take_succ_eq_append_getElem h, List.map_append, List.sum_append, List.getD_eq_getElem?_getD, List.getElem?_eq_getElem h]
    simp
  · rw [if_neg h, List.take_of_length_le (by omega), List.take_of_length_le (by omega)]
    rfl
theorem mSum_le (l : List (Nat × Nat)) (o : ∀ k, k < l.length → mW l k ≤ 99) : ∀ k, mSum (l.take k) ≤ 99 * k := by
  intro k
  induction k with
  | zero => simp [mSum]
  | succ k ih =>
    rw [← mSum_snoc]
    split
    next h => have := o k h; omega
    next => omega
theorem mSum_ge (l : List (Nat × Nat)) (o : ∀ k, k < l.length → 1 ≤ mW l k) : ∀ k, k ≤ l.length → k ≤ mSum (l.take k) := by
  intro k
  induction k with
  | zero => intro _; exact Nat.zero_le _
  | succ k ih =>
    intro h
    rw [← mSum_snoc, if_pos (by omega)]
    have := o k (by omega)
    have := ih (by omega)
    omega
theorem mSum_ok {l : List (Nat × Nat)} (o : mOk l) : mSum l ≤ 1188 ∧ (0 < l.length → 0 < mSum l) := by
  have h1 := mSum_le l (fun k hk => (mW_ok o hk).2) l.length
  have h2 := mSum_ge l (fun k hk => (mW_ok o hk).1) l.length (Nat.le_refl _)
  rw [List.take_length] at h1 h2
  have := o.1
  exact ⟨by omega, fun h => by omega⟩
-- shapes
def zMx (m : Nat) : Prop := zO m 4 ∧ zO (m + 1) 100 ∧ zO (m + 2) 100 ∧ zLn (m + 1) = 12 ∧ zLn (m + 2) = 12 ∧ (∀ p, zRV p m 1 = some (m + 1)) ∧ ∀ p, zRV p m 2 = some (m + 2)
def zSd (s : Nat) : Prop := zO s 6 ∧ zO (s + 1) 100 ∧ zLn (s + 1) = 4 ∧ (∀ p, zRV p s 1 = some (s + 1)) ∧ (∀ p, zRV p s 2 = some (s + 2)) ∧ zMx (s + 2)
def zCt (b : Nat) : Prop := zO b 2 ∧ zO (b + 1) 100 ∧ zLn (b + 1) = 4 ∧ (∀ p, zRV p b 2 = some (b + 1)) ∧ (∀ p, zRV p b 3 = some (b + 2)) ∧ (∀ p, zRV p b 4 = some (b + 7)) ∧ zSd (b + 2) ∧ zSd (b + 7)
def zBs : List Nat := [2, 14, 28, 40, 52, 64]
def zCtB (b : Nat) : Bool := (List.range 12).all (fun j => decide (1 ≤ b + j ∧ b + j < 91 ∧ zi_sh.getD (b + j) (0, 0) = ([(2, 0), (100, 4), (6, 0), (100, 4), (4, 0), (100, 12), (100, 12), (6, 0), (100, 4), (4, 0), (100, 12), (100, 12)] : List (Nat × Nat)).getD j (0, 0) ∧ b + j ≠ 27)) && [(0, 2, 1), (0, 3, 2), (0, 4, 7), (2, 1, 3), (2, 2, 4), (4, 1, 5), (4, 2, 6), (7, 1, 8), (7, 2, 9), (9, 1, 10), (9, 2, 11)].all (fun q => decide ((b + q.1, q.2.1, b + q.2.2) ∈ zi_rv))
theorem zCt_of {b : Nat} (h : b ∈ zBs) : zCt b := by
  have h0 : zBs.all zCtB = true := by decide +kernel
  have h1 := List.all_eq_true.mp h0 b h
  unfold zCtB at h1
  simp only [Bool.and_eq_true] at h1
  obtain ⟨h1, h2⟩ := h1
  have f : ∀ j, j < 12 → 1 ≤ b + j ∧ b + j < 91 ∧ zi_sh.getD (b + j) (0, 0) = ([(2, 0), (100, 4), (6, 0), (100, 4), (4, 0), (100, 12), (100, 12), (6, 0), (100, 4), (4, 0), (100, 12), (100, 12)] : List (Nat × Nat)).getD j (0, 0) ∧ b + j ≠ 27 := fun j hj => of_decide_eq_true (List.all_eq_true.mp h1 j (List.mem_range.mpr hj))
  have g : ∀ q ∈ [(0, 2, 1), (0, 3, 2), (0, 4, 7), (2, 1, 3), (2, 2, 4), (4, 1, 5), (4, 2, 6), (7, 1, 8), (7, 2, 9), (9, 1, 10), (9, 2, 11)], (b + q.1, q.2.1, b + q.2.2) ∈ zi_rv := fun q hq => of_decide_eq_true (List.all_eq_true.mp h2 q hq)
  have o : ∀ j, j < 12 → zO (b + j) (([(2, 0), (100, 4), (6, 0), (100, 4), (4, 0), (100, 12), (100, 12), (6, 0), (100, 4), (4, 0), (100, 12), (100, 12)] : List (Nat × Nat)).getD j (0, 0)).1 ∧ zLn (b + j) = (([(2, 0), (100, 4), (6, 0), (100, 4), (4, 0), (100, 12), (100, 12), (6, 0), (100, 4), (4, 0), (100, 12), (100, 12)] : List (Nat × Nat)).getD j (0, 0)).2 := by
    intro j hj
    obtain ⟨e1, e2, e3, -⟩ := f j hj
    have o1 := zO_of e1 e2
    have o2 := zLn_of e2
    rw [e3] at o1 o2
    exact ⟨o1, o2⟩
  have r : ∀ q ∈ [(0, 2, 1), (0, 3, 2), (0, 4, 7), (2, 1, 3), (2, 2, 4), (4, 1, 5), (4, 2, 6), (7, 1, 8), (7, 2, 9), (9, 1, 10), (9, 2, 11)], b + q.1 ≠ 27 → ∀ p, zRV p (b + q.1) q.2.1 = some (b + q.2.2) := fun q hq hn p => zRV_of (g q hq) hn
  refine ⟨(o 0 (by omega)).1, (o 1 (by omega)).1, (o 1 (by omega)).2, r (0, 2, 1) (by decide) (f 0 (by omega)).2.2.2, r (0, 3, 2) (by decide) (f 0 (by omega)).2.2.2, r (0, 4, 7) (by decide) (f 0 (by omega)).2.2.2, ⟨(o 2 (by omega)).1, (o 3 (by omega)).1, (o 3 (by omega)).2, r (2, 1, 3) (by decide) (f 2 (by omega)).2.2.2, r (2, 2, 4) (by decide) (f 2 (by omega)).2.2.2, (o 4 (by omega)).1, (o 5 (by omega)).1, (o 6 (by omega)).1, (o 5 (by omega)).2, (o 6 (by omega)).2, r (4, 1, 5) (by decide) (f 4 (by omega)).2.2.2, r (4, 2, 6) (by decide) (f 4 (by omega)).2.2.2⟩, ⟨(o 7 (by omega)).1, (o 8 (by omega)).1, (o 8 (by omega)).2, r (7, 1, 8) (by decide) (f 7 (by omega)).2.2.2, r (7, 2, 9) (by decide) (f 7 (by omega)).2.2.2, (o 9 (by omega)).1, (o 10 (by omega)).1, (o 11 (by omega)).1, (o 10 (by omega)).2, (o 11 (by omega)).2, r (9, 1, 10) (by decide) (f 9 (by omega)).2.2.2, r (9, 2, 11) (by decide) (f 9 (by omega)).2.2.2⟩⟩
theorem zC_c {iv iv2 : Nat → Nat → Int32} {a b : Nat} (h : ∀ c, c < a ∨ b ≤ c → iv2 c = iv c) {c : Nat} (hc : c < a ∨ b ≤ c) : iv2 c = iv c := h c hc
/-- a mixture's cells hold a list -/
def isMix (iv : Nat → Nat → Int32) (m : Nat) (l : List (Nat × Nat)) : Prop := mOk l ∧ iv m 0 = nI l.length ∧ ∀ k, k < l.length → iv (m + 1) k = nI (mA l k) ∧ iv (m + 2) k = nI (mW l k)
theorem isMix.keep {iv iv2 : Nat → Nat → Int32} {m : Nat} {l : List (Nat × Nat)} (h : isMix iv m l) (e : ∀ c, m ≤ c → c < m + 3 → iv2 c = iv c) : isMix iv2 m l := by
  refine ⟨h.1, ?_, fun k hk => ?_⟩
  · rw [e m (by omega) (by omega)]; exact h.2.1
  · rw [e (m + 1) (by omega) (by omega), e (m + 2) (by omega) (by omega)]; exact h.2.2 k hk
