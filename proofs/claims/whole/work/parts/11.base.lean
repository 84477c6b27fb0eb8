/-! ===== plain facts: numbers below 2^31 as ints, mixtures as lists, shapes of the class's objects ===== -/
theorem nI_lit {n : Nat} : Int32.ofNat n = nI n := rfl
theorem zE_use {sc : Nat × (Nat → Int32)} {k pc : Nat} {ls st : List Value} {h h2 : zA} {Q : Option Value → zA → Prop} {r : Option Value} (e : ∀ Q : Option Value → zA → Prop, Q r h2 → zEv sc k pc ls st h Q) : zEv sc k pc ls st h Q ↔ Q r h2 := by
  constructor
  · rintro ⟨n, r1, h1, h3⟩
    obtain ⟨m, r4, h4, h5⟩ := e (fun a b => a = r ∧ b = h2) ⟨rfl, rfl⟩
    have g1 := z_mono sc _ _ _ _ _ _ _ h1 _ (Nat.le_max_left n m)
    have g2 := z_mono sc _ _ _ _ _ _ _ h4 _ (Nat.le_max_right n m)
    have g3 : r1 = r4 := Option.some.inj (g1.symm.trans g2)
    subst g3
    rw [← h5.1, ← h5.2]
    exact h3
  · exact e Q
/-- a loop over a counter: the state at the end, with what it says -/
theorem z_loop {σ : Type} (Z : Nat → σ → (Option Value → zA → Prop) → Prop) (I : Nat → σ → Prop) (e : Nat) (step : ∀ i s, i < e → I i s → ∃ s', I (i + 1) s' ∧ ∀ Q, Z (i + 1) s' Q → Z i s Q) : ∀ d i s, e - i = d → i ≤ e → I i s → ∃ s', I e s' ∧ ∀ Q, Z e s' Q → Z i s Q := by
  intro d
  induction d with
  | zero =>
    intro i s hd hi hI
    have : i = e := by omega
    subst this
    exact ⟨s, hI, fun Q h => h⟩
  | succ d ih =>
    intro i s hd hi hI
    obtain ⟨s1, h1, h2⟩ := step i s (by omega) hI
    obtain ⟨s2, h3, h4⟩ := ih (i + 1) s1 (by omega) (by omega) h1
    exact ⟨s2, h3, fun Q h => h2 Q (h4 Q h)⟩
/-- the same, downwards to 0 -/
theorem z_loopD {σ : Type} (Z : Nat → σ → (Option Value → zA → Prop) → Prop) (I : Nat → σ → Prop) (step : ∀ i s, I (i + 1) s → ∃ s', I i s' ∧ ∀ Q, Z i s' Q → Z (i + 1) s Q) : ∀ i s, I i s → ∃ s', I 0 s' ∧ ∀ Q, Z 0 s' Q → Z i s Q := by
  intro i
  induction i with
  | zero => intro s h; exact ⟨s, h, fun Q h => h⟩
  | succ i ih =>
    intro s h
    obtain ⟨s1, h1, h2⟩ := step i s h
    obtain ⟨s2, h3, h4⟩ := ih s1 h1
    exact ⟨s2, h3, fun Q h => h2 Q (h4 Q h)⟩
-- mixtures
def mA (l : List (Nat × Nat)) (k : Nat) : Nat := (l.getD k (0, 0)).1
def mW (l : List (Nat × Nat)) (k : Nat) : Nat := (l.getD k (0, 0)).2
def mPl (l : List (Nat × Nat)) (x : Nat) : Nat := match l with
  | [] => 0
  | e :: l => if e.1 < x then mPl l x + 1 else 0
theorem mPl_le (l : List (Nat × Nat)) (x : Nat) : mPl l x ≤ l.length := by
  induction l with
  | nil => exact Nat.le_refl _
  | cons e l ih =>
    unfold mPl
    rw [List.length_cons]
    split <;> omega
theorem mPl_lt (l : List (Nat × Nat)) (x : Nat) : ∀ k, k < mPl l x → mA l k < x := by
  induction l with
  | nil => intro k h; unfold mPl at h; omega
  | cons e l ih =>
    intro k h
    unfold mPl at h
    split at h
    next c =>
      cases k with
      | zero => exact c
      | succ k => exact ih k (by omega)
    next => omega
theorem mPl_ge (l : List (Nat × Nat)) (x : Nat) : mPl l x < l.length → ¬ mA l (mPl l x) < x := by
  induction l with
  | nil => intro h; exact absurd h (Nat.not_lt_zero _)
  | cons e l ih =>
    unfold mPl
    intro h
    split at h
    next c =>
      rw [if_pos c]
      rw [List.length_cons] at h
      exact ih (by omega)
    next c =>
      rw [if_neg c]
      exact c
theorem mPl_of {l : List (Nat × Nat)} {x k : Nat} (h1 : k ≤ l.length) (h2 : ∀ j, j < k → mA l j < x) (h3 : k < l.length → ¬ mA l k < x) : mPl l x = k := by
  rcases Nat.lt_trichotomy (mPl l x) k with h | h | h
  · exact absurd (h2 _ h) (mPl_ge l x (by omega))
  · exact h
  · exact absurd (mPl_lt l x k h) (h3 (Nat.lt_of_lt_of_le h (mPl_le l x)))
def mIn (l : List (Nat × Nat)) (x : Nat) : Bool := decide (mPl l x < l.length ∧ mA l (mPl l x) = x)
def mOf (l : List (Nat × Nat)) (x : Nat) : Nat := if mIn l x then mW l (mPl l x) else 0
def mSet (l : List (Nat × Nat)) (x w : Nat) : List (Nat × Nat) := if mIn l x then l.set (mPl l x) (x, w) else l.insertIdx (mPl l x) (x, w)
def mDel (l : List (Nat × Nat)) (x : Nat) : List (Nat × Nat) := if mIn l x then l.eraseIdx (mPl l x) else l
def mSum (l : List (Nat × Nat)) : Nat := (l.map (fun e => e.2)).sum
/-- what stands in a mixture: in order, weights of 1 to 99, at most 12 -/
def mOk (l : List (Nat × Nat)) : Prop := l.length ≤ 12 ∧ (∀ e ∈ l, e.1 < 10000 ∧ 1 ≤ e.2 ∧ e.2 ≤ 99) ∧ l.Pairwise (fun a b => a.1 < b.1)
theorem mA_mem {l : List (Nat × Nat)} {k : Nat} (h : k < l.length) : (mA l k, mW l k) ∈ l := by
  unfold mA mW
  rw [List.getD_eq_getElem?_getD, List.getElem?_eq_getElem h]
  exact List.getElem_mem h
theorem mA_lt {l : List (Nat × Nat)} {k : Nat} (o : mOk l) (h : k < l.length) : mA l k < 10000 := (o.2.1 _ (mA_mem h)).1
theorem mW_ok {l : List (Nat × Nat)} {k : Nat} (o : mOk l) (h : k < l.length) : 1 ≤ mW l k ∧ mW l k ≤ 99 := (o.2.1 _ (mA_mem h)).2
theorem mOf_ok {l : List (Nat × Nat)} {x : Nat} (o : mOk l) : mOf l x ≤ 99 ∧ (0 < mOf l x ↔ mIn l x = true) := by
  unfold mOf
  by_cases h : mIn l x = true
  · rw [if_pos h]
    have h2 : mPl l x < l.length := (of_decide_eq_true h).1
    have := mW_ok o h2
    exact ⟨this.2, fun _ => h, fun _ => by omega⟩
  · rw [if_neg h]
    exact ⟨by omega, fun z => by omega, fun z => absurd z h⟩
-- shapes
def zMx (m : Nat) : Prop := zO m 4 ∧ zO (m + 1) 100 ∧ zO (m + 2) 100 ∧ zLn (m + 1) = 12 ∧ zLn (m + 2) = 12 ∧ (∀ p, zRV p m 1 = some (m + 1)) ∧ ∀ p, zRV p m 2 = some (m + 2)
def zSd (s : Nat) : Prop := zO s 6 ∧ zO (s + 1) 100 ∧ zLn (s + 1) = 4 ∧ (∀ p, zRV p s 1 = some (s + 1)) ∧ (∀ p, zRV p s 2 = some (s + 2)) ∧ zMx (s + 2)
def zCt (b : Nat) : Prop := zO b 2 ∧ zO (b + 1) 100 ∧ zLn (b + 1) = 4 ∧ (∀ p, zRV p b 2 = some (b + 1)) ∧ (∀ p, zRV p b 3 = some (b + 2)) ∧ (∀ p, zRV p b 4 = some (b + 7)) ∧ zSd (b + 2) ∧ zSd (b + 7)
def zBs : List Nat := [2, 14, 28, 40, 52, 64]
def zCtB (b : Nat) : Bool := (List.range 12).all (fun j => decide (1 ≤ b + j ∧ b + j < 98 ∧ zi_sh.getD (b + j) (0, 0) = ([(2, 0), (100, 4), (6, 0), (100, 4), (4, 0), (100, 12), (100, 12), (6, 0), (100, 4), (4, 0), (100, 12), (100, 12)] : List (Nat × Nat)).getD j (0, 0) ∧ b + j ≠ 27)) && [(0, 2, 1), (0, 3, 2), (0, 4, 7), (2, 1, 3), (2, 2, 4), (4, 1, 5), (4, 2, 6), (7, 1, 8), (7, 2, 9), (9, 1, 10), (9, 2, 11)].all (fun q => decide ((b + q.1, q.2.1, b + q.2.2) ∈ zi_rv))
theorem zCt_of {b : Nat} (h : b ∈ zBs) : zCt b := by
  have h0 : zBs.all zCtB = true := by decide +kernel
  have h1 := List.all_eq_true.mp h0 b h
  unfold zCtB at h1
  simp only [Bool.and_eq_true] at h1
  obtain ⟨h1, h2⟩ := h1
  have f : ∀ j, j < 12 → 1 ≤ b + j ∧ b + j < 98 ∧ zi_sh.getD (b + j) (0, 0) = ([(2, 0), (100, 4), (6, 0), (100, 4), (4, 0), (100, 12), (100, 12), (6, 0), (100, 4), (4, 0), (100, 12), (100, 12)] : List (Nat × Nat)).getD j (0, 0) ∧ b + j ≠ 27 := fun j hj => of_decide_eq_true (List.all_eq_true.mp h1 j (List.mem_range.mpr hj))
  have g : ∀ q ∈ [(0, 2, 1), (0, 3, 2), (0, 4, 7), (2, 1, 3), (2, 2, 4), (4, 1, 5), (4, 2, 6), (7, 1, 8), (7, 2, 9), (9, 1, 10), (9, 2, 11)], (b + q.1, q.2.1, b + q.2.2) ∈ zi_rv := fun q hq => of_decide_eq_true (List.all_eq_true.mp h2 q hq)
  have o : ∀ j, j < 12 → zO (b + j) (([(2, 0), (100, 4), (6, 0), (100, 4), (4, 0), (100, 12), (100, 12), (6, 0), (100, 4), (4, 0), (100, 12), (100, 12)] : List (Nat × Nat)).getD j (0, 0)).1 ∧ zLn (b + j) = (([(2, 0), (100, 4), (6, 0), (100, 4), (4, 0), (100, 12), (100, 12), (6, 0), (100, 4), (4, 0), (100, 12), (100, 12)] : List (Nat × Nat)).getD j (0, 0)).2 := by
    intro j hj
    obtain ⟨e1, e2, e3, -⟩ := f j hj
    have o1 := zO_of e1 e2
    have o2 := zLn_of e2
    rw [e3] at o1 o2
    exact ⟨o1, o2⟩
  have r : ∀ q ∈ [(0, 2, 1), (0, 3, 2), (0, 4, 7), (2, 1, 3), (2, 2, 4), (4, 1, 5), (4, 2, 6), (7, 1, 8), (7, 2, 9), (9, 1, 10), (9, 2, 11)], b + q.1 ≠ 27 → ∀ p, zRV p (b + q.1) q.2.1 = some (b + q.2.2) := fun q hq hn p => zRV_of (g q hq) hn
  refine ⟨(o 0 (by omega)).1, (o 1 (by omega)).1, (o 1 (by omega)).2, r (0, 2, 1) (by decide) (f 0 (by omega)).2.2.2, r (0, 3, 2) (by decide) (f 0 (by omega)).2.2.2, r (0, 4, 7) (by decide) (f 0 (by omega)).2.2.2, ⟨(o 2 (by omega)).1, (o 3 (by omega)).1, (o 3 (by omega)).2, r (2, 1, 3) (by decide) (f 2 (by omega)).2.2.2, r (2, 2, 4) (by decide) (f 2 (by omega)).2.2.2, (o 4 (by omega)).1, (o 5 (by omega)).1, (o 6 (by omega)).1, (o 5 (by omega)).2, (o 6 (by omega)).2, r (4, 1, 5) (by decide) (f 4 (by omega)).2.2.2, r (4, 2, 6) (by decide) (f 4 (by omega)).2.2.2⟩, ⟨(o 7 (by omega)).1, (o 8 (by omega)).1, (o 8 (by omega)).2, r (7, 1, 8) (by decide) (f 7 (by omega)).2.2.2, r (7, 2, 9) (by decide) (f 7 (by omega)).2.2.2, (o 9 (by omega)).1, (o 10 (by omega)).1, (o 11 (by omega)).1, (o 10 (by omega)).2, (o 11 (by omega)).2, r (9, 1, 10) (by decide) (f 9 (by omega)).2.2.2, r (9, 2, 11) (by decide) (f 9 (by omega)).2.2.2⟩⟩
theorem zC_c {iv iv2 : Nat → Nat → Int32} {a b : Nat} (h : ∀ c, c < a ∨ b ≤ c → iv2 c = iv c) {c : Nat} (hc : c < a ∨ b ≤ c) : iv2 c = iv c := h c hc
/-- a mixture's cells hold a list -/
def isMix (iv : Nat → Nat → Int32) (m : Nat) (l : List (Nat × Nat)) : Prop := mOk l ∧ iv m 0 = nI l.length ∧ ∀ k, k < l.length → iv (m + 1) k = nI (mA l k) ∧ iv (m + 2) k = nI (mW l k)
theorem isMix.keep {iv iv2 : Nat → Nat → Int32} {m : Nat} {l : List (Nat × Nat)} (h : isMix iv m l) (e : ∀ c, m ≤ c → c < m + 3 → iv2 c = iv c) : isMix iv2 m l := by
  refine ⟨h.1, ?_, fun k hk => ?_⟩
  · rw [e m (by omega) (by omega)]; exact h.2.1
  · rw [e (m + 1) (by omega) (by omega), e (m + 2) (by omega) (by omega)]; exact h.2.2 k hk
