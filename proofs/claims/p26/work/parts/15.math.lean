/-! ===== plain facts: digits, sums, the allocations in order, best replies, fractions ===== -/
theorem dg_last (k x : Nat) : dg (k + 1) x k = x % 10 := by
  unfold dg
  rw [show k + 1 - 1 - k = 0 by omega, Nat.pow_zero, Nat.div_one]
theorem dg_prev {k x f : Nat} (h : f < k) : dg (k + 1) x f = dg k (x / 10) f := by
  unfold dg
  rw [show k + 1 - 1 - f = (k - 1 - f) + 1 by omega, Nat.pow_succ, Nat.mul_comm, Nat.div_div_eq_div_mul]
theorem dg_lt (n x f : Nat) : dg n x f < 10 := Nat.mod_lt _ (by omega)
def isum : Nat → (Nat → Int) → Int
  | 0, _ => 0
  | k + 1, g => isum k g + g k
theorem isum_congr {n : Nat} {g h : Nat → Int} (e : ∀ k, k < n → g k = h k) : isum n g = isum n h := by
  induction n with
  | zero => rfl
  | succ n ih =>
    unfold isum
    rw [ih (fun k hk => e k (by omega)), e n (by omega)]
theorem isum_add (n : Nat) (g h : Nat → Int) : isum n (fun k => g k + h k) = isum n g + isum n h := by
  induction n with
  | zero => rfl
  | succ n ih => unfold isum; rw [ih]; dsimp only; omega
theorem isum_mul (n : Nat) (c : Int) (g : Nat → Int) : isum n (fun k => c * g k) = c * isum n g := by
  induction n with
  | zero => unfold isum; rw [Int.mul_zero]
  | succ n ih => unfold isum; rw [ih, Int.mul_add]
theorem isum_0 (n : Nat) : isum n (fun _ => 0) = 0 := by
  induction n with
  | zero => rfl
  | succ n ih => unfold isum; rw [ih]; rfl
theorem isum_swap (n m : Nat) (g : Nat → Nat → Int) : isum n (fun i => isum m (fun j => g i j)) = isum m (fun j => isum n (fun i => g i j)) := by
  induction n with
  | zero =>
    have e : isum m (fun j => isum 0 (fun i => g i j)) = isum m (fun _ => 0) := rfl
    rw [e, isum_0]
    rfl
  | succ n ih =>
    have e : isum (n + 1) (fun i => isum m (fun j => g i j)) = isum n (fun i => isum m (fun j => g i j)) + isum m (fun j => g n j) := rfl
    rw [e, ih, ← isum_add]
    rfl
theorem isum_abs {n : Nat} {g : Nat → Int} {B : Nat} (h : ∀ k, k < n → (g k).natAbs ≤ B) : (isum n g).natAbs ≤ n * B := by
  induction n with
  | zero => simp [isum]
  | succ n ih =>
    have h1 := ih (fun k hk => h k (by omega))
    have h2 := h n (by omega)
    unfold isum
    rw [Nat.succ_mul]
    omega
theorem gn_sum (t q : Nat) (V : Nat → Nat) : ∀ k a c, gn t q V k a c = isum k (fun f => (V f : Int) * oc t q (dg k a f) (dg k c f)) := by
  intro k
  induction k with
  | zero => intro a c; rfl
  | succ k ih =>
    intro a c
    unfold gn isum
    rw [ih, Int.add_comm]
    dsimp only
    rw [dg_last, dg_last]
    congr 1
    exact isum_congr (fun f hf => by rw [dg_prev hf, dg_prev hf])
theorem oc_abs (t q a c : Nat) : (oc t q a c).natAbs ≤ 1 := by
  unfold oc
  split
  · split
    · decide
    · split <;> decide
  · split <;> decide
-- the allocations
theorem alw_le {b : Nat → Nat} : ∀ (n x r : Nat), 0 < n → alw n b x r = true → x ≤ r * 10 ^ (n - 1) ∧ r ≤ x ∧ x % 9 = r % 9 := by
  intro n
  induction n with
  | zero => intro x r h; omega
  | succ k ih =>
    intro x r h e
    unfold alw at e
    split at e
    · cases e
    · next hc =>
      by_cases hk : k = 0
      · subst hk
        unfold alw at e
        have := of_decide_eq_true e
        rw [Nat.pow_zero]
        omega
      · obtain ⟨h1, h2, h3⟩ := ih (x / 10) (r - x % 10) (by omega) e
        rw [show k + 1 - 1 = (k - 1) + 1 by omega, Nat.pow_succ]
        have h5 : 0 < 10 ^ (k - 1) := Nat.pos_of_ne_zero (by simp)
        generalize 10 ^ (k - 1) = P at h1 h5
        generalize hd : x % 10 = d at *
        have h6 : d ≤ r := by omega
        obtain ⟨r0, rfl⟩ : ∃ r0, r = r0 + d := ⟨r - d, by omega⟩
        rw [Nat.add_sub_cancel] at h1 h2 h3
        refine ⟨?_, by omega, by omega⟩
        rw [Nat.add_mul]
        have h7 : d ≤ d * (P * 10) := Nat.le_mul_of_pos_right d (by omega)
        have h8 : r0 * (P * 10) = r0 * P * 10 := (Nat.mul_assoc _ _ _).symm
        omega
theorem alw_9 {b : Nat → Nat} : ∀ (n x r : Nat), alw n b x r = true → alw n (fun _ => 9) x r = true := by
  intro n
  induction n with
  | zero => intro x r h; exact h
  | succ k ih =>
    intro x r e
    unfold alw at e ⊢
    split at e
    · cases e
    · next hc =>
      dsimp only
      rw [if_neg (by omega)]
      exact ih _ _ e
def als (n : Nat) (b : Nat → Nat) (r : Nat) : List Nat := (List.range 9000).filter (fun x => alw n b x r)
def alsUp (n : Nat) (b : Nat → Nat) (r m : Nat) : List Nat := (List.range m).filter (fun x => alw n b x r)
theorem filter_le {l : List Nat} {f g : Nat → Bool} (h : ∀ x, f x = true → g x = true) : (l.filter f).length ≤ (l.filter g).length := by
  induction l with
  | nil => exact Nat.le_refl _
  | cons x l ih =>
    rw [List.filter_cons, List.filter_cons]
    by_cases e : f x = true
    · rw [if_pos e, if_pos (h x e)]; simpa using ih
    · rw [if_neg e]
      split
      · rw [List.length_cons]; omega
      · exact ih
theorem alsUp_s (n : Nat) (b : Nat → Nat) (r m : Nat) : alsUp n b r (m + 1) = alsUp n b r m ++ (if alw n b m r = true then [m] else []) := by
  unfold alsUp
  rw [List.range_succ, List.filter_append, List.filter_cons, List.filter_nil]
theorem alsUp_no {n r : Nat} {b : Nat → Nat} (m : Nat) : ∀ d, (∀ x, m ≤ x → x < m + d → ¬ alw n b x r = true) → alsUp n b r (m + d) = alsUp n b r m := by
  intro d
  induction d with
  | zero => intro _; rfl
  | succ d ih =>
    intro h
    rw [show m + (d + 1) = m + d + 1 by omega, alsUp_s, if_neg (h (m + d) (by omega) (by omega)), List.append_nil]
    exact ih (fun x h1 h2 => h x h1 (by omega))
theorem als_lt {n r : Nat} {b : Nat → Nat} {x : Nat} (h1 : 2 ≤ n) (h2 : n ≤ 4) (hr : r ≤ 8) (e : alw n b x r = true) : x < 9000 := by
  have h := (alw_le n x r (by omega) e).1
  rcases (show n = 2 ∨ n = 3 ∨ n = 4 by omega) with rfl | rfl | rfl
  · have : (10 : Nat) ^ (2 - 1) = 10 := rfl
    rw [this] at h; omega
  · have : (10 : Nat) ^ (3 - 1) = 100 := rfl
    rw [this] at h; omega
  · have : (10 : Nat) ^ (4 - 1) = 1000 := rfl
    rw [this] at h; omega
theorem als_mem {n r : Nat} {b : Nat → Nat} {x : Nat} (h1 : 2 ≤ n) (h2 : n ≤ 4) (hr : r ≤ 8) : x ∈ als n b r ↔ alw n b x r = true := by
  unfold als
  rw [List.mem_filter, List.mem_range]
  exact ⟨fun h => h.2, fun h => ⟨als_lt h1 h2 hr h, h⟩⟩
theorem als_at {n r k : Nat} {b : Nat → Nat} (h : k < (als n b r).length) : (als n b r).getD k 0 < 9000 ∧ alw n b ((als n b r).getD k 0) r = true := by
  rw [List.getD_eq_getElem?_getD, List.getElem?_eq_getElem h]
  have := List.getElem_mem h
  unfold als at this
  rw [List.mem_filter, List.mem_range] at this
  exact this
theorem als_end {n r m : Nat} {b : Nat → Nat} (h1 : 2 ≤ n) (h2 : n ≤ 4) (hr : r ≤ 8) (hm : r * 10 ^ (n - 1) < m) : alsUp n b r m = als n b r := by
  have hno : ∀ x, m ≤ x → ¬ alw n b x r = true := fun x hx e => by
    have := (alw_le n x r (by omega) e).1
    omega
  by_cases hle : m ≤ 9000
  · have := alsUp_no (n := n) (b := b) (r := r) m (9000 - m) (fun x h1 h2 => hno x h1)
    rw [show m + (9000 - m) = 9000 by omega] at this
    exact this.symm
  · have := alsUp_no (n := n) (b := b) (r := r) 9000 (m - 9000) (fun x h3 h4 e => by have := als_lt h1 h2 hr e; omega)
    rw [show 9000 + (m - 9000) = m by omega] at this
    exact this
theorem alsUp_9 {n r : Nat} {b : Nat → Nat} (hn : 0 < n) (j : Nat) : alsUp n b r (r + 9 * (j + 1)) = alsUp n b r (r + 9 * j) ++ (if alw n b (r + 9 * j) r = true then [r + 9 * j] else []) := by
  rw [← alsUp_s, show r + 9 * (j + 1) = (r + 9 * j + 1) + 8 by omega]
  refine alsUp_no _ 8 (fun x h1 h2 e => ?_)
  have := (alw_le n x r hn e).2.2
  omega
theorem alsUp_r {n r : Nat} {b : Nat → Nat} (hn : 0 < n) : alsUp n b r r = [] := by
  have := alsUp_no (n := n) (b := b) (r := r) 0 r (fun x h1 h2 e => by
    have := (alw_le n x r hn e).2.1
    omega)
  rw [Nat.zero_add] at this
  rw [this]
  rfl
/-- how many there are, bounds aside -/
def alwB : Nat → Nat → Nat → Bool
  | 0, x, r => Nat.beq r 0 && Nat.beq x 0
  | k + 1, x, r => Nat.ble (x % 10) r && alwB k (x / 10) (r - x % 10)
theorem alwB_eq : ∀ (n x r : Nat), alw n (fun _ => 9) x r = alwB n x r := by
  intro n
  induction n with
  | zero =>
    intro x r
    unfold alw alwB
    by_cases h1 : r = 0
    · by_cases h2 : x = 0
      · subst h1; subst h2; rfl
      · rw [decide_eq_false (fun z => h2 z.2)]
        have : Nat.beq x 0 = false := by cases x <;> first | exact absurd rfl h2 | rfl
        rw [this, Bool.and_false]
    · rw [decide_eq_false (fun z => h1 z.1)]
      have : Nat.beq r 0 = false := by cases r <;> first | exact absurd rfl h1 | rfl
      rw [this, Bool.false_and]
  | succ k ih =>
    intro x r
    unfold alw alwB
    dsimp only
    by_cases h : x % 10 ≤ r
    · rw [if_neg (by omega), Nat.ble_eq_true_of_le h, Bool.true_and, ih]
    · rw [if_pos (by omega)]
      have : Nat.ble (x % 10) r = false := by
        cases e : Nat.ble (x % 10) r with
        | false => rfl
        | true => exact absurd (Nat.le_of_ble_eq_true e) h
      rw [this, Bool.false_and]
def cntJ (n r : Nat) : Nat → Nat
  | 0 => 0
  | j + 1 => cntJ n r j + (bif alwB n (r + 9 * j) r then 1 else 0)
theorem cntJ_ok : (List.range 9).all (fun r => Nat.ble (cntJ 2 r 10) 165 && Nat.ble (cntJ 3 r 100) 165 && Nat.ble (cntJ 4 r 1000) 165) = true := by decide +kernel
theorem cntJ_len {n r : Nat} (hn : 0 < n) : ∀ j, (alsUp n (fun _ => 9) r (r + 9 * j)).length = cntJ n r j := by
  intro j
  induction j with
  | zero => rw [Nat.mul_zero, Nat.add_zero, alsUp_r hn]; rfl
  | succ j ih =>
    show _ = cntJ n r j + (bif alwB n (r + 9 * j) r then 1 else 0)
    rw [alsUp_9 hn, List.length_append, ih, alwB_eq]
    cases alwB n (r + 9 * j) r <;> rfl
theorem als_len {n r : Nat} {b : Nat → Nat} (h1 : 2 ≤ n) (h2 : n ≤ 4) (hr : r ≤ 8) : (als n b r).length ≤ 165 := by
  have h3 : (als n b r).length ≤ (als n (fun _ => 9) r).length := filter_le (fun x hx => alw_9 n x r hx)
  have h4 := List.all_eq_true.mp cntJ_ok r (List.mem_range.mpr (by omega))
  simp only [Bool.and_eq_true] at h4
  rcases (show n = 2 ∨ n = 3 ∨ n = 4 by omega) with rfl | rfl | rfl
  · rw [← als_end (b := fun _ => 9) (m := r + 9 * 10) (by omega) (by omega) hr (by have : (10 : Nat) ^ (2 - 1) = 10 := rfl; omega), cntJ_len (by omega)] at h3
    exact Nat.le_trans h3 (Nat.le_of_ble_eq_true h4.1.1)
  · rw [← als_end (b := fun _ => 9) (m := r + 9 * 100) (by omega) (by omega) hr (by have : (10 : Nat) ^ (3 - 1) = 100 := rfl; omega), cntJ_len (by omega)] at h3
    exact Nat.le_trans h3 (Nat.le_of_ble_eq_true h4.1.2)
  · rw [← als_end (b := fun _ => 9) (m := r + 9 * 1000) (by omega) (by omega) hr (by have : (10 : Nat) ^ (4 - 1) = 1000 := rfl; omega), cntJ_len (by omega)] at h3
    exact Nat.le_trans h3 (Nat.le_of_ble_eq_true h4.2)
-- best replies: allocation, score, how many
def bst1 (g : Nat → Int) (s : Nat × Int × Nat) (x : Nat) : Nat × Int × Nat := if s.2.2 = 0 ∨ s.2.1 < g x then (x, g x, 1) else if g x = s.2.1 then (s.1, s.2.1, s.2.2 + 1) else s
def bst (g : Nat → Int) (l : List Nat) : Nat × Int × Nat := l.foldl (bst1 g) (0, 0, 0)
theorem bst_s (g : Nat → Int) (l : List Nat) (k : Nat) (h : k < l.length) : bst g (l.take (k + 1)) = bst1 g (bst g (l.take k)) (l.getD k 0) := by
  unfold bst
  rw [List.take_succ_eq_append_getElem h, List.foldl_append, List.getD_eq_getElem?_getD, List.getElem?_eq_getElem h]
  rfl
theorem bst_inv (g : Nat → Int) (l : List Nat) : ∀ k, k ≤ l.length → (bst g (l.take k)).2.2 ≤ k ∧ (0 < k → 0 < (bst g (l.take k)).2.2) ∧ (0 < (bst g (l.take k)).2.2 → (bst g (l.take k)).1 ∈ l ∧ (bst g (l.take k)).2.1 = g (bst g (l.take k)).1) := by
  intro k
  induction k with
  | zero => intro _; exact ⟨by simp [bst], fun h => by omega, fun h => by simp [bst] at h⟩
  | succ k ih =>
    intro h
    obtain ⟨h1, h2, h3⟩ := ih (by omega)
    have hm : l.getD k 0 ∈ l := by
      rw [List.getD_eq_getElem?_getD, List.getElem?_eq_getElem (show k < l.length by omega)]
      exact List.getElem_mem _
    rw [bst_s g l k (by omega)]
    unfold bst1
    split
    · exact ⟨by dsimp only; omega, fun _ => by dsimp only; omega, fun _ => ⟨hm, rfl⟩⟩
    · next hc =>
      split
      · exact ⟨by dsimp only; omega, fun _ => by dsimp only; omega, fun _ => h3 (by omega)⟩
      · exact ⟨by omega, fun _ => by omega, fun _ => h3 (by omega)⟩
theorem bst_all (g : Nat → Int) (l : List Nat) : (bst g l).2.2 ≤ l.length ∧ (0 < l.length → 0 < (bst g l).2.2) ∧ (0 < (bst g l).2.2 → (bst g l).1 ∈ l ∧ (bst g l).2.1 = g (bst g l).1) := by
  have := bst_inv g l l.length (Nat.le_refl _)
  rw [List.take_length] at this
  exact this
theorem iI_toInt {z : Int} (h : z.natAbs < 2 ^ 31) : (iI z).toInt = z := Int32.toInt_ofInt_of_le (by omega) (by omega)
theorem iI_lt {a b : Int} (ha : a.natAbs < 2 ^ 31) (hb : b.natAbs < 2 ^ 31) : iI a < iI b ↔ a < b := by
  rw [Int32.lt_iff_toInt_lt, iI_toInt ha, iI_toInt hb]
theorem iI_le {a b : Int} (ha : a.natAbs < 2 ^ 31) (hb : b.natAbs < 2 ^ 31) : iI a ≤ iI b ↔ a ≤ b := by
  rw [Int32.le_iff_toInt_le, iI_toInt ha, iI_toInt hb]
theorem iI_eq {a b : Int} (ha : a.natAbs < 2 ^ 31) (hb : b.natAbs < 2 ^ 31) : iI a = iI b ↔ a = b := by
  rw [← Int32.toInt_inj, iI_toInt ha, iI_toInt hb]
-- what is gained against a mixture (not divided yet): by fields, and over the mixture
def bal (t q n : Nat) (l : List (Nat × Nat)) (f a : Nat) : Int := isum l.length (fun k => (mW l k : Int) * oc t q a (dg n (mA l k) f))
def sco (c : CS) (q : Nat) (l : List (Nat × Nat)) (x : Nat) : Int := isum (cN c) (fun f => (cV c f : Int) * bal (cT c) q (cN c) l f (dg (cN c) x f))
def scoM (c : CS) (q : Nat) (own l : List (Nat × Nat)) : Int := isum own.length (fun k => (mW own k : Int) * sco c q l (mA own k))
theorem sco_eq (c : CS) (q : Nat) (l : List (Nat × Nat)) (x : Nat) : sco c q l x = isum l.length (fun k => (mW l k : Int) * gn (cT c) q (cV c) (cN c) x (mA l k)) := by
  have e1 : sco c q l x = isum (cN c) (fun f => isum l.length (fun k => (cV c f : Int) * ((mW l k : Int) * oc (cT c) q (dg (cN c) x f) (dg (cN c) (mA l k) f)))) := by
    unfold sco bal
    exact isum_congr (fun f _ => (isum_mul _ _ _).symm)
  rw [e1, isum_swap]
  refine isum_congr (fun k _ => ?_)
  rw [gn_sum, ← isum_mul]
  refine isum_congr (fun f _ => ?_)
  rw [← Int.mul_assoc, ← Int.mul_assoc, Int.mul_comm (cV c f : Int)]
theorem mulAbs {a b : Int} {A B : Nat} (h1 : a.natAbs ≤ A) (h2 : b.natAbs ≤ B) : (a * b).natAbs ≤ A * B := by
  rw [Int.natAbs_mul]
  exact Nat.mul_le_mul h1 h2
theorem bal_abs (t q n : Nat) {l : List (Nat × Nat)} (o : mOk l) (f a : Nat) : (bal t q n l f a).natAbs ≤ 1188 := by
  have h : (bal t q n l f a).natAbs ≤ l.length * 99 := isum_abs (fun k hk => by
    have h1 := (mW_ok o hk).2
    have h2 := oc_abs t q a (dg n (mA l k) f)
    have := mulAbs (a := (mW l k : Int)) (A := 99) (by omega) h2
    omega)
  have := o.1
  omega
theorem sco_abs {c : CS} (ho : cOk c) (q : Nat) {l : List (Nat × Nat)} (o : mOk l) (x : Nat) : (sco c q l x).natAbs ≤ 42768 := by
  have h : (sco c q l x).natAbs ≤ cN c * 10692 := isum_abs (fun f hf => by
    have h0 := ho.2.1
    have h1 := (ho.2.2.2.1 f (by omega)).2
    have h2 := bal_abs (cT c) q (cN c) o f (dg (cN c) x f)
    have := mulAbs (a := (cV c f : Int)) (A := 9) (by omega) h2
    omega)
  have := ho.2.1
  omega
theorem scoM_abs {c : CS} (ho : cOk c) (q : Nat) {own l : List (Nat × Nat)} (o : mOk l) (o2 : mOk own) : (scoM c q own l).natAbs ≤ 50808384 := by
  have h : (scoM c q own l).natAbs ≤ own.length * 4234032 := isum_abs (fun k hk => by
    have h1 := (mW_ok o2 hk).2
    have h2 := sco_abs ho q o (mA own k)
    have := mulAbs (a := (mW own k : Int)) (A := 99) (by omega) h2
    omega)
  have := o2.1
  omega
-- fractions
def prt (w : Int32) (u : Int) (l : Nat) : Int32 := if w = 0 then 100000000 + iI u / nI (Nat.gcd u.natAbs l) else nI (l / Nat.gcd u.natAbs l)
