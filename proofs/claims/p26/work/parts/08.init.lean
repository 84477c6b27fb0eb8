/-! ===== the two constructors, run by the kernel; the shape of the heap behind them ===== -/
theorem z_heap_sc {sc sc2 : Nat × (Nat → Int32)} {k : Nat} {ins : Instr} {st : List Value} {h : zA} (hk : k ≠ zLaw) : z_heap sc k ins st h = z_heap sc2 k ins st h := by
  have e1 : ∀ kd, z_ald sc k kd st h = z_ald sc2 k kd st h := by
    intro kd
    unfold z_ald
    congr 1
    funext i r
    congr 1
    funext a r
    rw [if_neg (show ¬ ((a = 0 ∧ k = zLaw ∧ kd = 100) ∧ ¬ (i < 0 ∨ sc.1 ≤ i.toNatClampNeg)) from fun z => hk z.1.2.1), if_neg (show ¬ ((a = 0 ∧ k = zLaw ∧ kd = 100) ∧ ¬ (i < 0 ∨ sc2.1 ≤ i.toNatClampNeg)) from fun z => hk z.1.2.1)]
  have e2 : z_len0 sc k st h = z_len0 sc2 k st h := by
    unfold z_len0
    congr 1
    funext a r
    rw [if_neg (fun z => hk z.2), if_neg (fun z => hk z.2)]
  have e3 : ∀ i, z_lot sc k i st h = z_lot sc2 k i st h := by
    intro i
    unfold z_lot
    split
    · congr 1
      funext x r
      congr 1
      funext a r
      rw [if_neg (fun z => hk z.1.2.1), if_neg (fun z => hk z.1.2.1)]
    · rfl
  cases ins with
  | iaload => exact e1 100
  | invokestatic i => exact e3 i
  | caload => exact e1 101
  | arraylength => exact e2
  | _ => rfl
theorem z_step_sc {sc sc2 : Nat × (Nat → Int32)} {k pc : Nat} {ls st : List Value} {h : zA} (hk : k ≠ zLaw) : z_step sc k pc ls st h = z_step sc2 k pc ls st h := by
  unfold z_step
  split
  next q e =>
    unfold z_stepI
    rw [z_heap_sc (sc := sc) (sc2 := sc2) hk]
  next => rfl
theorem z_inv_lt {k pc : Nat} {st : List Value} {h : zA} {q : Nat × List Value × List Value} (hh : z_inv k pc st h = some q) : q.1 < zLaw := by
  have key : ∀ i kd, z_callY k i kd st h = some q → q.1 < zLaw := by
    intro i kd h2
    unfold z_callY at h2
    split at h2
    next q0 e1 =>
      split at h2
      next hc => cases h2; exact hc.2.2.2.1
      next => cases h2
    next => cases h2
  unfold z_inv at hh
  split at hh
  · split at hh
    · split at hh
      · exact key _ _ hh
      · exact key _ _ hh
      · exact key _ _ hh
      · cases hh
    · cases hh
  · cases hh
theorem z_run_sc (sc sc2 : Nat × (Nat → Int32)) : ∀ (n k pc : Nat) (ls st : List Value) (h : zA), k ≠ zLaw → z_run sc n k pc ls st h = z_run sc2 n k pc ls st h := by
  intro n
  induction n with
  | zero => intro k pc ls st h hk; rfl
  | succ n ih =>
    intro k pc ls st h hk
    unfold z_run
    rw [z_step_sc (sc := sc) (sc2 := sc2) hk]
    split
    · rfl
    · split
      · exact ih _ _ _ _ _ hk
      · split
        next q e =>
          rw [ih q.1 _ _ _ _ (Nat.ne_of_lt (z_inv_lt e))]
          split
          · exact ih _ _ _ _ _ hk
          · rfl
        next => rfl
def zi_0 : zA := z_mk z_h0 9 0 10
def zi_a : Option (Option Value × zA) := z_run (0, fun _ => 0) 600 56 0 [.ref 1] [] zi_0
def zi_1 : zA := match zi_a with
  | some r => r.2
  | none => zi_0
def zi_3 : zA := zi_1
def zi_isN (r : Option (Option Value × zA)) : Bool := match r with
  | some (none, _) => true
  | _ => false
def zi_sh : List (Nat × Nat) := [(110, 0), (9, 0), (2, 0), (100, 4), (6, 0), (100, 4), (4, 0), (100, 12), (100, 12), (6, 0), (100, 4), (4, 0), (100, 12), (100, 12), (2, 0), (100, 4), (6, 0), (100, 4), (4, 0), (100, 12), (100, 12), (6, 0), (100, 4), (4, 0), (100, 12), (100, 12), (3, 0), (102, 4), (2, 0), (100, 4), (6, 0), (100, 4), (4, 0), (100, 12), (100, 12), (6, 0), (100, 4), (4, 0), (100, 12), (100, 12), (2, 0), (100, 4), (6, 0), (100, 4), (4, 0), (100, 12), (100, 12), (6, 0), (100, 4), (4, 0), (100, 12), (100, 12), (2, 0), (100, 4), (6, 0), (100, 4), (4, 0), (100, 12), (100, 12), (6, 0), (100, 4), (4, 0), (100, 12), (100, 12), (2, 0), (100, 4), (6, 0), (100, 4), (4, 0), (100, 12), (100, 12), (6, 0), (100, 4), (4, 0), (100, 12), (100, 12), (0, 0), (100, 165), (0, 0), (100, 165), (5, 0), (103, 4), (100, 10), (100, 10), (100, 10), (100, 10), (1, 0), (1, 0), (7, 0), (101, 80), (8, 0)]
-- the references: cell, place, cell
def zi_rv : List (Nat × Nat × Nat) := [(1, 0, 2), (1, 1, 14), (1, 2, 26), (1, 3, 76), (1, 4, 78), (1, 5, 80), (1, 6, 86), (1, 7, 87), (1, 8, 88), (1, 9, 90), (2, 2, 3), (2, 3, 4), (2, 4, 9), (4, 1, 5), (4, 2, 6), (6, 1, 7), (6, 2, 8), (9, 1, 10), (9, 2, 11), (11, 1, 12), (11, 2, 13), (14, 2, 15), (14, 3, 16), (14, 4, 21), (16, 1, 17), (16, 2, 18), (18, 1, 19), (18, 2, 20), (21, 1, 22), (21, 2, 23), (23, 1, 24), (23, 2, 25), (26, 1, 27), (27, 0, 28), (27, 1, 40), (27, 2, 52), (27, 3, 64), (28, 2, 29), (28, 3, 30), (28, 4, 35), (30, 1, 31), (30, 2, 32), (32, 1, 33), (32, 2, 34), (35, 1, 36), (35, 2, 37), (37, 1, 38), (37, 2, 39), (40, 2, 41), (40, 3, 42), (40, 4, 47), (42, 1, 43), (42, 2, 44), (44, 1, 45), (44, 2, 46), (47, 1, 48), (47, 2, 49), (49, 1, 50), (49, 2, 51), (52, 2, 53), (52, 3, 54), (52, 4, 59), (54, 1, 55), (54, 2, 56), (56, 1, 57), (56, 2, 58), (59, 1, 60), (59, 2, 61), (61, 1, 62), (61, 2, 63), (64, 2, 65), (64, 3, 66), (64, 4, 71), (66, 1, 67), (66, 2, 68), (68, 1, 69), (68, 2, 70), (71, 1, 72), (71, 2, 73), (73, 1, 74), (73, 2, 75), (76, 1, 77), (78, 1, 79), (80, 2, 81), (81, 0, 82), (81, 1, 83), (81, 2, 84), (81, 3, 85), (88, 1, 89)]
def zi_iv : List (Nat × Nat × Int32) := [(2, 0, 3), (3, 0, 1), (3, 1, 1), (3, 2, 1), (3, 3, 1), (4, 0, 4), (5, 0, 8), (5, 1, 8), (5, 2, 8), (5, 3, 8), (9, 0, 4), (10, 0, 8), (10, 1, 8), (10, 2, 8), (10, 3, 8), (14, 0, 3), (15, 0, 1), (15, 1, 1), (15, 2, 1), (15, 3, 1), (16, 0, 4), (17, 0, 8), (17, 1, 8), (17, 2, 8), (17, 3, 8), (21, 0, 4), (22, 0, 8), (22, 1, 8), (22, 2, 8), (22, 3, 8), (28, 0, 3), (29, 0, 1), (29, 1, 1), (29, 2, 1), (29, 3, 1), (30, 0, 4), (31, 0, 8), (31, 1, 8), (31, 2, 8), (31, 3, 8), (35, 0, 4), (36, 0, 8), (36, 1, 8), (36, 2, 8), (36, 3, 8), (40, 0, 3), (41, 0, 1), (41, 1, 1), (41, 2, 1), (41, 3, 1), (42, 0, 4), (43, 0, 8), (43, 1, 8), (43, 2, 8), (43, 3, 8), (47, 0, 4), (48, 0, 8), (48, 1, 8), (48, 2, 8), (48, 3, 8), (52, 0, 3), (53, 0, 1), (53, 1, 1), (53, 2, 1), (53, 3, 1), (54, 0, 4), (55, 0, 8), (55, 1, 8), (55, 2, 8), (55, 3, 8), (59, 0, 4), (60, 0, 8), (60, 1, 8), (60, 2, 8), (60, 3, 8), (64, 0, 3), (65, 0, 1), (65, 1, 1), (65, 2, 1), (65, 3, 1), (66, 0, 4), (67, 0, 8), (67, 1, 8), (67, 2, 8), (67, 3, 8), (71, 0, 4), (72, 0, 8), (72, 1, 8), (72, 2, 8), (72, 3, 8), (80, 0, 3)]
def zi_at (a b : Nat) : Int32 := match zi_iv.find? (fun q => q.1 == a && q.2.1 == b) with
  | some q => q.2.2
  | none => 0
def zi_chk : Bool := zi_isN zi_a && decide (zi_3.1 = 90) && decide (zi_3.2.1 ≤ 7000000) && (List.range 91).all (fun i => decide (zi_3.2.2.1 i = zi_sh.getD i (0, 0))) && zi_rv.all (fun q => decide (zi_3.2.2.2.2 q.1 q.2.1 = some q.2.2)) && (List.range 91).all (fun a => (List.range 12).all (fun b => decide (zi_3.2.2.2.1 a b = zi_at a b)))
theorem zi_ok : zi_chk = true := by decide +kernel
