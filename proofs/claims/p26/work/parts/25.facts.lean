/-! ===== what the law asks of the answers: plain facts ===== -/
def loN (x : Int32) (n : Nat) : Nat := x.toBitVec.toNat % 2 ^ 31 % n
theorem lo_n {x : Int32} {n : Nat} (h0 : 0 < n) (h : n < 2 ^ 31) : loI x (nI n) = nI (loN x n) := by
  unfold loI loN
  rw [pk_and x 31 (by decide), pk_rem (Nat.mod_lt _ (Nat.two_pow_pos 31)) h0 h]
theorem lo_lt {x : Int32} {n : Nat} (h0 : 0 < n) : loN x n < n := Nat.mod_lt _ h0
theorem lo_2 {x : Int32} : loI x 2 = nI (loN x 2) := lo_n (n := 2) (by omega) (by omega)
theorem lo_3 {x : Int32} : loI x 3 = nI (loN x 3) := lo_n (n := 3) (by omega) (by omega)
theorem lo_4 {x : Int32} : loI x 4 = nI (loN x 4) := lo_n (n := 4) (by omega) (by omega)
theorem lo_5 {x : Int32} : loI x 5 = nI (loN x 5) := lo_n (n := 5) (by omega) (by omega)
theorem lo_7 {x : Int32} : loI x 7 = nI (loN x 7) := lo_n (n := 7) (by omega) (by omega)
theorem lo_8 {x : Int32} : loI x 8 = nI (loN x 8) := lo_n (n := 8) (by omega) (by omega)
theorem lo_10 {x : Int32} : loI x 10 = nI (loN x 10) := lo_n (n := 10) (by omega) (by omega)
theorem lo_11 {x : Int32} : loI x 11 = nI (loN x 11) := lo_n (n := 11) (by omega) (by omega)
theorem lo_15 {x : Int32} : loI x 15 = nI (loN x 15) := lo_n (n := 15) (by omega) (by omega)
theorem lo_16 {x : Int32} : loI x 16 = nI (loN x 16) := lo_n (n := 16) (by omega) (by omega)
theorem lo_22 {x : Int32} : loI x 22 = nI (loN x 22) := lo_n (n := 22) (by omega) (by omega)
theorem lo_101 {x : Int32} : loI x 101 = nI (loN x 101) := lo_n (n := 101) (by omega) (by omega)
theorem nz_2 : ¬ (2 : Int32) = 0 := by decide
theorem nz_3 : ¬ (3 : Int32) = 0 := by decide
theorem nz_4 : ¬ (4 : Int32) = 0 := by decide
theorem nz_5 : ¬ (5 : Int32) = 0 := by decide
theorem nz_7 : ¬ (7 : Int32) = 0 := by decide
theorem nz_8 : ¬ (8 : Int32) = 0 := by decide
theorem nz_10 : ¬ (10 : Int32) = 0 := by decide
theorem nz_11 : ¬ (11 : Int32) = 0 := by decide
theorem nz_15 : ¬ (15 : Int32) = 0 := by decide
theorem nz_16 : ¬ (16 : Int32) = 0 := by decide
theorem nz_22 : ¬ (22 : Int32) = 0 := by decide
theorem nz_101 : ¬ (101 : Int32) = 0 := by decide
theorem loI_2 {z : Int32} : ¬ (2 : Int32) = 0 := nz_2
section ZF
variable {cs : CS} {a b j q f k : Nat} {hs : List CS} {t : List Nat}
theorem q01 (hq : q < 2) : q = 0 ∨ q = 1 := by omega
/-- count, asked with a number -/
theorem cntN (ho : cOk cs) (hj : j < 1000) : sCount cs a b (nI j) = if 20 ≤ j ∧ j ≤ 19 + cN cs then nI (cV cs (j - 20)) else if 30 ≤ j ∧ j ≤ 29 + cN cs then nI (cB cs 0 (j - 30)) else if 40 ≤ j ∧ j ≤ 39 + cN cs then nI (cB cs 1 (j - 40)) else if 0 ≤ j ∧ j ≤ 10 then cntS cs a b j else eIA := by
  have hN := ho.2.1
  unfold sCount
  rw [show (19 : Int32) + nI (cN cs) = nI (19 + cN cs) from nI_add 19 _, show (29 : Int32) + nI (cN cs) = nI (29 + cN cs) from nI_add 29 _, show (39 : Int32) + nI (cN cs) = nI (39 + cN cs) from nI_add 39 _, tn_nI (by omega)]
  have e1 : ((20 : Int32) ≤ nI j ∧ nI j ≤ nI (19 + cN cs)) ↔ (20 ≤ j ∧ j ≤ 19 + cN cs) := and_congr (nI_leI (a := 20) (by omega) (by omega)) (nI_leI (by omega) (by omega))
  have e2 : ((30 : Int32) ≤ nI j ∧ nI j ≤ nI (29 + cN cs)) ↔ (30 ≤ j ∧ j ≤ 29 + cN cs) := and_congr (nI_leI (a := 30) (by omega) (by omega)) (nI_leI (by omega) (by omega))
  have e3 : ((40 : Int32) ≤ nI j ∧ nI j ≤ nI (39 + cN cs)) ↔ (40 ≤ j ∧ j ≤ 39 + cN cs) := and_congr (nI_leI (a := 40) (by omega) (by omega)) (nI_leI (by omega) (by omega))
  have e4 : ((0 : Int32) ≤ nI j ∧ nI j ≤ 10) ↔ (0 ≤ j ∧ j ≤ 10) := and_congr (nI_leI (a := 0) (by omega) (by omega)) (nI_leI (b := 10) (by omega) (by omega))
  by_cases g1 : 20 ≤ j ∧ j ≤ 19 + cN cs
  · rw [if_pos (e1.mpr g1), if_pos g1]
  · rw [if_neg (fun z => g1 (e1.mp z)), if_neg g1]
    by_cases g2 : 30 ≤ j ∧ j ≤ 29 + cN cs
    · rw [if_pos (e2.mpr g2), if_pos g2]
    · rw [if_neg (fun z => g2 (e2.mp z)), if_neg g2]
      by_cases g3 : 40 ≤ j ∧ j ≤ 39 + cN cs
      · rw [if_pos (e3.mpr g3), if_pos g3]
      · rw [if_neg (fun z => g3 (e3.mp z)), if_neg g3]
        by_cases g4 : 0 ≤ j ∧ j ≤ 10
        · rw [if_pos (e4.mpr g4), if_pos g4]
        · rw [if_neg (fun z => g4 (e4.mp z)), if_neg g4]
theorem cnt_lo (ho : cOk cs) (hj : j ≤ 10) : sCount cs a b (nI j) = cntS cs a b j := by
  rw [cntN ho (by omega), if_neg (by omega), if_neg (by omega), if_neg (by omega), if_pos (by omega)]
theorem cnt_0 (ho : cOk cs) : sCount cs a b 0 = nI (cN cs) := cnt_lo (j := 0) ho (by omega)
theorem cnt_1 (ho : cOk cs) : sCount cs a b 1 = nI (vSum (cV cs) (cN cs)) := cnt_lo (j := 1) ho (by omega)
theorem cnt_2 (ho : cOk cs) : sCount cs a b 2 = nI (cT cs) := cnt_lo (j := 2) ho (by omega)
theorem cnt_5 (ho : cOk cs) : sCount cs a b 5 = nI (cM cs 0).length := cnt_lo (j := 5) ho (by omega)
theorem cnt_6 (ho : cOk cs) : sCount cs a b 6 = nI (cM cs 1).length := cnt_lo (j := 6) ho (by omega)
theorem cnt_7 (ho : cOk cs) : sCount cs a b 7 = nI (mSum (cM cs 0)) := cnt_lo (j := 7) ho (by omega)
theorem cnt_9 (ho : cOk cs) : sCount cs a b 9 = nI a := cnt_lo (j := 9) ho (by omega)
theorem cnt_10 (ho : cOk cs) : sCount cs a b 10 = nI b := cnt_lo (j := 10) ho (by omega)
theorem cnt_3q (ho : cOk cs) (hq : q < 2) : sCount cs a b (3 + nI q) = nI (cR cs q) := by
  rcases q01 hq with rfl | rfl
  · exact cnt_lo (j := 3) ho (by omega)
  · exact cnt_lo (j := 4) ho (by omega)
theorem cnt_5q (ho : cOk cs) (hq : q < 2) : sCount cs a b (5 + nI q) = nI (cM cs q).length := by
  rcases q01 hq with rfl | rfl
  · exact cnt_lo (j := 5) ho (by omega)
  · exact cnt_lo (j := 6) ho (by omega)
theorem cnt_6q (ho : cOk cs) (hq : q < 2) : sCount cs a b (6 - nI q) = nI (cM cs (1 - q)).length := by
  rcases q01 hq with rfl | rfl
  · exact cnt_lo (j := 6) ho (by omega)
  · exact cnt_lo (j := 5) ho (by omega)
theorem cnt_7q (ho : cOk cs) (hq : q < 2) : sCount cs a b (7 + nI q) = nI (mSum (cM cs q)) := by
  rcases q01 hq with rfl | rfl
  · exact cnt_lo (j := 7) ho (by omega)
  · exact cnt_lo (j := 8) ho (by omega)
theorem cnt_20 (ho : cOk cs) (hf : f < cN cs) : sCount cs a b (20 + nI f) = nI (cV cs f) := by
  have hN := ho.2.1
  rw [show (20 : Int32) + nI f = nI (20 + f) from nI_add 20 f, cntN ho (by omega), if_pos (by omega), show 20 + f - 20 = f by omega]
theorem cnt_30 (ho : cOk cs) (hq : q < 2) (hf : f < cN cs) : sCount cs a b (30 + 10 * nI q + nI f) = nI (cB cs q f) := by
  have hN := ho.2.1
  rw [show (10 : Int32) * nI q = nI (10 * q) from pk_mul 10 q, show (30 : Int32) + nI (10 * q) = nI (30 + 10 * q) from nI_add 30 _, nI_add]
  rcases q01 hq with rfl | rfl
  · rw [cntN ho (by omega), if_neg (by omega), if_pos (by omega), show 30 + 10 * 0 + f - 30 = f by omega]
  · rw [cntN ho (by omega), if_neg (by omega), if_neg (by omega), if_pos (by omega), show 30 + 10 * 1 + f - 40 = f by omega]
theorem isQ_q (hq : q < 2) : isQ (nI q) := ⟨nI_pos' (by omega), nI_le (b := 1) (by omega) (by omega)⟩
theorem isQ_2 (h : 2 ≤ q) (h2 : q < 1000) : ¬ isQ (nI q) := fun z => nI_ge (a := 1) (b := q) (by omega) (by omega) z.2
theorem nI_lt0 (h : k < 2 ^ 31) : (nI k < 0) = False := eq_false (nI_pos h)
theorem all_m1 (hq : q < 2) : sAlloc cs (nI q) (-1) = nI (alL cs q).length := by
  unfold sAlloc
  rw [if_pos ⟨isQ_q hq, Int32.le_refl _⟩, if_pos rfl, tn_nI (by omega)]
theorem all_k (ho : cOk cs) (hq : q < 2) (hk : k < (alL cs q).length) : sAlloc cs (nI q) (nI k) = nI ((alL cs q).getD k 0) := by
  have hl := alL_len ho hq
  have h1 : (-1 : Int32) ≤ nI k := by
    rw [Int32.le_iff_toInt_le, nI_toInt (by omega)]
    have e : (-1 : Int32).toInt = -1 := rfl
    omega
  have h2 : ¬ nI k = -1 := by
    intro z
    have z2 := congrArg Int32.toInt z
    rw [nI_toInt (by omega)] at z2
    have e : (-1 : Int32).toInt = -1 := rfl
    omega
  unfold sAlloc
  rw [if_pos ⟨isQ_q hq, h1⟩, if_neg h2, tn_nI (by omega), if_pos (nI_lt hk (by omega)), tn_nI (by omega)]
theorem mix_0 (hq : q < 2) (hk : k < (cM cs q).length) (h2 : k < 1000) : sMixOf cs (nI q) (nI k) 0 = nI (mA (cM cs q) k) := by
  unfold sMixOf
  rw [if_pos ⟨isQ_q hq, nI_pos' (by omega), by decide, by decide⟩, if_neg (fun z => absurd z.1 (by decide)), tn_nI (by omega), tn_nI (by omega), if_neg (by omega), if_pos rfl]
theorem mix_1 (hq : q < 2) (hk : k < (cM cs q).length) (h2 : k < 1000) : sMixOf cs (nI q) (nI k) 1 = nI (mW (cM cs q) k) := by
  unfold sMixOf
  rw [if_pos ⟨isQ_q hq, nI_pos' (by omega), by decide, by decide⟩, if_neg (fun z => absurd z.1 (by decide)), tn_nI (by omega), tn_nI (by omega), if_neg (by omega), if_neg (by decide), if_pos rfl]
theorem mix_no (hq : q < 2) (h : (cM cs q).length = 0) : sMixOf cs (nI q) 0 0 = eNF := by
  unfold sMixOf
  rw [if_pos ⟨isQ_q hq, by decide, by decide, by decide⟩, if_neg (fun z => absurd z.1 (by decide)), tn_nI (by omega), if_pos (by omega)]
theorem mean_no (hq : q < 2) (ho : cOk cs) (h : (cM cs q).length = 0) : sMean cs (nI q) 0 0 = eNP := by
  have h2 := ho.1
  have h4 := ho.2.1
  have hF : isF cs 0 := ⟨by decide, by rw [show (1 : Int32) = nI 1 from rfl, pk_sub (by omega)]; exact nI_le (a := 0) (by omega) (by omega)⟩
  unfold sMean
  rw [if_pos ⟨isQ_q hq, hF, by decide, by decide⟩, tn_nI (by omega), if_pos h]
theorem isF_f (ho : cOk cs) (hf : f < cN cs) : isF cs (nI f) := by
  have h4 := ho.2.1
  exact ⟨nI_pos' (by omega), by rw [show (1 : Int32) = nI 1 from rfl, pk_sub (by omega)]; exact nI_le (by omega) (by omega)⟩
theorem isF_no (ho : cOk cs) (hf : cN cs ≤ f) (h : f < 1000) : ¬ isF cs (nI f) := by
  have h4 := ho.2.1
  have h2 := ho.1
  intro z
  have z2 := z.2
  rw [show (1 : Int32) = nI 1 from rfl, pk_sub (by omega)] at z2
  exact nI_ge (a := cN cs - 1) (b := f) (by omega) (by omega) z2
theorem marg_q (ho : cOk cs) (hq : q < 2) (hf : f < cN cs) (ha : a ≤ 8) : sMarg cs (nI q) (nI f) (nI a) = nI (mrg (cM cs q) (cN cs) f a (cM cs q).length) := by
  have h4 := ho.2.1
  unfold sMarg
  rw [if_pos ⟨isQ_q hq, isF_f ho hf, nI_pos' (by omega), nI_le (b := 8) (by omega) (by omega)⟩, tn_nI (by omega), tn_nI (by omega), tn_nI (by omega)]
theorem mrg_ge {l : List (Nat × Nat)} {n : Nat} (h : dg n (mA l k) f = a) : ∀ m, k < m → mW l k ≤ mrg l n f a m := by
  intro m
  induction m with
  | zero => intro z; omega
  | succ m ih =>
    intro z
    unfold mrg
    by_cases e : k = m
    · subst e
      rw [if_pos h]
      omega
    · have := ih (by omega)
      omega
theorem oc_le1 (t q a c : Nat) : -1 ≤ oc t q a c ∧ oc t q a c ≤ 1 := by
  unfold oc
  split
  · split
    · omega
    · split <;> omega
  · split <;> omega
theorem gn_vs (t q : Nat) (V : Nat → Nat) : ∀ n y z, -(vSum V n : Int) ≤ gn t q V n y z ∧ gn t q V n y z ≤ vSum V n := by
  intro n
  induction n with
  | zero => intro y z; exact ⟨Int.le_refl _, Int.le_refl _⟩
  | succ n ih =>
    intro y z
    have h1 := ih (y / 10) (z / 10)
    have h2 := oc_le1 t q (y % 10) (z % 10)
    unfold gn vSum
    generalize oc t q (y % 10) (z % 10) = o at *
    rcases (show o = -1 ∨ o = 0 ∨ o = 1 by omega) with rfl | rfl | rfl <;> simp only [Int.mul_neg, Int.mul_one, Int.mul_zero, Int.natCast_add] <;> omega
theorem vSum_le (ho : cOk cs) : vSum (cV cs) (cN cs) ≤ 36 := by
  have h : ∀ n, n ≤ 4 → vSum (cV cs) n ≤ 9 * n := by
    intro n
    induction n with
    | zero => intro _; exact Nat.le_refl _
    | succ n ih =>
      intro hn
      have h1 := ih (by omega)
      have h2 := (ho.2.2.2.1 n (by omega)).2
      unfold vSum
      omega
  have := h (cN cs) ho.2.1
  have := ho.2.1
  omega
theorem isA_of (ho : cOk cs) (hq : q < 2) (hy : j < 10000) (h : alw (cN cs) (cB cs q) j (cR cs q) = true) : isA cs q (nI j) = true := by
  unfold isA
  rw [alwI_n (by omega)]
  exact h
theorem mix_lt {l : List (Nat × Nat)} (h : mOk l) (hk : k < l.length) : mA l k < 10000 := mA_lt h hk
/-- two allocations that stand in the mixtures: what one gains -/
theorem gains_ok {y z : Nat} (ho : cOk cs) (hy : y < 10000) (hz : z < 10000) (h0 : alw (cN cs) (cB cs 0) y (cR cs 0) = true) (h1 : alw (cN cs) (cB cs 1) z (cR cs 1) = true) : ∃ g : Int, sGains cs (nI y) (nI z) = iI (1000 + g) ∧ -(vSum (cV cs) (cN cs) : Int) ≤ g ∧ g ≤ vSum (cV cs) (cN cs) := by
  refine ⟨gn (cT cs) 0 (cV cs) (cN cs) y z, ?_, (gn_vs _ _ _ _ _ _).1, (gn_vs _ _ _ _ _ _).2⟩
  unfold sGains
  rw [if_pos ⟨isA_of ho (by omega) hy h0, isA_of ho (by omega) hz h1⟩, tn_nI (by omega), tn_nI (by omega), show (1000 : Int32) = iI 1000 from rfl, iI_add]
theorem exp_pos (hs1 : sOk cs) (h0 : 0 < (cM cs 0).length) (h1 : 0 < (cM cs 1).length) : ∃ m, 0 < m ∧ m < 2 ^ 31 ∧ sExp cs 1 = nI m := by
  have m0 := mSum_ok (hs1.2 0 (by omega))
  have m1 := mSum_ok (hs1.2 1 (by omega))
  have p0 := m0.2 h0
  have p1 := m1.2 h1
  have hp : 0 < mSum (cM cs 1) * mSum (cM cs 0) := Nat.mul_pos p1 p0
  have hl : mSum (cM cs 1) * mSum (cM cs 0) ≤ 1188 * 1188 := Nat.mul_le_mul m1.1 m0.1
  refine ⟨mSum (cM cs 1) * mSum (cM cs 0) / Nat.gcd (scoM cs 0 (cM cs 0) (cM cs 1)).natAbs (mSum (cM cs 1) * mSum (cM cs 0)), ?_, ?_, ?_⟩
  · exact Nat.div_pos (Nat.gcd_le_right _ hp) (Nat.gcd_pos_of_pos_right _ hp)
  · exact Nat.lt_of_le_of_lt (Nat.div_le_self _ _) (by omega)
  · unfold sExp
    rw [if_pos ⟨by decide, by decide⟩, if_neg (by omega)]
    unfold prt
    rw [if_neg (by decide)]
theorem exp_no (h : (cM cs 0).length = 0 ∨ (cM cs 1).length = 0) : sExp cs 1 = eNP := by
  unfold sExp
  rw [if_pos ⟨by decide, by decide⟩, if_pos h]
end ZF
