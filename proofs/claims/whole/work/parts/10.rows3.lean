/-! ===== rows of the methods, printed by wip/whole/gen2.py ===== -/
section ZU3
variable {sc : Nat × (Nat → Int32)} {h : zA} {Q : Option Value → zA → Prop} {p : Nat → Option Nat} {iv : Nat → Nat → Int32} {l0 l1 l2 l3 l4 l5 l6 l7 l8 l9 l10 l11 t0 t1 t2 t3 t4 t5 t6 v1 v2 : Value} {x x1 x2 z0 z1 z2 z3 : Int32} {a b0 b1 b2 : Nat}
/-! method 101: FieldMixturesModel.mixed(I)I -/
theorem dz101_0 : decode (z_code 101) 0 = .ok (.aload_n 0, 1) := by decide +kernel
theorem u101_0 : zEv sc 101 0 [.ref a, l1] [] h Q ↔ zEv sc 101 1 [.ref a, l1] [.ref a] h Q := zE_pure (q := (1, [.ref a, l1], [.ref a])) dz101_0 rfl rfl rfl
theorem dz101_1 : decode (z_code 101) 1 = .ok (.getfield 7, 3) := by decide +kernel
theorem u101_1 (ho : zO a 10) : zEv sc 101 1 [l0, l1] [.ref a] (zst p iv) Q ↔ zRef (zRV p a 0) (fun j => zEv sc 101 4 [l0, l1] [.ref j] (zst p iv) Q) := zE_gfR dz101_1 (by decide +kernel : z_lk3 zFT (z_cls 101) 7 = some (10, 0, 0, 677)) (by decide +kernel) ho
theorem dz101_4 : decode (z_code 101) 4 = .ok (.iload_n 1, 1) := by decide +kernel
theorem u101_4 : zEv sc 101 4 [l0, .int x] [t0] h Q ↔ zEv sc 101 5 [l0, .int x] [.int x, t0] h Q := zE_pure (q := (5, [l0, .int x], [.int x, t0])) dz101_4 rfl rfl rfl
theorem dz101_5 : decode (z_code 101) 5 = .ok (.invokestatic 54, 3) := by decide +kernel
theorem u101_5 : zEv sc 101 5 [l0, l1] [.int z0, t0] h Q ↔ zEv sc 100 0 [.int z0] [] h (fun r h9 => zEv sc 101 8 [l0, l1] (r.toList ++ [t0]) h9 Q) := zE_call (kd := 1) (na := 1) (nr := 1) (as := [.int z0]) (rest := [t0]) (Or.inr ⟨rfl, rfl⟩) dz101_5 (by decide +kernel : z_lk2 zCT (z_cls 101) 54 = some (100, 0, 741)) (fun _ => by decide +kernel) rfl rfl rfl (by decide +kernel) rfl (Or.inl rfl)
theorem dz101_8 : decode (z_code 101) 8 = .ok (.iaload, 1) := by decide +kernel
theorem u101_8 (ho : zO a 100) : zEv sc 101 8 [l0, l1] [.int x, .ref a] (zst p iv) Q ↔ (vp_in x (zLn a) ∧ zEv sc 101 9 [l0, l1] [.int (iv a x.toNatClampNeg)] (zst p iv) Q) := zE_ald (Or.inl ⟨rfl, rfl⟩) dz101_8 ho
theorem dz101_9 : decode (z_code 101) 9 = .ok (.ireturn, 1) := by decide +kernel
theorem u101_9 : zEv sc 101 9 [l0, l1] [.int x] h Q ↔ Q (some (.int x)) h := zE_ri dz101_9 (by decide +kernel)
/-! method 102: FieldMixturesModel.allocationAt(II)I -/
theorem dz102_0 : decode (z_code 102) 0 = .ok (.aload_n 0, 1) := by decide +kernel
theorem u102_0 : zEv sc 102 0 [.ref a, l1, l2] [] h Q ↔ zEv sc 102 1 [.ref a, l1, l2] [.ref a] h Q := zE_pure (q := (1, [.ref a, l1, l2], [.ref a])) dz102_0 rfl rfl rfl
theorem dz102_1 : decode (z_code 102) 1 = .ok (.getfield 7, 3) := by decide +kernel
theorem u102_1 (ho : zO a 10) : zEv sc 102 1 [l0, l1, l2] [.ref a] (zst p iv) Q ↔ zRef (zRV p a 0) (fun j => zEv sc 102 4 [l0, l1, l2] [.ref j] (zst p iv) Q) := zE_gfR dz102_1 (by decide +kernel : z_lk3 zFT (z_cls 102) 7 = some (10, 0, 0, 677)) (by decide +kernel) ho
theorem dz102_4 : decode (z_code 102) 4 = .ok (.iload_n 1, 1) := by decide +kernel
theorem u102_4 : zEv sc 102 4 [l0, .int x, l2] [t0] h Q ↔ zEv sc 102 5 [l0, .int x, l2] [.int x, t0] h Q := zE_pure (q := (5, [l0, .int x, l2], [.int x, t0])) dz102_4 rfl rfl rfl
theorem dz102_5 : decode (z_code 102) 5 = .ok (.invokestatic 54, 3) := by decide +kernel
theorem u102_5 : zEv sc 102 5 [l0, l1, l2] [.int z0, t0] h Q ↔ zEv sc 100 0 [.int z0] [] h (fun r h9 => zEv sc 102 8 [l0, l1, l2] (r.toList ++ [t0]) h9 Q) := zE_call (kd := 1) (na := 1) (nr := 1) (as := [.int z0]) (rest := [t0]) (Or.inr ⟨rfl, rfl⟩) dz102_5 (by decide +kernel : z_lk2 zCT (z_cls 102) 54 = some (100, 0, 741)) (fun _ => by decide +kernel) rfl rfl rfl (by decide +kernel) rfl (Or.inl rfl)
theorem dz102_8 : decode (z_code 102) 8 = .ok (.iconst 1, 1) := by decide +kernel
theorem u102_8 : zEv sc 102 8 [l0, l1, l2] [t0, t1] h Q ↔ zEv sc 102 9 [l0, l1, l2] [.int 1, t0, t1] h Q := zE_iconst dz102_8 (by decide +kernel)
theorem dz102_9 : decode (z_code 102) 9 = .ok (.iadd, 1) := by decide +kernel
theorem u102_9 : zEv sc 102 9 [l0, l1, l2] [.int x2, .int x1, t0] h Q ↔ zEv sc 102 10 [l0, l1, l2] [.int (x1 + x2), t0] h Q := zE_pure (q := (10, [l0, l1, l2], [.int (x1 + x2), t0])) dz102_9 rfl rfl rfl
theorem dz102_10 : decode (z_code 102) 10 = .ok (.iconst 2, 1) := by decide +kernel
theorem u102_10 : zEv sc 102 10 [l0, l1, l2] [t0, t1] h Q ↔ zEv sc 102 11 [l0, l1, l2] [.int 2, t0, t1] h Q := zE_iconst dz102_10 (by decide +kernel)
theorem dz102_11 : decode (z_code 102) 11 = .ok (.iload_n 2, 1) := by decide +kernel
theorem u102_11 : zEv sc 102 11 [l0, l1, .int x] [t0, t1, t2] h Q ↔ zEv sc 102 12 [l0, l1, .int x] [.int x, t0, t1, t2] h Q := zE_pure (q := (12, [l0, l1, .int x], [.int x, t0, t1, t2])) dz102_11 rfl rfl rfl
theorem dz102_12 : decode (z_code 102) 12 = .ok (.imul, 1) := by decide +kernel
theorem u102_12 : zEv sc 102 12 [l0, l1, l2] [.int x2, .int x1, t0, t1] h Q ↔ zEv sc 102 13 [l0, l1, l2] [.int (x1 * x2), t0, t1] h Q := zE_pure (q := (13, [l0, l1, l2], [.int (x1 * x2), t0, t1])) dz102_12 rfl rfl rfl
theorem dz102_13 : decode (z_code 102) 13 = .ok (.iadd, 1) := by decide +kernel
theorem u102_13 : zEv sc 102 13 [l0, l1, l2] [.int x2, .int x1, t0] h Q ↔ zEv sc 102 14 [l0, l1, l2] [.int (x1 + x2), t0] h Q := zE_pure (q := (14, [l0, l1, l2], [.int (x1 + x2), t0])) dz102_13 rfl rfl rfl
theorem dz102_14 : decode (z_code 102) 14 = .ok (.iaload, 1) := by decide +kernel
theorem u102_14 (ho : zO a 100) : zEv sc 102 14 [l0, l1, l2] [.int x, .ref a] (zst p iv) Q ↔ (vp_in x (zLn a) ∧ zEv sc 102 15 [l0, l1, l2] [.int (iv a x.toNatClampNeg)] (zst p iv) Q) := zE_ald (Or.inl ⟨rfl, rfl⟩) dz102_14 ho
theorem dz102_15 : decode (z_code 102) 15 = .ok (.ireturn, 1) := by decide +kernel
theorem u102_15 : zEv sc 102 15 [l0, l1, l2] [.int x] h Q ↔ Q (some (.int x)) h := zE_ri dz102_15 (by decide +kernel)
/-! method 103: FieldMixturesModel.weightAt(II)I -/
theorem dz103_0 : decode (z_code 103) 0 = .ok (.aload_n 0, 1) := by decide +kernel
theorem u103_0 : zEv sc 103 0 [.ref a, l1, l2] [] h Q ↔ zEv sc 103 1 [.ref a, l1, l2] [.ref a] h Q := zE_pure (q := (1, [.ref a, l1, l2], [.ref a])) dz103_0 rfl rfl rfl
theorem dz103_1 : decode (z_code 103) 1 = .ok (.getfield 7, 3) := by decide +kernel
theorem u103_1 (ho : zO a 10) : zEv sc 103 1 [l0, l1, l2] [.ref a] (zst p iv) Q ↔ zRef (zRV p a 0) (fun j => zEv sc 103 4 [l0, l1, l2] [.ref j] (zst p iv) Q) := zE_gfR dz103_1 (by decide +kernel : z_lk3 zFT (z_cls 103) 7 = some (10, 0, 0, 677)) (by decide +kernel) ho
theorem dz103_4 : decode (z_code 103) 4 = .ok (.iload_n 1, 1) := by decide +kernel
theorem u103_4 : zEv sc 103 4 [l0, .int x, l2] [t0] h Q ↔ zEv sc 103 5 [l0, .int x, l2] [.int x, t0] h Q := zE_pure (q := (5, [l0, .int x, l2], [.int x, t0])) dz103_4 rfl rfl rfl
theorem dz103_5 : decode (z_code 103) 5 = .ok (.invokestatic 54, 3) := by decide +kernel
theorem u103_5 : zEv sc 103 5 [l0, l1, l2] [.int z0, t0] h Q ↔ zEv sc 100 0 [.int z0] [] h (fun r h9 => zEv sc 103 8 [l0, l1, l2] (r.toList ++ [t0]) h9 Q) := zE_call (kd := 1) (na := 1) (nr := 1) (as := [.int z0]) (rest := [t0]) (Or.inr ⟨rfl, rfl⟩) dz103_5 (by decide +kernel : z_lk2 zCT (z_cls 103) 54 = some (100, 0, 741)) (fun _ => by decide +kernel) rfl rfl rfl (by decide +kernel) rfl (Or.inl rfl)
theorem dz103_8 : decode (z_code 103) 8 = .ok (.iconst 2, 1) := by decide +kernel
theorem u103_8 : zEv sc 103 8 [l0, l1, l2] [t0, t1] h Q ↔ zEv sc 103 9 [l0, l1, l2] [.int 2, t0, t1] h Q := zE_iconst dz103_8 (by decide +kernel)
theorem dz103_9 : decode (z_code 103) 9 = .ok (.iadd, 1) := by decide +kernel
theorem u103_9 : zEv sc 103 9 [l0, l1, l2] [.int x2, .int x1, t0] h Q ↔ zEv sc 103 10 [l0, l1, l2] [.int (x1 + x2), t0] h Q := zE_pure (q := (10, [l0, l1, l2], [.int (x1 + x2), t0])) dz103_9 rfl rfl rfl
theorem dz103_10 : decode (z_code 103) 10 = .ok (.iconst 2, 1) := by decide +kernel
theorem u103_10 : zEv sc 103 10 [l0, l1, l2] [t0, t1] h Q ↔ zEv sc 103 11 [l0, l1, l2] [.int 2, t0, t1] h Q := zE_iconst dz103_10 (by decide +kernel)
theorem dz103_11 : decode (z_code 103) 11 = .ok (.iload_n 2, 1) := by decide +kernel
theorem u103_11 : zEv sc 103 11 [l0, l1, .int x] [t0, t1, t2] h Q ↔ zEv sc 103 12 [l0, l1, .int x] [.int x, t0, t1, t2] h Q := zE_pure (q := (12, [l0, l1, .int x], [.int x, t0, t1, t2])) dz103_11 rfl rfl rfl
theorem dz103_12 : decode (z_code 103) 12 = .ok (.imul, 1) := by decide +kernel
theorem u103_12 : zEv sc 103 12 [l0, l1, l2] [.int x2, .int x1, t0, t1] h Q ↔ zEv sc 103 13 [l0, l1, l2] [.int (x1 * x2), t0, t1] h Q := zE_pure (q := (13, [l0, l1, l2], [.int (x1 * x2), t0, t1])) dz103_12 rfl rfl rfl
theorem dz103_13 : decode (z_code 103) 13 = .ok (.iadd, 1) := by decide +kernel
theorem u103_13 : zEv sc 103 13 [l0, l1, l2] [.int x2, .int x1, t0] h Q ↔ zEv sc 103 14 [l0, l1, l2] [.int (x1 + x2), t0] h Q := zE_pure (q := (14, [l0, l1, l2], [.int (x1 + x2), t0])) dz103_13 rfl rfl rfl
theorem dz103_14 : decode (z_code 103) 14 = .ok (.iaload, 1) := by decide +kernel
theorem u103_14 (ho : zO a 100) : zEv sc 103 14 [l0, l1, l2] [.int x, .ref a] (zst p iv) Q ↔ (vp_in x (zLn a) ∧ zEv sc 103 15 [l0, l1, l2] [.int (iv a x.toNatClampNeg)] (zst p iv) Q) := zE_ald (Or.inl ⟨rfl, rfl⟩) dz103_14 ho
theorem dz103_15 : decode (z_code 103) 15 = .ok (.ireturn, 1) := by decide +kernel
theorem u103_15 : zEv sc 103 15 [l0, l1, l2] [.int x] h Q ↔ Q (some (.int x)) h := zE_ri dz103_15 (by decide +kernel)
/-! method 104: FieldMixturesModel.weightOf(I)I -/
theorem dz104_0 : decode (z_code 104) 0 = .ok (.iconst 0, 1) := by decide +kernel
theorem u104_0 : zEv sc 104 0 [l0, l1, l2, l3] [] h Q ↔ zEv sc 104 1 [l0, l1, l2, l3] [.int 0] h Q := zE_iconst dz104_0 (by decide +kernel)
theorem dz104_1 : decode (z_code 104) 1 = .ok (.istore_n 2, 1) := by decide +kernel
theorem u104_1 : zEv sc 104 1 [l0, l1, l2, l3] [.int x] h Q ↔ zEv sc 104 2 [l0, l1, .int x, l3] [] h Q := zE_pure (q := (2, [l0, l1, .int x, l3], [])) dz104_1 rfl rfl rfl
theorem dz104_2 : decode (z_code 104) 2 = .ok (.iconst 0, 1) := by decide +kernel
theorem u104_2 : zEv sc 104 2 [l0, l1, l2, l3] [] h Q ↔ zEv sc 104 3 [l0, l1, l2, l3] [.int 0] h Q := zE_iconst dz104_2 (by decide +kernel)
theorem dz104_3 : decode (z_code 104) 3 = .ok (.istore_n 3, 1) := by decide +kernel
theorem u104_3 : zEv sc 104 3 [l0, l1, l2, l3] [.int x] h Q ↔ zEv sc 104 4 [l0, l1, l2, .int x] [] h Q := zE_pure (q := (4, [l0, l1, l2, .int x], [])) dz104_3 rfl rfl rfl
theorem dz104_4 : decode (z_code 104) 4 = .ok (.iload_n 3, 1) := by decide +kernel
theorem u104_4 : zEv sc 104 4 [l0, l1, l2, .int x] [] h Q ↔ zEv sc 104 5 [l0, l1, l2, .int x] [.int x] h Q := zE_pure (q := (5, [l0, l1, l2, .int x], [.int x])) dz104_4 rfl rfl rfl
theorem dz104_5 : decode (z_code 104) 5 = .ok (.aload_n 0, 1) := by decide +kernel
theorem u104_5 : zEv sc 104 5 [.ref a, l1, l2, l3] [t0] h Q ↔ zEv sc 104 6 [.ref a, l1, l2, l3] [.ref a, t0] h Q := zE_pure (q := (6, [.ref a, l1, l2, l3], [.ref a, t0])) dz104_5 rfl rfl rfl
theorem dz104_6 : decode (z_code 104) 6 = .ok (.iload_n 1, 1) := by decide +kernel
theorem u104_6 : zEv sc 104 6 [l0, .int x, l2, l3] [t0, t1] h Q ↔ zEv sc 104 7 [l0, .int x, l2, l3] [.int x, t0, t1] h Q := zE_pure (q := (7, [l0, .int x, l2, l3], [.int x, t0, t1])) dz104_6 rfl rfl rfl
theorem dz104_7 : decode (z_code 104) 7 = .ok (.invokevirtual 58, 3) := by decide +kernel
theorem u104_7 (ho : zO a 10) : zEv sc 104 7 [l0, l1, l2, l3] [.int z0, .ref a, t0] (zst p iv) Q ↔ zEv sc 101 0 [.ref a, .int z0] [] (zst p iv) (fun r h9 => zEv sc 104 10 [l0, l1, l2, l3] (r.toList ++ [t0]) h9 Q) := zE_call (kd := 0) (na := 2) (nr := 1) (as := [.ref a, .int z0]) (rest := [t0]) (Or.inl ⟨rfl, rfl⟩) dz104_7 (by decide +kernel : z_lk2 zCT (z_cls 104) 58 = some (101, 0, 776)) (fun z => by cases z) rfl rfl rfl (by decide +kernel) rfl (Or.inr (zE_rc ho))
theorem dz104_10 : decode (z_code 104) 10 = .ok (.if_icmp .ge 18, 3) := by decide +kernel
theorem u104_10 : zEv sc 104 10 [l0, l1, l2, l3] [.int x2, .int x1] h Q ↔ (if x2 ≤ x1 then zEv sc 104 28 [l0, l1, l2, l3] [] h Q else zEv sc 104 13 [l0, l1, l2, l3] [] h Q) := zE_icP (P := x2 ≤ x1) inferInstance 28 dz104_10 rfl rfl
theorem dz104_13 : decode (z_code 104) 13 = .ok (.iload_n 2, 1) := by decide +kernel
theorem u104_13 : zEv sc 104 13 [l0, l1, .int x, l3] [] h Q ↔ zEv sc 104 14 [l0, l1, .int x, l3] [.int x] h Q := zE_pure (q := (14, [l0, l1, .int x, l3], [.int x])) dz104_13 rfl rfl rfl
theorem dz104_14 : decode (z_code 104) 14 = .ok (.aload_n 0, 1) := by decide +kernel
theorem u104_14 : zEv sc 104 14 [.ref a, l1, l2, l3] [t0] h Q ↔ zEv sc 104 15 [.ref a, l1, l2, l3] [.ref a, t0] h Q := zE_pure (q := (15, [.ref a, l1, l2, l3], [.ref a, t0])) dz104_14 rfl rfl rfl
theorem dz104_15 : decode (z_code 104) 15 = .ok (.iload_n 1, 1) := by decide +kernel
theorem u104_15 : zEv sc 104 15 [l0, .int x, l2, l3] [t0, t1] h Q ↔ zEv sc 104 16 [l0, .int x, l2, l3] [.int x, t0, t1] h Q := zE_pure (q := (16, [l0, .int x, l2, l3], [.int x, t0, t1])) dz104_15 rfl rfl rfl
theorem dz104_16 : decode (z_code 104) 16 = .ok (.iload_n 3, 1) := by decide +kernel
theorem u104_16 : zEv sc 104 16 [l0, l1, l2, .int x] [t0, t1, t2] h Q ↔ zEv sc 104 17 [l0, l1, l2, .int x] [.int x, t0, t1, t2] h Q := zE_pure (q := (17, [l0, l1, l2, .int x], [.int x, t0, t1, t2])) dz104_16 rfl rfl rfl
theorem dz104_17 : decode (z_code 104) 17 = .ok (.invokevirtual 61, 3) := by decide +kernel
theorem u104_17 (ho : zO a 10) : zEv sc 104 17 [l0, l1, l2, l3] [.int z1, .int z0, .ref a, t0] (zst p iv) Q ↔ zEv sc 103 0 [.ref a, .int z0, .int z1] [] (zst p iv) (fun r h9 => zEv sc 104 20 [l0, l1, l2, l3] (r.toList ++ [t0]) h9 Q) := zE_call (kd := 0) (na := 3) (nr := 1) (as := [.ref a, .int z0, .int z1]) (rest := [t0]) (Or.inl ⟨rfl, rfl⟩) dz104_17 (by decide +kernel : z_lk2 zCT (z_cls 104) 61 = some (103, 0, 824)) (fun z => by cases z) rfl rfl rfl (by decide +kernel) rfl (Or.inr (zE_rc ho))
theorem dz104_20 : decode (z_code 104) 20 = .ok (.iadd, 1) := by decide +kernel
theorem u104_20 : zEv sc 104 20 [l0, l1, l2, l3] [.int x2, .int x1] h Q ↔ zEv sc 104 21 [l0, l1, l2, l3] [.int (x1 + x2)] h Q := zE_pure (q := (21, [l0, l1, l2, l3], [.int (x1 + x2)])) dz104_20 rfl rfl rfl
theorem dz104_21 : decode (z_code 104) 21 = .ok (.istore_n 2, 1) := by decide +kernel
theorem u104_21 : zEv sc 104 21 [l0, l1, l2, l3] [.int x] h Q ↔ zEv sc 104 22 [l0, l1, .int x, l3] [] h Q := zE_pure (q := (22, [l0, l1, .int x, l3], [])) dz104_21 rfl rfl rfl
theorem dz104_22 : decode (z_code 104) 22 = .ok (.iinc 3 1, 3) := by decide +kernel
theorem u104_22 : zEv sc 104 22 [l0, l1, l2, .int x] [] h Q ↔ zEv sc 104 25 [l0, l1, l2, .int (x + 1)] [] h Q := zE_iinc (ls2 := [l0, l1, l2, .int (x + 1)]) dz104_22 (by decide +kernel) rfl (by simp) rfl
theorem dz104_25 : decode (z_code 104) 25 = .ok (.goto (-21), 3) := by decide +kernel
theorem u104_25 : zEv sc 104 25 [l0, l1, l2, l3] [] h Q ↔ zEv sc 104 4 [l0, l1, l2, l3] [] h Q := zE_go 4 dz104_25 rfl
theorem dz104_28 : decode (z_code 104) 28 = .ok (.iload_n 2, 1) := by decide +kernel
theorem u104_28 : zEv sc 104 28 [l0, l1, .int x, l3] [] h Q ↔ zEv sc 104 29 [l0, l1, .int x, l3] [.int x] h Q := zE_pure (q := (29, [l0, l1, .int x, l3], [.int x])) dz104_28 rfl rfl rfl
theorem dz104_29 : decode (z_code 104) 29 = .ok (.ireturn, 1) := by decide +kernel
theorem u104_29 : zEv sc 104 29 [l0, l1, l2, l3] [.int x] h Q ↔ Q (some (.int x)) h := zE_ri dz104_29 (by decide +kernel)
/-! method 105: FieldMixturesModel.placeOf(II)I -/
theorem dz105_0 : decode (z_code 105) 0 = .ok (.iconst 0, 1) := by decide +kernel
theorem u105_0 : zEv sc 105 0 [l0, l1, l2, l3] [] h Q ↔ zEv sc 105 1 [l0, l1, l2, l3] [.int 0] h Q := zE_iconst dz105_0 (by decide +kernel)
theorem dz105_1 : decode (z_code 105) 1 = .ok (.istore_n 3, 1) := by decide +kernel
theorem u105_1 : zEv sc 105 1 [l0, l1, l2, l3] [.int x] h Q ↔ zEv sc 105 2 [l0, l1, l2, .int x] [] h Q := zE_pure (q := (2, [l0, l1, l2, .int x], [])) dz105_1 rfl rfl rfl
theorem dz105_2 : decode (z_code 105) 2 = .ok (.iload_n 3, 1) := by decide +kernel
theorem u105_2 : zEv sc 105 2 [l0, l1, l2, .int x] [] h Q ↔ zEv sc 105 3 [l0, l1, l2, .int x] [.int x] h Q := zE_pure (q := (3, [l0, l1, l2, .int x], [.int x])) dz105_2 rfl rfl rfl
theorem dz105_3 : decode (z_code 105) 3 = .ok (.aload_n 0, 1) := by decide +kernel
theorem u105_3 : zEv sc 105 3 [.ref a, l1, l2, l3] [t0] h Q ↔ zEv sc 105 4 [.ref a, l1, l2, l3] [.ref a, t0] h Q := zE_pure (q := (4, [.ref a, l1, l2, l3], [.ref a, t0])) dz105_3 rfl rfl rfl
theorem dz105_4 : decode (z_code 105) 4 = .ok (.iload_n 1, 1) := by decide +kernel
theorem u105_4 : zEv sc 105 4 [l0, .int x, l2, l3] [t0, t1] h Q ↔ zEv sc 105 5 [l0, .int x, l2, l3] [.int x, t0, t1] h Q := zE_pure (q := (5, [l0, .int x, l2, l3], [.int x, t0, t1])) dz105_4 rfl rfl rfl
theorem dz105_5 : decode (z_code 105) 5 = .ok (.invokevirtual 58, 3) := by decide +kernel
theorem u105_5 (ho : zO a 10) : zEv sc 105 5 [l0, l1, l2, l3] [.int z0, .ref a, t0] (zst p iv) Q ↔ zEv sc 101 0 [.ref a, .int z0] [] (zst p iv) (fun r h9 => zEv sc 105 8 [l0, l1, l2, l3] (r.toList ++ [t0]) h9 Q) := zE_call (kd := 0) (na := 2) (nr := 1) (as := [.ref a, .int z0]) (rest := [t0]) (Or.inl ⟨rfl, rfl⟩) dz105_5 (by decide +kernel : z_lk2 zCT (z_cls 105) 58 = some (101, 0, 776)) (fun z => by cases z) rfl rfl rfl (by decide +kernel) rfl (Or.inr (zE_rc ho))
theorem dz105_8 : decode (z_code 105) 8 = .ok (.if_icmp .ge 19, 3) := by decide +kernel
theorem u105_8 : zEv sc 105 8 [l0, l1, l2, l3] [.int x2, .int x1] h Q ↔ (if x2 ≤ x1 then zEv sc 105 27 [l0, l1, l2, l3] [] h Q else zEv sc 105 11 [l0, l1, l2, l3] [] h Q) := zE_icP (P := x2 ≤ x1) inferInstance 27 dz105_8 rfl rfl
theorem dz105_11 : decode (z_code 105) 11 = .ok (.aload_n 0, 1) := by decide +kernel
theorem u105_11 : zEv sc 105 11 [.ref a, l1, l2, l3] [] h Q ↔ zEv sc 105 12 [.ref a, l1, l2, l3] [.ref a] h Q := zE_pure (q := (12, [.ref a, l1, l2, l3], [.ref a])) dz105_11 rfl rfl rfl
theorem dz105_12 : decode (z_code 105) 12 = .ok (.iload_n 1, 1) := by decide +kernel
theorem u105_12 : zEv sc 105 12 [l0, .int x, l2, l3] [t0] h Q ↔ zEv sc 105 13 [l0, .int x, l2, l3] [.int x, t0] h Q := zE_pure (q := (13, [l0, .int x, l2, l3], [.int x, t0])) dz105_12 rfl rfl rfl
theorem dz105_13 : decode (z_code 105) 13 = .ok (.iload_n 3, 1) := by decide +kernel
theorem u105_13 : zEv sc 105 13 [l0, l1, l2, .int x] [t0, t1] h Q ↔ zEv sc 105 14 [l0, l1, l2, .int x] [.int x, t0, t1] h Q := zE_pure (q := (14, [l0, l1, l2, .int x], [.int x, t0, t1])) dz105_13 rfl rfl rfl
theorem dz105_14 : decode (z_code 105) 14 = .ok (.invokevirtual 64, 3) := by decide +kernel
theorem u105_14 (ho : zO a 10) : zEv sc 105 14 [l0, l1, l2, l3] [.int z1, .int z0, .ref a] (zst p iv) Q ↔ zEv sc 102 0 [.ref a, .int z0, .int z1] [] (zst p iv) (fun r h9 => zEv sc 105 17 [l0, l1, l2, l3] (r.toList ++ []) h9 Q) := zE_call (kd := 0) (na := 3) (nr := 0) (as := [.ref a, .int z0, .int z1]) (rest := []) (Or.inl ⟨rfl, rfl⟩) dz105_14 (by decide +kernel : z_lk2 zCT (z_cls 105) 64 = some (102, 0, 780)) (fun z => by cases z) rfl rfl rfl (by decide +kernel) rfl (Or.inr (zE_rc ho))
theorem dz105_17 : decode (z_code 105) 17 = .ok (.iload_n 2, 1) := by decide +kernel
theorem u105_17 : zEv sc 105 17 [l0, l1, .int x, l3] [t0] h Q ↔ zEv sc 105 18 [l0, l1, .int x, l3] [.int x, t0] h Q := zE_pure (q := (18, [l0, l1, .int x, l3], [.int x, t0])) dz105_17 rfl rfl rfl
theorem dz105_18 : decode (z_code 105) 18 = .ok (.if_icmp .ge 9, 3) := by decide +kernel
theorem u105_18 : zEv sc 105 18 [l0, l1, l2, l3] [.int x2, .int x1] h Q ↔ (if x2 ≤ x1 then zEv sc 105 27 [l0, l1, l2, l3] [] h Q else zEv sc 105 21 [l0, l1, l2, l3] [] h Q) := zE_icP (P := x2 ≤ x1) inferInstance 27 dz105_18 rfl rfl
theorem dz105_21 : decode (z_code 105) 21 = .ok (.iinc 3 1, 3) := by decide +kernel
theorem u105_21 : zEv sc 105 21 [l0, l1, l2, .int x] [] h Q ↔ zEv sc 105 24 [l0, l1, l2, .int (x + 1)] [] h Q := zE_iinc (ls2 := [l0, l1, l2, .int (x + 1)]) dz105_21 (by decide +kernel) rfl (by simp) rfl
theorem dz105_24 : decode (z_code 105) 24 = .ok (.goto (-22), 3) := by decide +kernel
theorem u105_24 : zEv sc 105 24 [l0, l1, l2, l3] [] h Q ↔ zEv sc 105 2 [l0, l1, l2, l3] [] h Q := zE_go 2 dz105_24 rfl
theorem dz105_27 : decode (z_code 105) 27 = .ok (.iload_n 3, 1) := by decide +kernel
theorem u105_27 : zEv sc 105 27 [l0, l1, l2, .int x] [] h Q ↔ zEv sc 105 28 [l0, l1, l2, .int x] [.int x] h Q := zE_pure (q := (28, [l0, l1, l2, .int x], [.int x])) dz105_27 rfl rfl rfl
theorem dz105_28 : decode (z_code 105) 28 = .ok (.ireturn, 1) := by decide +kernel
theorem u105_28 : zEv sc 105 28 [l0, l1, l2, l3] [.int x] h Q ↔ Q (some (.int x)) h := zE_ri dz105_28 (by decide +kernel)
/-! method 106: FieldMixturesModel.weightIn(II)I -/
theorem dz106_0 : decode (z_code 106) 0 = .ok (.aload_n 0, 1) := by decide +kernel
theorem u106_0 : zEv sc 106 0 [.ref a, l1, l2, l3] [] h Q ↔ zEv sc 106 1 [.ref a, l1, l2, l3] [.ref a] h Q := zE_pure (q := (1, [.ref a, l1, l2, l3], [.ref a])) dz106_0 rfl rfl rfl
theorem dz106_1 : decode (z_code 106) 1 = .ok (.iload_n 1, 1) := by decide +kernel
theorem u106_1 : zEv sc 106 1 [l0, .int x, l2, l3] [t0] h Q ↔ zEv sc 106 2 [l0, .int x, l2, l3] [.int x, t0] h Q := zE_pure (q := (2, [l0, .int x, l2, l3], [.int x, t0])) dz106_1 rfl rfl rfl
theorem dz106_2 : decode (z_code 106) 2 = .ok (.iload_n 2, 1) := by decide +kernel
theorem u106_2 : zEv sc 106 2 [l0, l1, .int x, l3] [t0, t1] h Q ↔ zEv sc 106 3 [l0, l1, .int x, l3] [.int x, t0, t1] h Q := zE_pure (q := (3, [l0, l1, .int x, l3], [.int x, t0, t1])) dz106_2 rfl rfl rfl
theorem dz106_3 : decode (z_code 106) 3 = .ok (.invokevirtual 67, 3) := by decide +kernel
theorem u106_3 (ho : zO a 10) : zEv sc 106 3 [l0, l1, l2, l3] [.int z1, .int z0, .ref a] (zst p iv) Q ↔ zEv sc 105 0 [.ref a, .int z0, .int z1, .null] [] (zst p iv) (fun r h9 => zEv sc 106 6 [l0, l1, l2, l3] (r.toList ++ []) h9 Q) := zE_call (kd := 0) (na := 3) (nr := 0) (as := [.ref a, .int z0, .int z1]) (rest := []) (Or.inl ⟨rfl, rfl⟩) dz106_3 (by decide +kernel : z_lk2 zCT (z_cls 106) 67 = some (105, 0, 820)) (fun z => by cases z) rfl rfl rfl (by decide +kernel) rfl (Or.inr (zE_rc ho))
theorem dz106_6 : decode (z_code 106) 6 = .ok (.istore_n 3, 1) := by decide +kernel
theorem u106_6 : zEv sc 106 6 [l0, l1, l2, l3] [.int x] h Q ↔ zEv sc 106 7 [l0, l1, l2, .int x] [] h Q := zE_pure (q := (7, [l0, l1, l2, .int x], [])) dz106_6 rfl rfl rfl
theorem dz106_7 : decode (z_code 106) 7 = .ok (.iload_n 3, 1) := by decide +kernel
theorem u106_7 : zEv sc 106 7 [l0, l1, l2, .int x] [] h Q ↔ zEv sc 106 8 [l0, l1, l2, .int x] [.int x] h Q := zE_pure (q := (8, [l0, l1, l2, .int x], [.int x])) dz106_7 rfl rfl rfl
theorem dz106_8 : decode (z_code 106) 8 = .ok (.aload_n 0, 1) := by decide +kernel
theorem u106_8 : zEv sc 106 8 [.ref a, l1, l2, l3] [t0] h Q ↔ zEv sc 106 9 [.ref a, l1, l2, l3] [.ref a, t0] h Q := zE_pure (q := (9, [.ref a, l1, l2, l3], [.ref a, t0])) dz106_8 rfl rfl rfl
theorem dz106_9 : decode (z_code 106) 9 = .ok (.iload_n 1, 1) := by decide +kernel
theorem u106_9 : zEv sc 106 9 [l0, .int x, l2, l3] [t0, t1] h Q ↔ zEv sc 106 10 [l0, .int x, l2, l3] [.int x, t0, t1] h Q := zE_pure (q := (10, [l0, .int x, l2, l3], [.int x, t0, t1])) dz106_9 rfl rfl rfl
theorem dz106_10 : decode (z_code 106) 10 = .ok (.invokevirtual 58, 3) := by decide +kernel
theorem u106_10 (ho : zO a 10) : zEv sc 106 10 [l0, l1, l2, l3] [.int z0, .ref a, t0] (zst p iv) Q ↔ zEv sc 101 0 [.ref a, .int z0] [] (zst p iv) (fun r h9 => zEv sc 106 13 [l0, l1, l2, l3] (r.toList ++ [t0]) h9 Q) := zE_call (kd := 0) (na := 2) (nr := 1) (as := [.ref a, .int z0]) (rest := [t0]) (Or.inl ⟨rfl, rfl⟩) dz106_10 (by decide +kernel : z_lk2 zCT (z_cls 106) 58 = some (101, 0, 776)) (fun z => by cases z) rfl rfl rfl (by decide +kernel) rfl (Or.inr (zE_rc ho))
theorem dz106_13 : decode (z_code 106) 13 = .ok (.if_icmp .ge 22, 3) := by decide +kernel
theorem u106_13 : zEv sc 106 13 [l0, l1, l2, l3] [.int x2, .int x1] h Q ↔ (if x2 ≤ x1 then zEv sc 106 35 [l0, l1, l2, l3] [] h Q else zEv sc 106 16 [l0, l1, l2, l3] [] h Q) := zE_icP (P := x2 ≤ x1) inferInstance 35 dz106_13 rfl rfl
theorem dz106_16 : decode (z_code 106) 16 = .ok (.aload_n 0, 1) := by decide +kernel
theorem u106_16 : zEv sc 106 16 [.ref a, l1, l2, l3] [] h Q ↔ zEv sc 106 17 [.ref a, l1, l2, l3] [.ref a] h Q := zE_pure (q := (17, [.ref a, l1, l2, l3], [.ref a])) dz106_16 rfl rfl rfl
theorem dz106_17 : decode (z_code 106) 17 = .ok (.iload_n 1, 1) := by decide +kernel
theorem u106_17 : zEv sc 106 17 [l0, .int x, l2, l3] [t0] h Q ↔ zEv sc 106 18 [l0, .int x, l2, l3] [.int x, t0] h Q := zE_pure (q := (18, [l0, .int x, l2, l3], [.int x, t0])) dz106_17 rfl rfl rfl
theorem dz106_18 : decode (z_code 106) 18 = .ok (.iload_n 3, 1) := by decide +kernel
theorem u106_18 : zEv sc 106 18 [l0, l1, l2, .int x] [t0, t1] h Q ↔ zEv sc 106 19 [l0, l1, l2, .int x] [.int x, t0, t1] h Q := zE_pure (q := (19, [l0, l1, l2, .int x], [.int x, t0, t1])) dz106_18 rfl rfl rfl
theorem dz106_19 : decode (z_code 106) 19 = .ok (.invokevirtual 64, 3) := by decide +kernel
theorem u106_19 (ho : zO a 10) : zEv sc 106 19 [l0, l1, l2, l3] [.int z1, .int z0, .ref a] (zst p iv) Q ↔ zEv sc 102 0 [.ref a, .int z0, .int z1] [] (zst p iv) (fun r h9 => zEv sc 106 22 [l0, l1, l2, l3] (r.toList ++ []) h9 Q) := zE_call (kd := 0) (na := 3) (nr := 0) (as := [.ref a, .int z0, .int z1]) (rest := []) (Or.inl ⟨rfl, rfl⟩) dz106_19 (by decide +kernel : z_lk2 zCT (z_cls 106) 64 = some (102, 0, 780)) (fun z => by cases z) rfl rfl rfl (by decide +kernel) rfl (Or.inr (zE_rc ho))
theorem dz106_22 : decode (z_code 106) 22 = .ok (.iload_n 2, 1) := by decide +kernel
theorem u106_22 : zEv sc 106 22 [l0, l1, .int x, l3] [t0] h Q ↔ zEv sc 106 23 [l0, l1, .int x, l3] [.int x, t0] h Q := zE_pure (q := (23, [l0, l1, .int x, l3], [.int x, t0])) dz106_22 rfl rfl rfl
theorem dz106_23 : decode (z_code 106) 23 = .ok (.if_icmp .ne 12, 3) := by decide +kernel
theorem u106_23 : zEv sc 106 23 [l0, l1, l2, l3] [.int x2, .int x1] h Q ↔ (if ¬ x1 = x2 then zEv sc 106 35 [l0, l1, l2, l3] [] h Q else zEv sc 106 26 [l0, l1, l2, l3] [] h Q) := zE_icP (P := ¬ x1 = x2) inferInstance 35 dz106_23 rfl rfl
theorem dz106_26 : decode (z_code 106) 26 = .ok (.aload_n 0, 1) := by decide +kernel
theorem u106_26 : zEv sc 106 26 [.ref a, l1, l2, l3] [] h Q ↔ zEv sc 106 27 [.ref a, l1, l2, l3] [.ref a] h Q := zE_pure (q := (27, [.ref a, l1, l2, l3], [.ref a])) dz106_26 rfl rfl rfl
theorem dz106_27 : decode (z_code 106) 27 = .ok (.iload_n 1, 1) := by decide +kernel
theorem u106_27 : zEv sc 106 27 [l0, .int x, l2, l3] [t0] h Q ↔ zEv sc 106 28 [l0, .int x, l2, l3] [.int x, t0] h Q := zE_pure (q := (28, [l0, .int x, l2, l3], [.int x, t0])) dz106_27 rfl rfl rfl
theorem dz106_28 : decode (z_code 106) 28 = .ok (.iload_n 3, 1) := by decide +kernel
theorem u106_28 : zEv sc 106 28 [l0, l1, l2, .int x] [t0, t1] h Q ↔ zEv sc 106 29 [l0, l1, l2, .int x] [.int x, t0, t1] h Q := zE_pure (q := (29, [l0, l1, l2, .int x], [.int x, t0, t1])) dz106_28 rfl rfl rfl
theorem dz106_29 : decode (z_code 106) 29 = .ok (.invokevirtual 61, 3) := by decide +kernel
theorem u106_29 (ho : zO a 10) : zEv sc 106 29 [l0, l1, l2, l3] [.int z1, .int z0, .ref a] (zst p iv) Q ↔ zEv sc 103 0 [.ref a, .int z0, .int z1] [] (zst p iv) (fun r h9 => zEv sc 106 32 [l0, l1, l2, l3] (r.toList ++ []) h9 Q) := zE_call (kd := 0) (na := 3) (nr := 0) (as := [.ref a, .int z0, .int z1]) (rest := []) (Or.inl ⟨rfl, rfl⟩) dz106_29 (by decide +kernel : z_lk2 zCT (z_cls 106) 61 = some (103, 0, 824)) (fun z => by cases z) rfl rfl rfl (by decide +kernel) rfl (Or.inr (zE_rc ho))
theorem dz106_32 : decode (z_code 106) 32 = .ok (.goto 4, 3) := by decide +kernel
theorem u106_32 : zEv sc 106 32 [l0, l1, l2, l3] [t0] h Q ↔ zEv sc 106 36 [l0, l1, l2, l3] [t0] h Q := zE_go 36 dz106_32 rfl
theorem dz106_36 : decode (z_code 106) 36 = .ok (.ireturn, 1) := by decide +kernel
theorem u106_36 : zEv sc 106 36 [l0, l1, l2, l3] [.int x] h Q ↔ Q (some (.int x)) h := zE_ri dz106_36 (by decide +kernel)
theorem dz106_35 : decode (z_code 106) 35 = .ok (.iconst 0, 1) := by decide +kernel
theorem u106_35 : zEv sc 106 35 [l0, l1, l2, l3] [] h Q ↔ zEv sc 106 36 [l0, l1, l2, l3] [.int 0] h Q := zE_iconst dz106_35 (by decide +kernel)
/-! method 107: FieldMixturesModel.drops(II)V -/
theorem dz107_0 : decode (z_code 107) 0 = .ok (.iload_n 1, 1) := by decide +kernel
theorem u107_0 : zEv sc 107 0 [l0, .int x, l2, l3, l4] [] h Q ↔ zEv sc 107 1 [l0, .int x, l2, l3, l4] [.int x] h Q := zE_pure (q := (1, [l0, .int x, l2, l3, l4], [.int x])) dz107_0 rfl rfl rfl
theorem dz107_1 : decode (z_code 107) 1 = .ok (.invokestatic 54, 3) := by decide +kernel
theorem u107_1 : zEv sc 107 1 [l0, l1, l2, l3, l4] [.int z0] h Q ↔ zEv sc 100 0 [.int z0] [] h (fun r h9 => zEv sc 107 4 [l0, l1, l2, l3, l4] (r.toList ++ []) h9 Q) := zE_call (kd := 1) (na := 1) (nr := 0) (as := [.int z0]) (rest := []) (Or.inr ⟨rfl, rfl⟩) dz107_1 (by decide +kernel : z_lk2 zCT (z_cls 107) 54 = some (100, 0, 741)) (fun _ => by decide +kernel) rfl rfl rfl (by decide +kernel) rfl (Or.inl rfl)
theorem dz107_4 : decode (z_code 107) 4 = .ok (.istore_n 3, 1) := by decide +kernel
theorem u107_4 : zEv sc 107 4 [l0, l1, l2, l3, l4] [.int x] h Q ↔ zEv sc 107 5 [l0, l1, l2, .int x, l4] [] h Q := zE_pure (q := (5, [l0, l1, l2, .int x, l4], [])) dz107_4 rfl rfl rfl
theorem dz107_5 : decode (z_code 107) 5 = .ok (.aload_n 0, 1) := by decide +kernel
theorem u107_5 : zEv sc 107 5 [.ref a, l1, l2, l3, l4] [] h Q ↔ zEv sc 107 6 [.ref a, l1, l2, l3, l4] [.ref a] h Q := zE_pure (q := (6, [.ref a, l1, l2, l3, l4], [.ref a])) dz107_5 rfl rfl rfl
theorem dz107_6 : decode (z_code 107) 6 = .ok (.getfield 7, 3) := by decide +kernel
theorem u107_6 (ho : zO a 10) : zEv sc 107 6 [l0, l1, l2, l3, l4] [.ref a] (zst p iv) Q ↔ zRef (zRV p a 0) (fun j => zEv sc 107 9 [l0, l1, l2, l3, l4] [.ref j] (zst p iv) Q) := zE_gfR dz107_6 (by decide +kernel : z_lk3 zFT (z_cls 107) 7 = some (10, 0, 0, 677)) (by decide +kernel) ho
theorem dz107_9 : decode (z_code 107) 9 = .ok (.iload_n 3, 1) := by decide +kernel
theorem u107_9 : zEv sc 107 9 [l0, l1, l2, .int x, l4] [t0] h Q ↔ zEv sc 107 10 [l0, l1, l2, .int x, l4] [.int x, t0] h Q := zE_pure (q := (10, [l0, l1, l2, .int x, l4], [.int x, t0])) dz107_9 rfl rfl rfl
theorem dz107_10 : decode (z_code 107) 10 = .ok (.dup2, 1) := by decide +kernel
theorem u107_10 : zEv sc 107 10 [l0, l1, l2, l3, l4] [v1, v2] h Q ↔ zEv sc 107 11 [l0, l1, l2, l3, l4] [v1, v2, v1, v2] h Q := zE_pure (q := (11, [l0, l1, l2, l3, l4], [v1, v2, v1, v2])) dz107_10 rfl rfl rfl
theorem dz107_11 : decode (z_code 107) 11 = .ok (.iaload, 1) := by decide +kernel
theorem u107_11 (ho : zO a 100) : zEv sc 107 11 [l0, l1, l2, l3, l4] [.int x, .ref a, t0, t1] (zst p iv) Q ↔ (vp_in x (zLn a) ∧ zEv sc 107 12 [l0, l1, l2, l3, l4] [.int (iv a x.toNatClampNeg), t0, t1] (zst p iv) Q) := zE_ald (Or.inl ⟨rfl, rfl⟩) dz107_11 ho
theorem dz107_12 : decode (z_code 107) 12 = .ok (.iconst 1, 1) := by decide +kernel
theorem u107_12 : zEv sc 107 12 [l0, l1, l2, l3, l4] [t0, t1, t2] h Q ↔ zEv sc 107 13 [l0, l1, l2, l3, l4] [.int 1, t0, t1, t2] h Q := zE_iconst dz107_12 (by decide +kernel)
theorem dz107_13 : decode (z_code 107) 13 = .ok (.isub, 1) := by decide +kernel
theorem u107_13 : zEv sc 107 13 [l0, l1, l2, l3, l4] [.int x2, .int x1, t0, t1] h Q ↔ zEv sc 107 14 [l0, l1, l2, l3, l4] [.int (x1 - x2), t0, t1] h Q := zE_pure (q := (14, [l0, l1, l2, l3, l4], [.int (x1 - x2), t0, t1])) dz107_13 rfl rfl rfl
theorem dz107_14 : decode (z_code 107) 14 = .ok (.iastore, 1) := by decide +kernel
theorem u107_14 (ho : zO a 100) : zEv sc 107 14 [l0, l1, l2, l3, l4] [.int x2, .int x1, .ref a] (zst p iv) Q ↔ (vp_in x1 (zLn a) ∧ zEv sc 107 15 [l0, l1, l2, l3, l4] [] (zst p (w2 iv a x1.toNatClampNeg x2)) Q) := zE_ast (Or.inl ⟨rfl, rfl, rfl⟩) dz107_14 ho
theorem dz107_15 : decode (z_code 107) 15 = .ok (.iconst 2, 1) := by decide +kernel
theorem u107_15 : zEv sc 107 15 [l0, l1, l2, l3, l4] [] h Q ↔ zEv sc 107 16 [l0, l1, l2, l3, l4] [.int 2] h Q := zE_iconst dz107_15 (by decide +kernel)
theorem dz107_16 : decode (z_code 107) 16 = .ok (.iload_n 2, 1) := by decide +kernel
theorem u107_16 : zEv sc 107 16 [l0, l1, .int x, l3, l4] [t0] h Q ↔ zEv sc 107 17 [l0, l1, .int x, l3, l4] [.int x, t0] h Q := zE_pure (q := (17, [l0, l1, .int x, l3, l4], [.int x, t0])) dz107_16 rfl rfl rfl
theorem dz107_17 : decode (z_code 107) 17 = .ok (.imul, 1) := by decide +kernel
theorem u107_17 : zEv sc 107 17 [l0, l1, l2, l3, l4] [.int x2, .int x1] h Q ↔ zEv sc 107 18 [l0, l1, l2, l3, l4] [.int (x1 * x2)] h Q := zE_pure (q := (18, [l0, l1, l2, l3, l4], [.int (x1 * x2)])) dz107_17 rfl rfl rfl
theorem dz107_18 : decode (z_code 107) 18 = .ok (.iconst 1, 1) := by decide +kernel
theorem u107_18 : zEv sc 107 18 [l0, l1, l2, l3, l4] [t0] h Q ↔ zEv sc 107 19 [l0, l1, l2, l3, l4] [.int 1, t0] h Q := zE_iconst dz107_18 (by decide +kernel)
theorem dz107_19 : decode (z_code 107) 19 = .ok (.iadd, 1) := by decide +kernel
theorem u107_19 : zEv sc 107 19 [l0, l1, l2, l3, l4] [.int x2, .int x1] h Q ↔ zEv sc 107 20 [l0, l1, l2, l3, l4] [.int (x1 + x2)] h Q := zE_pure (q := (20, [l0, l1, l2, l3, l4], [.int (x1 + x2)])) dz107_19 rfl rfl rfl
theorem dz107_20 : decode (z_code 107) 20 = .ok (.istore 4, 2) := by decide +kernel
theorem u107_20 : zEv sc 107 20 [l0, l1, l2, l3, l4] [.int x] h Q ↔ zEv sc 107 22 [l0, l1, l2, l3, .int x] [] h Q := zE_pure (q := (22, [l0, l1, l2, l3, .int x], [])) dz107_20 rfl rfl rfl
theorem dz107_22 : decode (z_code 107) 22 = .ok (.iload 4, 2) := by decide +kernel
theorem u107_22 : zEv sc 107 22 [l0, l1, l2, l3, .int x] [] h Q ↔ zEv sc 107 24 [l0, l1, l2, l3, .int x] [.int x] h Q := zE_pure (q := (24, [l0, l1, l2, l3, .int x], [.int x])) dz107_22 rfl rfl rfl
theorem dz107_24 : decode (z_code 107) 24 = .ok (.iconst 2, 1) := by decide +kernel
theorem u107_24 : zEv sc 107 24 [l0, l1, l2, l3, l4] [t0] h Q ↔ zEv sc 107 25 [l0, l1, l2, l3, l4] [.int 2, t0] h Q := zE_iconst dz107_24 (by decide +kernel)
theorem dz107_25 : decode (z_code 107) 25 = .ok (.aload_n 0, 1) := by decide +kernel
theorem u107_25 : zEv sc 107 25 [.ref a, l1, l2, l3, l4] [t0, t1] h Q ↔ zEv sc 107 26 [.ref a, l1, l2, l3, l4] [.ref a, t0, t1] h Q := zE_pure (q := (26, [.ref a, l1, l2, l3, l4], [.ref a, t0, t1])) dz107_25 rfl rfl rfl
theorem dz107_26 : decode (z_code 107) 26 = .ok (.getfield 7, 3) := by decide +kernel
theorem u107_26 (ho : zO a 10) : zEv sc 107 26 [l0, l1, l2, l3, l4] [.ref a, t0, t1] (zst p iv) Q ↔ zRef (zRV p a 0) (fun j => zEv sc 107 29 [l0, l1, l2, l3, l4] [.ref j, t0, t1] (zst p iv) Q) := zE_gfR dz107_26 (by decide +kernel : z_lk3 zFT (z_cls 107) 7 = some (10, 0, 0, 677)) (by decide +kernel) ho
theorem dz107_29 : decode (z_code 107) 29 = .ok (.iload_n 3, 1) := by decide +kernel
theorem u107_29 : zEv sc 107 29 [l0, l1, l2, .int x, l4] [t0, t1, t2] h Q ↔ zEv sc 107 30 [l0, l1, l2, .int x, l4] [.int x, t0, t1, t2] h Q := zE_pure (q := (30, [l0, l1, l2, .int x, l4], [.int x, t0, t1, t2])) dz107_29 rfl rfl rfl
theorem dz107_30 : decode (z_code 107) 30 = .ok (.iaload, 1) := by decide +kernel
theorem u107_30 (ho : zO a 100) : zEv sc 107 30 [l0, l1, l2, l3, l4] [.int x, .ref a, t0, t1] (zst p iv) Q ↔ (vp_in x (zLn a) ∧ zEv sc 107 31 [l0, l1, l2, l3, l4] [.int (iv a x.toNatClampNeg), t0, t1] (zst p iv) Q) := zE_ald (Or.inl ⟨rfl, rfl⟩) dz107_30 ho
theorem dz107_31 : decode (z_code 107) 31 = .ok (.imul, 1) := by decide +kernel
theorem u107_31 : zEv sc 107 31 [l0, l1, l2, l3, l4] [.int x2, .int x1, t0] h Q ↔ zEv sc 107 32 [l0, l1, l2, l3, l4] [.int (x1 * x2), t0] h Q := zE_pure (q := (32, [l0, l1, l2, l3, l4], [.int (x1 * x2), t0])) dz107_31 rfl rfl rfl
theorem dz107_32 : decode (z_code 107) 32 = .ok (.iconst 1, 1) := by decide +kernel
theorem u107_32 : zEv sc 107 32 [l0, l1, l2, l3, l4] [t0, t1] h Q ↔ zEv sc 107 33 [l0, l1, l2, l3, l4] [.int 1, t0, t1] h Q := zE_iconst dz107_32 (by decide +kernel)
theorem dz107_33 : decode (z_code 107) 33 = .ok (.iadd, 1) := by decide +kernel
theorem u107_33 : zEv sc 107 33 [l0, l1, l2, l3, l4] [.int x2, .int x1, t0] h Q ↔ zEv sc 107 34 [l0, l1, l2, l3, l4] [.int (x1 + x2), t0] h Q := zE_pure (q := (34, [l0, l1, l2, l3, l4], [.int (x1 + x2), t0])) dz107_33 rfl rfl rfl
theorem dz107_34 : decode (z_code 107) 34 = .ok (.if_icmp .ge 29, 3) := by decide +kernel
theorem u107_34 : zEv sc 107 34 [l0, l1, l2, l3, l4] [.int x2, .int x1] h Q ↔ (if x2 ≤ x1 then zEv sc 107 63 [l0, l1, l2, l3, l4] [] h Q else zEv sc 107 37 [l0, l1, l2, l3, l4] [] h Q) := zE_icP (P := x2 ≤ x1) inferInstance 63 dz107_34 rfl rfl
theorem dz107_37 : decode (z_code 107) 37 = .ok (.aload_n 0, 1) := by decide +kernel
theorem u107_37 : zEv sc 107 37 [.ref a, l1, l2, l3, l4] [] h Q ↔ zEv sc 107 38 [.ref a, l1, l2, l3, l4] [.ref a] h Q := zE_pure (q := (38, [.ref a, l1, l2, l3, l4], [.ref a])) dz107_37 rfl rfl rfl
theorem dz107_38 : decode (z_code 107) 38 = .ok (.getfield 7, 3) := by decide +kernel
theorem u107_38 (ho : zO a 10) : zEv sc 107 38 [l0, l1, l2, l3, l4] [.ref a] (zst p iv) Q ↔ zRef (zRV p a 0) (fun j => zEv sc 107 41 [l0, l1, l2, l3, l4] [.ref j] (zst p iv) Q) := zE_gfR dz107_38 (by decide +kernel : z_lk3 zFT (z_cls 107) 7 = some (10, 0, 0, 677)) (by decide +kernel) ho
theorem dz107_41 : decode (z_code 107) 41 = .ok (.iload_n 3, 1) := by decide +kernel
theorem u107_41 : zEv sc 107 41 [l0, l1, l2, .int x, l4] [t0] h Q ↔ zEv sc 107 42 [l0, l1, l2, .int x, l4] [.int x, t0] h Q := zE_pure (q := (42, [l0, l1, l2, .int x, l4], [.int x, t0])) dz107_41 rfl rfl rfl
theorem dz107_42 : decode (z_code 107) 42 = .ok (.iload 4, 2) := by decide +kernel
theorem u107_42 : zEv sc 107 42 [l0, l1, l2, l3, .int x] [t0, t1] h Q ↔ zEv sc 107 44 [l0, l1, l2, l3, .int x] [.int x, t0, t1] h Q := zE_pure (q := (44, [l0, l1, l2, l3, .int x], [.int x, t0, t1])) dz107_42 rfl rfl rfl
theorem dz107_44 : decode (z_code 107) 44 = .ok (.iadd, 1) := by decide +kernel
theorem u107_44 : zEv sc 107 44 [l0, l1, l2, l3, l4] [.int x2, .int x1, t0] h Q ↔ zEv sc 107 45 [l0, l1, l2, l3, l4] [.int (x1 + x2), t0] h Q := zE_pure (q := (45, [l0, l1, l2, l3, l4], [.int (x1 + x2), t0])) dz107_44 rfl rfl rfl
theorem dz107_45 : decode (z_code 107) 45 = .ok (.aload_n 0, 1) := by decide +kernel
theorem u107_45 : zEv sc 107 45 [.ref a, l1, l2, l3, l4] [t0, t1] h Q ↔ zEv sc 107 46 [.ref a, l1, l2, l3, l4] [.ref a, t0, t1] h Q := zE_pure (q := (46, [.ref a, l1, l2, l3, l4], [.ref a, t0, t1])) dz107_45 rfl rfl rfl
theorem dz107_46 : decode (z_code 107) 46 = .ok (.getfield 7, 3) := by decide +kernel
theorem u107_46 (ho : zO a 10) : zEv sc 107 46 [l0, l1, l2, l3, l4] [.ref a, t0, t1] (zst p iv) Q ↔ zRef (zRV p a 0) (fun j => zEv sc 107 49 [l0, l1, l2, l3, l4] [.ref j, t0, t1] (zst p iv) Q) := zE_gfR dz107_46 (by decide +kernel : z_lk3 zFT (z_cls 107) 7 = some (10, 0, 0, 677)) (by decide +kernel) ho
theorem dz107_49 : decode (z_code 107) 49 = .ok (.iload_n 3, 1) := by decide +kernel
theorem u107_49 : zEv sc 107 49 [l0, l1, l2, .int x, l4] [t0, t1, t2] h Q ↔ zEv sc 107 50 [l0, l1, l2, .int x, l4] [.int x, t0, t1, t2] h Q := zE_pure (q := (50, [l0, l1, l2, .int x, l4], [.int x, t0, t1, t2])) dz107_49 rfl rfl rfl
theorem dz107_50 : decode (z_code 107) 50 = .ok (.iload 4, 2) := by decide +kernel
theorem u107_50 : zEv sc 107 50 [l0, l1, l2, l3, .int x] [t0, t1, t2, t3] h Q ↔ zEv sc 107 52 [l0, l1, l2, l3, .int x] [.int x, t0, t1, t2, t3] h Q := zE_pure (q := (52, [l0, l1, l2, l3, .int x], [.int x, t0, t1, t2, t3])) dz107_50 rfl rfl rfl
theorem dz107_52 : decode (z_code 107) 52 = .ok (.iadd, 1) := by decide +kernel
theorem u107_52 : zEv sc 107 52 [l0, l1, l2, l3, l4] [.int x2, .int x1, t0, t1, t2] h Q ↔ zEv sc 107 53 [l0, l1, l2, l3, l4] [.int (x1 + x2), t0, t1, t2] h Q := zE_pure (q := (53, [l0, l1, l2, l3, l4], [.int (x1 + x2), t0, t1, t2])) dz107_52 rfl rfl rfl
theorem dz107_53 : decode (z_code 107) 53 = .ok (.iconst 2, 1) := by decide +kernel
theorem u107_53 : zEv sc 107 53 [l0, l1, l2, l3, l4] [t0, t1, t2, t3] h Q ↔ zEv sc 107 54 [l0, l1, l2, l3, l4] [.int 2, t0, t1, t2, t3] h Q := zE_iconst dz107_53 (by decide +kernel)
theorem dz107_54 : decode (z_code 107) 54 = .ok (.iadd, 1) := by decide +kernel
theorem u107_54 : zEv sc 107 54 [l0, l1, l2, l3, l4] [.int x2, .int x1, t0, t1, t2] h Q ↔ zEv sc 107 55 [l0, l1, l2, l3, l4] [.int (x1 + x2), t0, t1, t2] h Q := zE_pure (q := (55, [l0, l1, l2, l3, l4], [.int (x1 + x2), t0, t1, t2])) dz107_54 rfl rfl rfl
theorem dz107_55 : decode (z_code 107) 55 = .ok (.iaload, 1) := by decide +kernel
theorem u107_55 (ho : zO a 100) : zEv sc 107 55 [l0, l1, l2, l3, l4] [.int x, .ref a, t0, t1] (zst p iv) Q ↔ (vp_in x (zLn a) ∧ zEv sc 107 56 [l0, l1, l2, l3, l4] [.int (iv a x.toNatClampNeg), t0, t1] (zst p iv) Q) := zE_ald (Or.inl ⟨rfl, rfl⟩) dz107_55 ho
theorem dz107_56 : decode (z_code 107) 56 = .ok (.iastore, 1) := by decide +kernel
theorem u107_56 (ho : zO a 100) : zEv sc 107 56 [l0, l1, l2, l3, l4] [.int x2, .int x1, .ref a] (zst p iv) Q ↔ (vp_in x1 (zLn a) ∧ zEv sc 107 57 [l0, l1, l2, l3, l4] [] (zst p (w2 iv a x1.toNatClampNeg x2)) Q) := zE_ast (Or.inl ⟨rfl, rfl, rfl⟩) dz107_56 ho
theorem dz107_57 : decode (z_code 107) 57 = .ok (.iinc 4 1, 3) := by decide +kernel
theorem u107_57 : zEv sc 107 57 [l0, l1, l2, l3, .int x] [] h Q ↔ zEv sc 107 60 [l0, l1, l2, l3, .int (x + 1)] [] h Q := zE_iinc (ls2 := [l0, l1, l2, l3, .int (x + 1)]) dz107_57 (by decide +kernel) rfl (by simp) rfl
theorem dz107_60 : decode (z_code 107) 60 = .ok (.goto (-38), 3) := by decide +kernel
theorem u107_60 : zEv sc 107 60 [l0, l1, l2, l3, l4] [] h Q ↔ zEv sc 107 22 [l0, l1, l2, l3, l4] [] h Q := zE_go 22 dz107_60 rfl
theorem dz107_63 : decode (z_code 107) 63 = .ok (.return_, 1) := by decide +kernel
theorem u107_63 : zEv sc 107 63 [l0, l1, l2, l3, l4] [] h Q ↔ Q none h := zE_rv dz107_63 (by decide +kernel)
/-! method 108: FieldMixturesModel.lays(III)I -/
theorem dz108_0 : decode (z_code 108) 0 = .ok (.aload_n 0, 1) := by decide +kernel
theorem u108_0 : zEv sc 108 0 [.ref a, l1, l2, l3, l4, l5, l6, l7] [] h Q ↔ zEv sc 108 1 [.ref a, l1, l2, l3, l4, l5, l6, l7] [.ref a] h Q := zE_pure (q := (1, [.ref a, l1, l2, l3, l4, l5, l6, l7], [.ref a])) dz108_0 rfl rfl rfl
theorem dz108_1 : decode (z_code 108) 1 = .ok (.iload_n 1, 1) := by decide +kernel
theorem u108_1 : zEv sc 108 1 [l0, .int x, l2, l3, l4, l5, l6, l7] [t0] h Q ↔ zEv sc 108 2 [l0, .int x, l2, l3, l4, l5, l6, l7] [.int x, t0] h Q := zE_pure (q := (2, [l0, .int x, l2, l3, l4, l5, l6, l7], [.int x, t0])) dz108_1 rfl rfl rfl
theorem dz108_2 : decode (z_code 108) 2 = .ok (.iload_n 2, 1) := by decide +kernel
theorem u108_2 : zEv sc 108 2 [l0, l1, .int x, l3, l4, l5, l6, l7] [t0, t1] h Q ↔ zEv sc 108 3 [l0, l1, .int x, l3, l4, l5, l6, l7] [.int x, t0, t1] h Q := zE_pure (q := (3, [l0, l1, .int x, l3, l4, l5, l6, l7], [.int x, t0, t1])) dz108_2 rfl rfl rfl
theorem dz108_3 : decode (z_code 108) 3 = .ok (.invokevirtual 70, 3) := by decide +kernel
theorem u108_3 (ho : zO a 10) : zEv sc 108 3 [l0, l1, l2, l3, l4, l5, l6, l7] [.int z1, .int z0, .ref a] (zst p iv) Q ↔ zEv sc 106 0 [.ref a, .int z0, .int z1, .null] [] (zst p iv) (fun r h9 => zEv sc 108 6 [l0, l1, l2, l3, l4, l5, l6, l7] (r.toList ++ []) h9 Q) := zE_call (kd := 0) (na := 3) (nr := 0) (as := [.ref a, .int z0, .int z1]) (rest := []) (Or.inl ⟨rfl, rfl⟩) dz108_3 (by decide +kernel : z_lk2 zCT (z_cls 108) 70 = some (106, 0, 816)) (fun z => by cases z) rfl rfl rfl (by decide +kernel) rfl (Or.inr (zE_rc ho))
theorem dz108_6 : decode (z_code 108) 6 = .ok (.istore 4, 2) := by decide +kernel
theorem u108_6 : zEv sc 108 6 [l0, l1, l2, l3, l4, l5, l6, l7] [.int x] h Q ↔ zEv sc 108 8 [l0, l1, l2, l3, .int x, l5, l6, l7] [] h Q := zE_pure (q := (8, [l0, l1, l2, l3, .int x, l5, l6, l7], [])) dz108_6 rfl rfl rfl
theorem dz108_8 : decode (z_code 108) 8 = .ok (.iload 4, 2) := by decide +kernel
theorem u108_8 : zEv sc 108 8 [l0, l1, l2, l3, .int x, l5, l6, l7] [] h Q ↔ zEv sc 108 10 [l0, l1, l2, l3, .int x, l5, l6, l7] [.int x] h Q := zE_pure (q := (10, [l0, l1, l2, l3, .int x, l5, l6, l7], [.int x])) dz108_8 rfl rfl rfl
theorem dz108_10 : decode (z_code 108) 10 = .ok (.ifCond .ne 16, 3) := by decide +kernel
theorem u108_10 : zEv sc 108 10 [l0, l1, l2, l3, l4, l5, l6, l7] [.int x] h Q ↔ (if ¬ x = 0 then zEv sc 108 26 [l0, l1, l2, l3, l4, l5, l6, l7] [] h Q else zEv sc 108 13 [l0, l1, l2, l3, l4, l5, l6, l7] [] h Q) := zE_ifP (P := ¬ x = 0) inferInstance 26 dz108_10 rfl rfl
theorem dz108_13 : decode (z_code 108) 13 = .ok (.aload_n 0, 1) := by decide +kernel
theorem u108_13 : zEv sc 108 13 [.ref a, l1, l2, l3, l4, l5, l6, l7] [] h Q ↔ zEv sc 108 14 [.ref a, l1, l2, l3, l4, l5, l6, l7] [.ref a] h Q := zE_pure (q := (14, [.ref a, l1, l2, l3, l4, l5, l6, l7], [.ref a])) dz108_13 rfl rfl rfl
theorem dz108_14 : decode (z_code 108) 14 = .ok (.iload_n 1, 1) := by decide +kernel
theorem u108_14 : zEv sc 108 14 [l0, .int x, l2, l3, l4, l5, l6, l7] [t0] h Q ↔ zEv sc 108 15 [l0, .int x, l2, l3, l4, l5, l6, l7] [.int x, t0] h Q := zE_pure (q := (15, [l0, .int x, l2, l3, l4, l5, l6, l7], [.int x, t0])) dz108_14 rfl rfl rfl
theorem dz108_15 : decode (z_code 108) 15 = .ok (.invokevirtual 58, 3) := by decide +kernel
theorem u108_15 (ho : zO a 10) : zEv sc 108 15 [l0, l1, l2, l3, l4, l5, l6, l7] [.int z0, .ref a] (zst p iv) Q ↔ zEv sc 101 0 [.ref a, .int z0] [] (zst p iv) (fun r h9 => zEv sc 108 18 [l0, l1, l2, l3, l4, l5, l6, l7] (r.toList ++ []) h9 Q) := zE_call (kd := 0) (na := 2) (nr := 0) (as := [.ref a, .int z0]) (rest := []) (Or.inl ⟨rfl, rfl⟩) dz108_15 (by decide +kernel : z_lk2 zCT (z_cls 108) 58 = some (101, 0, 776)) (fun z => by cases z) rfl rfl rfl (by decide +kernel) rfl (Or.inr (zE_rc ho))
theorem dz108_18 : decode (z_code 108) 18 = .ok (.bipush 12, 2) := by decide +kernel
theorem u108_18 : zEv sc 108 18 [l0, l1, l2, l3, l4, l5, l6, l7] [t0] h Q ↔ zEv sc 108 20 [l0, l1, l2, l3, l4, l5, l6, l7] [.int 12, t0] h Q := zE_bipush dz108_18 (by decide +kernel)
theorem dz108_20 : decode (z_code 108) 20 = .ok (.if_icmp .ne 6, 3) := by decide +kernel
theorem u108_20 : zEv sc 108 20 [l0, l1, l2, l3, l4, l5, l6, l7] [.int x2, .int x1] h Q ↔ (if ¬ x1 = x2 then zEv sc 108 26 [l0, l1, l2, l3, l4, l5, l6, l7] [] h Q else zEv sc 108 23 [l0, l1, l2, l3, l4, l5, l6, l7] [] h Q) := zE_icP (P := ¬ x1 = x2) inferInstance 26 dz108_20 rfl rfl
theorem dz108_23 : decode (z_code 108) 23 = .ok (.ldc 73, 2) := by decide +kernel
theorem u108_23 : zEv sc 108 23 [l0, l1, l2, l3, l4, l5, l6, l7] [] h Q ↔ zEv sc 108 25 [l0, l1, l2, l3, l4, l5, l6, l7] [.int (-1000003)] h Q := zE_ldc (by decide +kernel : z_lkK zKT (z_cls 108) 73 = some ((-1000003), 828)) dz108_23
theorem dz108_25 : decode (z_code 108) 25 = .ok (.ireturn, 1) := by decide +kernel
theorem u108_25 : zEv sc 108 25 [l0, l1, l2, l3, l4, l5, l6, l7] [.int x] h Q ↔ Q (some (.int x)) h := zE_ri dz108_25 (by decide +kernel)
theorem dz108_26 : decode (z_code 108) 26 = .ok (.iload_n 1, 1) := by decide +kernel
theorem u108_26 : zEv sc 108 26 [l0, .int x, l2, l3, l4, l5, l6, l7] [] h Q ↔ zEv sc 108 27 [l0, .int x, l2, l3, l4, l5, l6, l7] [.int x] h Q := zE_pure (q := (27, [l0, .int x, l2, l3, l4, l5, l6, l7], [.int x])) dz108_26 rfl rfl rfl
theorem dz108_27 : decode (z_code 108) 27 = .ok (.invokestatic 54, 3) := by decide +kernel
theorem u108_27 : zEv sc 108 27 [l0, l1, l2, l3, l4, l5, l6, l7] [.int z0] h Q ↔ zEv sc 100 0 [.int z0] [] h (fun r h9 => zEv sc 108 30 [l0, l1, l2, l3, l4, l5, l6, l7] (r.toList ++ []) h9 Q) := zE_call (kd := 1) (na := 1) (nr := 0) (as := [.int z0]) (rest := []) (Or.inr ⟨rfl, rfl⟩) dz108_27 (by decide +kernel : z_lk2 zCT (z_cls 108) 54 = some (100, 0, 741)) (fun _ => by decide +kernel) rfl rfl rfl (by decide +kernel) rfl (Or.inl rfl)
theorem dz108_30 : decode (z_code 108) 30 = .ok (.istore 5, 2) := by decide +kernel
theorem u108_30 : zEv sc 108 30 [l0, l1, l2, l3, l4, l5, l6, l7] [.int x] h Q ↔ zEv sc 108 32 [l0, l1, l2, l3, l4, .int x, l6, l7] [] h Q := zE_pure (q := (32, [l0, l1, l2, l3, l4, .int x, l6, l7], [])) dz108_30 rfl rfl rfl
theorem dz108_32 : decode (z_code 108) 32 = .ok (.aload_n 0, 1) := by decide +kernel
theorem u108_32 : zEv sc 108 32 [.ref a, l1, l2, l3, l4, l5, l6, l7] [] h Q ↔ zEv sc 108 33 [.ref a, l1, l2, l3, l4, l5, l6, l7] [.ref a] h Q := zE_pure (q := (33, [.ref a, l1, l2, l3, l4, l5, l6, l7], [.ref a])) dz108_32 rfl rfl rfl
theorem dz108_33 : decode (z_code 108) 33 = .ok (.iload_n 1, 1) := by decide +kernel
theorem u108_33 : zEv sc 108 33 [l0, .int x, l2, l3, l4, l5, l6, l7] [t0] h Q ↔ zEv sc 108 34 [l0, .int x, l2, l3, l4, l5, l6, l7] [.int x, t0] h Q := zE_pure (q := (34, [l0, .int x, l2, l3, l4, l5, l6, l7], [.int x, t0])) dz108_33 rfl rfl rfl
theorem dz108_34 : decode (z_code 108) 34 = .ok (.iload_n 2, 1) := by decide +kernel
theorem u108_34 : zEv sc 108 34 [l0, l1, .int x, l3, l4, l5, l6, l7] [t0, t1] h Q ↔ zEv sc 108 35 [l0, l1, .int x, l3, l4, l5, l6, l7] [.int x, t0, t1] h Q := zE_pure (q := (35, [l0, l1, .int x, l3, l4, l5, l6, l7], [.int x, t0, t1])) dz108_34 rfl rfl rfl
theorem dz108_35 : decode (z_code 108) 35 = .ok (.invokevirtual 67, 3) := by decide +kernel
theorem u108_35 (ho : zO a 10) : zEv sc 108 35 [l0, l1, l2, l3, l4, l5, l6, l7] [.int z1, .int z0, .ref a] (zst p iv) Q ↔ zEv sc 105 0 [.ref a, .int z0, .int z1, .null] [] (zst p iv) (fun r h9 => zEv sc 108 38 [l0, l1, l2, l3, l4, l5, l6, l7] (r.toList ++ []) h9 Q) := zE_call (kd := 0) (na := 3) (nr := 0) (as := [.ref a, .int z0, .int z1]) (rest := []) (Or.inl ⟨rfl, rfl⟩) dz108_35 (by decide +kernel : z_lk2 zCT (z_cls 108) 67 = some (105, 0, 820)) (fun z => by cases z) rfl rfl rfl (by decide +kernel) rfl (Or.inr (zE_rc ho))
theorem dz108_38 : decode (z_code 108) 38 = .ok (.istore 6, 2) := by decide +kernel
theorem u108_38 : zEv sc 108 38 [l0, l1, l2, l3, l4, l5, l6, l7] [.int x] h Q ↔ zEv sc 108 40 [l0, l1, l2, l3, l4, l5, .int x, l7] [] h Q := zE_pure (q := (40, [l0, l1, l2, l3, l4, l5, .int x, l7], [])) dz108_38 rfl rfl rfl
theorem dz108_40 : decode (z_code 108) 40 = .ok (.iload 4, 2) := by decide +kernel
theorem u108_40 : zEv sc 108 40 [l0, l1, l2, l3, .int x, l5, l6, l7] [] h Q ↔ zEv sc 108 42 [l0, l1, l2, l3, .int x, l5, l6, l7] [.int x] h Q := zE_pure (q := (42, [l0, l1, l2, l3, .int x, l5, l6, l7], [.int x])) dz108_40 rfl rfl rfl
theorem dz108_42 : decode (z_code 108) 42 = .ok (.ifCond .ne 62, 3) := by decide +kernel
theorem u108_42 : zEv sc 108 42 [l0, l1, l2, l3, l4, l5, l6, l7] [.int x] h Q ↔ (if ¬ x = 0 then zEv sc 108 104 [l0, l1, l2, l3, l4, l5, l6, l7] [] h Q else zEv sc 108 45 [l0, l1, l2, l3, l4, l5, l6, l7] [] h Q) := zE_ifP (P := ¬ x = 0) inferInstance 104 dz108_42 rfl rfl
theorem dz108_45 : decode (z_code 108) 45 = .ok (.iconst 2, 1) := by decide +kernel
theorem u108_45 : zEv sc 108 45 [l0, l1, l2, l3, l4, l5, l6, l7] [] h Q ↔ zEv sc 108 46 [l0, l1, l2, l3, l4, l5, l6, l7] [.int 2] h Q := zE_iconst dz108_45 (by decide +kernel)
theorem dz108_46 : decode (z_code 108) 46 = .ok (.aload_n 0, 1) := by decide +kernel
theorem u108_46 : zEv sc 108 46 [.ref a, l1, l2, l3, l4, l5, l6, l7] [t0] h Q ↔ zEv sc 108 47 [.ref a, l1, l2, l3, l4, l5, l6, l7] [.ref a, t0] h Q := zE_pure (q := (47, [.ref a, l1, l2, l3, l4, l5, l6, l7], [.ref a, t0])) dz108_46 rfl rfl rfl
theorem dz108_47 : decode (z_code 108) 47 = .ok (.getfield 7, 3) := by decide +kernel
theorem u108_47 (ho : zO a 10) : zEv sc 108 47 [l0, l1, l2, l3, l4, l5, l6, l7] [.ref a, t0] (zst p iv) Q ↔ zRef (zRV p a 0) (fun j => zEv sc 108 50 [l0, l1, l2, l3, l4, l5, l6, l7] [.ref j, t0] (zst p iv) Q) := zE_gfR dz108_47 (by decide +kernel : z_lk3 zFT (z_cls 108) 7 = some (10, 0, 0, 677)) (by decide +kernel) ho
theorem dz108_50 : decode (z_code 108) 50 = .ok (.iload 5, 2) := by decide +kernel
theorem u108_50 : zEv sc 108 50 [l0, l1, l2, l3, l4, .int x, l6, l7] [t0, t1] h Q ↔ zEv sc 108 52 [l0, l1, l2, l3, l4, .int x, l6, l7] [.int x, t0, t1] h Q := zE_pure (q := (52, [l0, l1, l2, l3, l4, .int x, l6, l7], [.int x, t0, t1])) dz108_50 rfl rfl rfl
theorem dz108_52 : decode (z_code 108) 52 = .ok (.iaload, 1) := by decide +kernel
theorem u108_52 (ho : zO a 100) : zEv sc 108 52 [l0, l1, l2, l3, l4, l5, l6, l7] [.int x, .ref a, t0] (zst p iv) Q ↔ (vp_in x (zLn a) ∧ zEv sc 108 53 [l0, l1, l2, l3, l4, l5, l6, l7] [.int (iv a x.toNatClampNeg), t0] (zst p iv) Q) := zE_ald (Or.inl ⟨rfl, rfl⟩) dz108_52 ho
theorem dz108_53 : decode (z_code 108) 53 = .ok (.imul, 1) := by decide +kernel
theorem u108_53 : zEv sc 108 53 [l0, l1, l2, l3, l4, l5, l6, l7] [.int x2, .int x1] h Q ↔ zEv sc 108 54 [l0, l1, l2, l3, l4, l5, l6, l7] [.int (x1 * x2)] h Q := zE_pure (q := (54, [l0, l1, l2, l3, l4, l5, l6, l7], [.int (x1 * x2)])) dz108_53 rfl rfl rfl
theorem dz108_54 : decode (z_code 108) 54 = .ok (.istore 7, 2) := by decide +kernel
theorem u108_54 : zEv sc 108 54 [l0, l1, l2, l3, l4, l5, l6, l7] [.int x] h Q ↔ zEv sc 108 56 [l0, l1, l2, l3, l4, l5, l6, .int x] [] h Q := zE_pure (q := (56, [l0, l1, l2, l3, l4, l5, l6, .int x], [])) dz108_54 rfl rfl rfl
theorem dz108_56 : decode (z_code 108) 56 = .ok (.iload 7, 2) := by decide +kernel
theorem u108_56 : zEv sc 108 56 [l0, l1, l2, l3, l4, l5, l6, .int x] [] h Q ↔ zEv sc 108 58 [l0, l1, l2, l3, l4, l5, l6, .int x] [.int x] h Q := zE_pure (q := (58, [l0, l1, l2, l3, l4, l5, l6, .int x], [.int x])) dz108_56 rfl rfl rfl
theorem dz108_58 : decode (z_code 108) 58 = .ok (.iconst 2, 1) := by decide +kernel
theorem u108_58 : zEv sc 108 58 [l0, l1, l2, l3, l4, l5, l6, l7] [t0] h Q ↔ zEv sc 108 59 [l0, l1, l2, l3, l4, l5, l6, l7] [.int 2, t0] h Q := zE_iconst dz108_58 (by decide +kernel)
theorem dz108_59 : decode (z_code 108) 59 = .ok (.iload 6, 2) := by decide +kernel
theorem u108_59 : zEv sc 108 59 [l0, l1, l2, l3, l4, l5, .int x, l7] [t0, t1] h Q ↔ zEv sc 108 61 [l0, l1, l2, l3, l4, l5, .int x, l7] [.int x, t0, t1] h Q := zE_pure (q := (61, [l0, l1, l2, l3, l4, l5, .int x, l7], [.int x, t0, t1])) dz108_59 rfl rfl rfl
theorem dz108_61 : decode (z_code 108) 61 = .ok (.imul, 1) := by decide +kernel
theorem u108_61 : zEv sc 108 61 [l0, l1, l2, l3, l4, l5, l6, l7] [.int x2, .int x1, t0] h Q ↔ zEv sc 108 62 [l0, l1, l2, l3, l4, l5, l6, l7] [.int (x1 * x2), t0] h Q := zE_pure (q := (62, [l0, l1, l2, l3, l4, l5, l6, l7], [.int (x1 * x2), t0])) dz108_61 rfl rfl rfl
theorem dz108_62 : decode (z_code 108) 62 = .ok (.if_icmp .le 31, 3) := by decide +kernel
theorem u108_62 : zEv sc 108 62 [l0, l1, l2, l3, l4, l5, l6, l7] [.int x2, .int x1] h Q ↔ (if x1 ≤ x2 then zEv sc 108 93 [l0, l1, l2, l3, l4, l5, l6, l7] [] h Q else zEv sc 108 65 [l0, l1, l2, l3, l4, l5, l6, l7] [] h Q) := zE_icP (P := x1 ≤ x2) inferInstance 93 dz108_62 rfl rfl
theorem dz108_65 : decode (z_code 108) 65 = .ok (.aload_n 0, 1) := by decide +kernel
theorem u108_65 : zEv sc 108 65 [.ref a, l1, l2, l3, l4, l5, l6, l7] [] h Q ↔ zEv sc 108 66 [.ref a, l1, l2, l3, l4, l5, l6, l7] [.ref a] h Q := zE_pure (q := (66, [.ref a, l1, l2, l3, l4, l5, l6, l7], [.ref a])) dz108_65 rfl rfl rfl
theorem dz108_66 : decode (z_code 108) 66 = .ok (.getfield 7, 3) := by decide +kernel
theorem u108_66 (ho : zO a 10) : zEv sc 108 66 [l0, l1, l2, l3, l4, l5, l6, l7] [.ref a] (zst p iv) Q ↔ zRef (zRV p a 0) (fun j => zEv sc 108 69 [l0, l1, l2, l3, l4, l5, l6, l7] [.ref j] (zst p iv) Q) := zE_gfR dz108_66 (by decide +kernel : z_lk3 zFT (z_cls 108) 7 = some (10, 0, 0, 677)) (by decide +kernel) ho
theorem dz108_69 : decode (z_code 108) 69 = .ok (.iload 5, 2) := by decide +kernel
theorem u108_69 : zEv sc 108 69 [l0, l1, l2, l3, l4, .int x, l6, l7] [t0] h Q ↔ zEv sc 108 71 [l0, l1, l2, l3, l4, .int x, l6, l7] [.int x, t0] h Q := zE_pure (q := (71, [l0, l1, l2, l3, l4, .int x, l6, l7], [.int x, t0])) dz108_69 rfl rfl rfl
theorem dz108_71 : decode (z_code 108) 71 = .ok (.iload 7, 2) := by decide +kernel
theorem u108_71 : zEv sc 108 71 [l0, l1, l2, l3, l4, l5, l6, .int x] [t0, t1] h Q ↔ zEv sc 108 73 [l0, l1, l2, l3, l4, l5, l6, .int x] [.int x, t0, t1] h Q := zE_pure (q := (73, [l0, l1, l2, l3, l4, l5, l6, .int x], [.int x, t0, t1])) dz108_71 rfl rfl rfl
theorem dz108_73 : decode (z_code 108) 73 = .ok (.iadd, 1) := by decide +kernel
theorem u108_73 : zEv sc 108 73 [l0, l1, l2, l3, l4, l5, l6, l7] [.int x2, .int x1, t0] h Q ↔ zEv sc 108 74 [l0, l1, l2, l3, l4, l5, l6, l7] [.int (x1 + x2), t0] h Q := zE_pure (q := (74, [l0, l1, l2, l3, l4, l5, l6, l7], [.int (x1 + x2), t0])) dz108_73 rfl rfl rfl
theorem dz108_74 : decode (z_code 108) 74 = .ok (.iconst 2, 1) := by decide +kernel
theorem u108_74 : zEv sc 108 74 [l0, l1, l2, l3, l4, l5, l6, l7] [t0, t1] h Q ↔ zEv sc 108 75 [l0, l1, l2, l3, l4, l5, l6, l7] [.int 2, t0, t1] h Q := zE_iconst dz108_74 (by decide +kernel)
theorem dz108_75 : decode (z_code 108) 75 = .ok (.iadd, 1) := by decide +kernel
theorem u108_75 : zEv sc 108 75 [l0, l1, l2, l3, l4, l5, l6, l7] [.int x2, .int x1, t0] h Q ↔ zEv sc 108 76 [l0, l1, l2, l3, l4, l5, l6, l7] [.int (x1 + x2), t0] h Q := zE_pure (q := (76, [l0, l1, l2, l3, l4, l5, l6, l7], [.int (x1 + x2), t0])) dz108_75 rfl rfl rfl
theorem dz108_76 : decode (z_code 108) 76 = .ok (.aload_n 0, 1) := by decide +kernel
theorem u108_76 : zEv sc 108 76 [.ref a, l1, l2, l3, l4, l5, l6, l7] [t0, t1] h Q ↔ zEv sc 108 77 [.ref a, l1, l2, l3, l4, l5, l6, l7] [.ref a, t0, t1] h Q := zE_pure (q := (77, [.ref a, l1, l2, l3, l4, l5, l6, l7], [.ref a, t0, t1])) dz108_76 rfl rfl rfl
theorem dz108_77 : decode (z_code 108) 77 = .ok (.getfield 7, 3) := by decide +kernel
theorem u108_77 (ho : zO a 10) : zEv sc 108 77 [l0, l1, l2, l3, l4, l5, l6, l7] [.ref a, t0, t1] (zst p iv) Q ↔ zRef (zRV p a 0) (fun j => zEv sc 108 80 [l0, l1, l2, l3, l4, l5, l6, l7] [.ref j, t0, t1] (zst p iv) Q) := zE_gfR dz108_77 (by decide +kernel : z_lk3 zFT (z_cls 108) 7 = some (10, 0, 0, 677)) (by decide +kernel) ho
theorem dz108_80 : decode (z_code 108) 80 = .ok (.iload 5, 2) := by decide +kernel
theorem u108_80 : zEv sc 108 80 [l0, l1, l2, l3, l4, .int x, l6, l7] [t0, t1, t2] h Q ↔ zEv sc 108 82 [l0, l1, l2, l3, l4, .int x, l6, l7] [.int x, t0, t1, t2] h Q := zE_pure (q := (82, [l0, l1, l2, l3, l4, .int x, l6, l7], [.int x, t0, t1, t2])) dz108_80 rfl rfl rfl
theorem dz108_82 : decode (z_code 108) 82 = .ok (.iload 7, 2) := by decide +kernel
theorem u108_82 : zEv sc 108 82 [l0, l1, l2, l3, l4, l5, l6, .int x] [t0, t1, t2, t3] h Q ↔ zEv sc 108 84 [l0, l1, l2, l3, l4, l5, l6, .int x] [.int x, t0, t1, t2, t3] h Q := zE_pure (q := (84, [l0, l1, l2, l3, l4, l5, l6, .int x], [.int x, t0, t1, t2, t3])) dz108_82 rfl rfl rfl
theorem dz108_84 : decode (z_code 108) 84 = .ok (.iadd, 1) := by decide +kernel
theorem u108_84 : zEv sc 108 84 [l0, l1, l2, l3, l4, l5, l6, l7] [.int x2, .int x1, t0, t1, t2] h Q ↔ zEv sc 108 85 [l0, l1, l2, l3, l4, l5, l6, l7] [.int (x1 + x2), t0, t1, t2] h Q := zE_pure (q := (85, [l0, l1, l2, l3, l4, l5, l6, l7], [.int (x1 + x2), t0, t1, t2])) dz108_84 rfl rfl rfl
theorem dz108_85 : decode (z_code 108) 85 = .ok (.iaload, 1) := by decide +kernel
theorem u108_85 (ho : zO a 100) : zEv sc 108 85 [l0, l1, l2, l3, l4, l5, l6, l7] [.int x, .ref a, t0, t1] (zst p iv) Q ↔ (vp_in x (zLn a) ∧ zEv sc 108 86 [l0, l1, l2, l3, l4, l5, l6, l7] [.int (iv a x.toNatClampNeg), t0, t1] (zst p iv) Q) := zE_ald (Or.inl ⟨rfl, rfl⟩) dz108_85 ho
theorem dz108_86 : decode (z_code 108) 86 = .ok (.iastore, 1) := by decide +kernel
theorem u108_86 (ho : zO a 100) : zEv sc 108 86 [l0, l1, l2, l3, l4, l5, l6, l7] [.int x2, .int x1, .ref a] (zst p iv) Q ↔ (vp_in x1 (zLn a) ∧ zEv sc 108 87 [l0, l1, l2, l3, l4, l5, l6, l7] [] (zst p (w2 iv a x1.toNatClampNeg x2)) Q) := zE_ast (Or.inl ⟨rfl, rfl, rfl⟩) dz108_86 ho
theorem dz108_87 : decode (z_code 108) 87 = .ok (.iinc 7 (-1), 3) := by decide +kernel
theorem u108_87 : zEv sc 108 87 [l0, l1, l2, l3, l4, l5, l6, .int x] [] h Q ↔ zEv sc 108 90 [l0, l1, l2, l3, l4, l5, l6, .int (x + (-1))] [] h Q := zE_iinc (ls2 := [l0, l1, l2, l3, l4, l5, l6, .int (x + (-1))]) dz108_87 (by decide +kernel) rfl (by simp) rfl
theorem dz108_90 : decode (z_code 108) 90 = .ok (.goto (-34), 3) := by decide +kernel
theorem u108_90 : zEv sc 108 90 [l0, l1, l2, l3, l4, l5, l6, l7] [] h Q ↔ zEv sc 108 56 [l0, l1, l2, l3, l4, l5, l6, l7] [] h Q := zE_go 56 dz108_90 rfl
theorem dz108_93 : decode (z_code 108) 93 = .ok (.aload_n 0, 1) := by decide +kernel
theorem u108_93 : zEv sc 108 93 [.ref a, l1, l2, l3, l4, l5, l6, l7] [] h Q ↔ zEv sc 108 94 [.ref a, l1, l2, l3, l4, l5, l6, l7] [.ref a] h Q := zE_pure (q := (94, [.ref a, l1, l2, l3, l4, l5, l6, l7], [.ref a])) dz108_93 rfl rfl rfl
theorem dz108_94 : decode (z_code 108) 94 = .ok (.getfield 7, 3) := by decide +kernel
theorem u108_94 (ho : zO a 10) : zEv sc 108 94 [l0, l1, l2, l3, l4, l5, l6, l7] [.ref a] (zst p iv) Q ↔ zRef (zRV p a 0) (fun j => zEv sc 108 97 [l0, l1, l2, l3, l4, l5, l6, l7] [.ref j] (zst p iv) Q) := zE_gfR dz108_94 (by decide +kernel : z_lk3 zFT (z_cls 108) 7 = some (10, 0, 0, 677)) (by decide +kernel) ho
theorem dz108_97 : decode (z_code 108) 97 = .ok (.iload 5, 2) := by decide +kernel
theorem u108_97 : zEv sc 108 97 [l0, l1, l2, l3, l4, .int x, l6, l7] [t0] h Q ↔ zEv sc 108 99 [l0, l1, l2, l3, l4, .int x, l6, l7] [.int x, t0] h Q := zE_pure (q := (99, [l0, l1, l2, l3, l4, .int x, l6, l7], [.int x, t0])) dz108_97 rfl rfl rfl
theorem dz108_99 : decode (z_code 108) 99 = .ok (.dup2, 1) := by decide +kernel
theorem u108_99 : zEv sc 108 99 [l0, l1, l2, l3, l4, l5, l6, l7] [v1, v2] h Q ↔ zEv sc 108 100 [l0, l1, l2, l3, l4, l5, l6, l7] [v1, v2, v1, v2] h Q := zE_pure (q := (100, [l0, l1, l2, l3, l4, l5, l6, l7], [v1, v2, v1, v2])) dz108_99 rfl rfl rfl
theorem dz108_100 : decode (z_code 108) 100 = .ok (.iaload, 1) := by decide +kernel
theorem u108_100 (ho : zO a 100) : zEv sc 108 100 [l0, l1, l2, l3, l4, l5, l6, l7] [.int x, .ref a, t0, t1] (zst p iv) Q ↔ (vp_in x (zLn a) ∧ zEv sc 108 101 [l0, l1, l2, l3, l4, l5, l6, l7] [.int (iv a x.toNatClampNeg), t0, t1] (zst p iv) Q) := zE_ald (Or.inl ⟨rfl, rfl⟩) dz108_100 ho
theorem dz108_101 : decode (z_code 108) 101 = .ok (.iconst 1, 1) := by decide +kernel
theorem u108_101 : zEv sc 108 101 [l0, l1, l2, l3, l4, l5, l6, l7] [t0, t1, t2] h Q ↔ zEv sc 108 102 [l0, l1, l2, l3, l4, l5, l6, l7] [.int 1, t0, t1, t2] h Q := zE_iconst dz108_101 (by decide +kernel)
theorem dz108_102 : decode (z_code 108) 102 = .ok (.iadd, 1) := by decide +kernel
theorem u108_102 : zEv sc 108 102 [l0, l1, l2, l3, l4, l5, l6, l7] [.int x2, .int x1, t0, t1] h Q ↔ zEv sc 108 103 [l0, l1, l2, l3, l4, l5, l6, l7] [.int (x1 + x2), t0, t1] h Q := zE_pure (q := (103, [l0, l1, l2, l3, l4, l5, l6, l7], [.int (x1 + x2), t0, t1])) dz108_102 rfl rfl rfl
theorem dz108_103 : decode (z_code 108) 103 = .ok (.iastore, 1) := by decide +kernel
theorem u108_103 (ho : zO a 100) : zEv sc 108 103 [l0, l1, l2, l3, l4, l5, l6, l7] [.int x2, .int x1, .ref a] (zst p iv) Q ↔ (vp_in x1 (zLn a) ∧ zEv sc 108 104 [l0, l1, l2, l3, l4, l5, l6, l7] [] (zst p (w2 iv a x1.toNatClampNeg x2)) Q) := zE_ast (Or.inl ⟨rfl, rfl, rfl⟩) dz108_103 ho
theorem dz108_104 : decode (z_code 108) 104 = .ok (.aload_n 0, 1) := by decide +kernel
theorem u108_104 : zEv sc 108 104 [.ref a, l1, l2, l3, l4, l5, l6, l7] [] h Q ↔ zEv sc 108 105 [.ref a, l1, l2, l3, l4, l5, l6, l7] [.ref a] h Q := zE_pure (q := (105, [.ref a, l1, l2, l3, l4, l5, l6, l7], [.ref a])) dz108_104 rfl rfl rfl
theorem dz108_105 : decode (z_code 108) 105 = .ok (.getfield 7, 3) := by decide +kernel
theorem u108_105 (ho : zO a 10) : zEv sc 108 105 [l0, l1, l2, l3, l4, l5, l6, l7] [.ref a] (zst p iv) Q ↔ zRef (zRV p a 0) (fun j => zEv sc 108 108 [l0, l1, l2, l3, l4, l5, l6, l7] [.ref j] (zst p iv) Q) := zE_gfR dz108_105 (by decide +kernel : z_lk3 zFT (z_cls 108) 7 = some (10, 0, 0, 677)) (by decide +kernel) ho
theorem dz108_108 : decode (z_code 108) 108 = .ok (.iload 5, 2) := by decide +kernel
theorem u108_108 : zEv sc 108 108 [l0, l1, l2, l3, l4, .int x, l6, l7] [t0] h Q ↔ zEv sc 108 110 [l0, l1, l2, l3, l4, .int x, l6, l7] [.int x, t0] h Q := zE_pure (q := (110, [l0, l1, l2, l3, l4, .int x, l6, l7], [.int x, t0])) dz108_108 rfl rfl rfl
theorem dz108_110 : decode (z_code 108) 110 = .ok (.iconst 1, 1) := by decide +kernel
theorem u108_110 : zEv sc 108 110 [l0, l1, l2, l3, l4, l5, l6, l7] [t0, t1] h Q ↔ zEv sc 108 111 [l0, l1, l2, l3, l4, l5, l6, l7] [.int 1, t0, t1] h Q := zE_iconst dz108_110 (by decide +kernel)
theorem dz108_111 : decode (z_code 108) 111 = .ok (.iadd, 1) := by decide +kernel
theorem u108_111 : zEv sc 108 111 [l0, l1, l2, l3, l4, l5, l6, l7] [.int x2, .int x1, t0] h Q ↔ zEv sc 108 112 [l0, l1, l2, l3, l4, l5, l6, l7] [.int (x1 + x2), t0] h Q := zE_pure (q := (112, [l0, l1, l2, l3, l4, l5, l6, l7], [.int (x1 + x2), t0])) dz108_111 rfl rfl rfl
theorem dz108_112 : decode (z_code 108) 112 = .ok (.iconst 2, 1) := by decide +kernel
theorem u108_112 : zEv sc 108 112 [l0, l1, l2, l3, l4, l5, l6, l7] [t0, t1] h Q ↔ zEv sc 108 113 [l0, l1, l2, l3, l4, l5, l6, l7] [.int 2, t0, t1] h Q := zE_iconst dz108_112 (by decide +kernel)
theorem dz108_113 : decode (z_code 108) 113 = .ok (.iload 6, 2) := by decide +kernel
theorem u108_113 : zEv sc 108 113 [l0, l1, l2, l3, l4, l5, .int x, l7] [t0, t1, t2] h Q ↔ zEv sc 108 115 [l0, l1, l2, l3, l4, l5, .int x, l7] [.int x, t0, t1, t2] h Q := zE_pure (q := (115, [l0, l1, l2, l3, l4, l5, .int x, l7], [.int x, t0, t1, t2])) dz108_113 rfl rfl rfl
theorem dz108_115 : decode (z_code 108) 115 = .ok (.imul, 1) := by decide +kernel
theorem u108_115 : zEv sc 108 115 [l0, l1, l2, l3, l4, l5, l6, l7] [.int x2, .int x1, t0, t1] h Q ↔ zEv sc 108 116 [l0, l1, l2, l3, l4, l5, l6, l7] [.int (x1 * x2), t0, t1] h Q := zE_pure (q := (116, [l0, l1, l2, l3, l4, l5, l6, l7], [.int (x1 * x2), t0, t1])) dz108_115 rfl rfl rfl
theorem dz108_116 : decode (z_code 108) 116 = .ok (.iadd, 1) := by decide +kernel
theorem u108_116 : zEv sc 108 116 [l0, l1, l2, l3, l4, l5, l6, l7] [.int x2, .int x1, t0] h Q ↔ zEv sc 108 117 [l0, l1, l2, l3, l4, l5, l6, l7] [.int (x1 + x2), t0] h Q := zE_pure (q := (117, [l0, l1, l2, l3, l4, l5, l6, l7], [.int (x1 + x2), t0])) dz108_116 rfl rfl rfl
theorem dz108_117 : decode (z_code 108) 117 = .ok (.iload_n 2, 1) := by decide +kernel
theorem u108_117 : zEv sc 108 117 [l0, l1, .int x, l3, l4, l5, l6, l7] [t0, t1] h Q ↔ zEv sc 108 118 [l0, l1, .int x, l3, l4, l5, l6, l7] [.int x, t0, t1] h Q := zE_pure (q := (118, [l0, l1, .int x, l3, l4, l5, l6, l7], [.int x, t0, t1])) dz108_117 rfl rfl rfl
theorem dz108_118 : decode (z_code 108) 118 = .ok (.iastore, 1) := by decide +kernel
theorem u108_118 (ho : zO a 100) : zEv sc 108 118 [l0, l1, l2, l3, l4, l5, l6, l7] [.int x2, .int x1, .ref a] (zst p iv) Q ↔ (vp_in x1 (zLn a) ∧ zEv sc 108 119 [l0, l1, l2, l3, l4, l5, l6, l7] [] (zst p (w2 iv a x1.toNatClampNeg x2)) Q) := zE_ast (Or.inl ⟨rfl, rfl, rfl⟩) dz108_118 ho
theorem dz108_119 : decode (z_code 108) 119 = .ok (.aload_n 0, 1) := by decide +kernel
theorem u108_119 : zEv sc 108 119 [.ref a, l1, l2, l3, l4, l5, l6, l7] [] h Q ↔ zEv sc 108 120 [.ref a, l1, l2, l3, l4, l5, l6, l7] [.ref a] h Q := zE_pure (q := (120, [.ref a, l1, l2, l3, l4, l5, l6, l7], [.ref a])) dz108_119 rfl rfl rfl
theorem dz108_120 : decode (z_code 108) 120 = .ok (.getfield 7, 3) := by decide +kernel
theorem u108_120 (ho : zO a 10) : zEv sc 108 120 [l0, l1, l2, l3, l4, l5, l6, l7] [.ref a] (zst p iv) Q ↔ zRef (zRV p a 0) (fun j => zEv sc 108 123 [l0, l1, l2, l3, l4, l5, l6, l7] [.ref j] (zst p iv) Q) := zE_gfR dz108_120 (by decide +kernel : z_lk3 zFT (z_cls 108) 7 = some (10, 0, 0, 677)) (by decide +kernel) ho
theorem dz108_123 : decode (z_code 108) 123 = .ok (.iload 5, 2) := by decide +kernel
theorem u108_123 : zEv sc 108 123 [l0, l1, l2, l3, l4, .int x, l6, l7] [t0] h Q ↔ zEv sc 108 125 [l0, l1, l2, l3, l4, .int x, l6, l7] [.int x, t0] h Q := zE_pure (q := (125, [l0, l1, l2, l3, l4, .int x, l6, l7], [.int x, t0])) dz108_123 rfl rfl rfl
theorem dz108_125 : decode (z_code 108) 125 = .ok (.iconst 2, 1) := by decide +kernel
theorem u108_125 : zEv sc 108 125 [l0, l1, l2, l3, l4, l5, l6, l7] [t0, t1] h Q ↔ zEv sc 108 126 [l0, l1, l2, l3, l4, l5, l6, l7] [.int 2, t0, t1] h Q := zE_iconst dz108_125 (by decide +kernel)
theorem dz108_126 : decode (z_code 108) 126 = .ok (.iadd, 1) := by decide +kernel
theorem u108_126 : zEv sc 108 126 [l0, l1, l2, l3, l4, l5, l6, l7] [.int x2, .int x1, t0] h Q ↔ zEv sc 108 127 [l0, l1, l2, l3, l4, l5, l6, l7] [.int (x1 + x2), t0] h Q := zE_pure (q := (127, [l0, l1, l2, l3, l4, l5, l6, l7], [.int (x1 + x2), t0])) dz108_126 rfl rfl rfl
theorem dz108_127 : decode (z_code 108) 127 = .ok (.iconst 2, 1) := by decide +kernel
theorem u108_127 : zEv sc 108 127 [l0, l1, l2, l3, l4, l5, l6, l7] [t0, t1] h Q ↔ zEv sc 108 128 [l0, l1, l2, l3, l4, l5, l6, l7] [.int 2, t0, t1] h Q := zE_iconst dz108_127 (by decide +kernel)
theorem dz108_128 : decode (z_code 108) 128 = .ok (.iload 6, 2) := by decide +kernel
theorem u108_128 : zEv sc 108 128 [l0, l1, l2, l3, l4, l5, .int x, l7] [t0, t1, t2] h Q ↔ zEv sc 108 130 [l0, l1, l2, l3, l4, l5, .int x, l7] [.int x, t0, t1, t2] h Q := zE_pure (q := (130, [l0, l1, l2, l3, l4, l5, .int x, l7], [.int x, t0, t1, t2])) dz108_128 rfl rfl rfl
theorem dz108_130 : decode (z_code 108) 130 = .ok (.imul, 1) := by decide +kernel
theorem u108_130 : zEv sc 108 130 [l0, l1, l2, l3, l4, l5, l6, l7] [.int x2, .int x1, t0, t1] h Q ↔ zEv sc 108 131 [l0, l1, l2, l3, l4, l5, l6, l7] [.int (x1 * x2), t0, t1] h Q := zE_pure (q := (131, [l0, l1, l2, l3, l4, l5, l6, l7], [.int (x1 * x2), t0, t1])) dz108_130 rfl rfl rfl
theorem dz108_131 : decode (z_code 108) 131 = .ok (.iadd, 1) := by decide +kernel
theorem u108_131 : zEv sc 108 131 [l0, l1, l2, l3, l4, l5, l6, l7] [.int x2, .int x1, t0] h Q ↔ zEv sc 108 132 [l0, l1, l2, l3, l4, l5, l6, l7] [.int (x1 + x2), t0] h Q := zE_pure (q := (132, [l0, l1, l2, l3, l4, l5, l6, l7], [.int (x1 + x2), t0])) dz108_131 rfl rfl rfl
theorem dz108_132 : decode (z_code 108) 132 = .ok (.iload_n 3, 1) := by decide +kernel
theorem u108_132 : zEv sc 108 132 [l0, l1, l2, .int x, l4, l5, l6, l7] [t0, t1] h Q ↔ zEv sc 108 133 [l0, l1, l2, .int x, l4, l5, l6, l7] [.int x, t0, t1] h Q := zE_pure (q := (133, [l0, l1, l2, .int x, l4, l5, l6, l7], [.int x, t0, t1])) dz108_132 rfl rfl rfl
theorem dz108_133 : decode (z_code 108) 133 = .ok (.iastore, 1) := by decide +kernel
theorem u108_133 (ho : zO a 100) : zEv sc 108 133 [l0, l1, l2, l3, l4, l5, l6, l7] [.int x2, .int x1, .ref a] (zst p iv) Q ↔ (vp_in x1 (zLn a) ∧ zEv sc 108 134 [l0, l1, l2, l3, l4, l5, l6, l7] [] (zst p (w2 iv a x1.toNatClampNeg x2)) Q) := zE_ast (Or.inl ⟨rfl, rfl, rfl⟩) dz108_133 ho
theorem dz108_134 : decode (z_code 108) 134 = .ok (.iload 4, 2) := by decide +kernel
theorem u108_134 : zEv sc 108 134 [l0, l1, l2, l3, .int x, l5, l6, l7] [] h Q ↔ zEv sc 108 136 [l0, l1, l2, l3, .int x, l5, l6, l7] [.int x] h Q := zE_pure (q := (136, [l0, l1, l2, l3, .int x, l5, l6, l7], [.int x])) dz108_134 rfl rfl rfl
theorem dz108_136 : decode (z_code 108) 136 = .ok (.ireturn, 1) := by decide +kernel
theorem u108_136 : zEv sc 108 136 [l0, l1, l2, l3, l4, l5, l6, l7] [.int x] h Q ↔ Q (some (.int x)) h := zE_ri dz108_136 (by decide +kernel)
/-! method 109: FieldMixturesModel.sorts(I)I -/
theorem dz109_0 : decode (z_code 109) 0 = .ok (.aload_n 0, 1) := by decide +kernel
theorem u109_0 : zEv sc 109 0 [.ref a, l1, l2] [] h Q ↔ zEv sc 109 1 [.ref a, l1, l2] [.ref a] h Q := zE_pure (q := (1, [.ref a, l1, l2], [.ref a])) dz109_0 rfl rfl rfl
theorem dz109_1 : decode (z_code 109) 1 = .ok (.iload_n 1, 1) := by decide +kernel
theorem u109_1 : zEv sc 109 1 [l0, .int x, l2] [t0] h Q ↔ zEv sc 109 2 [l0, .int x, l2] [.int x, t0] h Q := zE_pure (q := (2, [l0, .int x, l2], [.int x, t0])) dz109_1 rfl rfl rfl
theorem dz109_2 : decode (z_code 109) 2 = .ok (.invokevirtual 58, 3) := by decide +kernel
theorem u109_2 (ho : zO a 10) : zEv sc 109 2 [l0, l1, l2] [.int z0, .ref a] (zst p iv) Q ↔ zEv sc 101 0 [.ref a, .int z0] [] (zst p iv) (fun r h9 => zEv sc 109 5 [l0, l1, l2] (r.toList ++ []) h9 Q) := zE_call (kd := 0) (na := 2) (nr := 0) (as := [.ref a, .int z0]) (rest := []) (Or.inl ⟨rfl, rfl⟩) dz109_2 (by decide +kernel : z_lk2 zCT (z_cls 109) 58 = some (101, 0, 776)) (fun z => by cases z) rfl rfl rfl (by decide +kernel) rfl (Or.inr (zE_rc ho))
theorem dz109_5 : decode (z_code 109) 5 = .ok (.iconst 1, 1) := by decide +kernel
theorem u109_5 : zEv sc 109 5 [l0, l1, l2] [t0] h Q ↔ zEv sc 109 6 [l0, l1, l2] [.int 1, t0] h Q := zE_iconst dz109_5 (by decide +kernel)
theorem dz109_6 : decode (z_code 109) 6 = .ok (.isub, 1) := by decide +kernel
theorem u109_6 : zEv sc 109 6 [l0, l1, l2] [.int x2, .int x1] h Q ↔ zEv sc 109 7 [l0, l1, l2] [.int (x1 - x2)] h Q := zE_pure (q := (7, [l0, l1, l2], [.int (x1 - x2)])) dz109_6 rfl rfl rfl
theorem dz109_7 : decode (z_code 109) 7 = .ok (.istore_n 2, 1) := by decide +kernel
theorem u109_7 : zEv sc 109 7 [l0, l1, l2] [.int x] h Q ↔ zEv sc 109 8 [l0, l1, .int x] [] h Q := zE_pure (q := (8, [l0, l1, .int x], [])) dz109_7 rfl rfl rfl
theorem dz109_8 : decode (z_code 109) 8 = .ok (.iload_n 2, 1) := by decide +kernel
theorem u109_8 : zEv sc 109 8 [l0, l1, .int x] [] h Q ↔ zEv sc 109 9 [l0, l1, .int x] [.int x] h Q := zE_pure (q := (9, [l0, l1, .int x], [.int x])) dz109_8 rfl rfl rfl
theorem dz109_9 : decode (z_code 109) 9 = .ok (.ifCond .lt 29, 3) := by decide +kernel
theorem u109_9 : zEv sc 109 9 [l0, l1, l2] [.int x] h Q ↔ (if x < 0 then zEv sc 109 38 [l0, l1, l2] [] h Q else zEv sc 109 12 [l0, l1, l2] [] h Q) := zE_ifP (P := x < 0) inferInstance 38 dz109_9 rfl rfl
theorem dz109_12 : decode (z_code 109) 12 = .ok (.aload_n 0, 1) := by decide +kernel
theorem u109_12 : zEv sc 109 12 [.ref a, l1, l2] [] h Q ↔ zEv sc 109 13 [.ref a, l1, l2] [.ref a] h Q := zE_pure (q := (13, [.ref a, l1, l2], [.ref a])) dz109_12 rfl rfl rfl
theorem dz109_13 : decode (z_code 109) 13 = .ok (.iload_n 1, 1) := by decide +kernel
theorem u109_13 : zEv sc 109 13 [l0, .int x, l2] [t0] h Q ↔ zEv sc 109 14 [l0, .int x, l2] [.int x, t0] h Q := zE_pure (q := (14, [l0, .int x, l2], [.int x, t0])) dz109_13 rfl rfl rfl
theorem dz109_14 : decode (z_code 109) 14 = .ok (.aload_n 0, 1) := by decide +kernel
theorem u109_14 : zEv sc 109 14 [.ref a, l1, l2] [t0, t1] h Q ↔ zEv sc 109 15 [.ref a, l1, l2] [.ref a, t0, t1] h Q := zE_pure (q := (15, [.ref a, l1, l2], [.ref a, t0, t1])) dz109_14 rfl rfl rfl
theorem dz109_15 : decode (z_code 109) 15 = .ok (.iload_n 1, 1) := by decide +kernel
theorem u109_15 : zEv sc 109 15 [l0, .int x, l2] [t0, t1, t2] h Q ↔ zEv sc 109 16 [l0, .int x, l2] [.int x, t0, t1, t2] h Q := zE_pure (q := (16, [l0, .int x, l2], [.int x, t0, t1, t2])) dz109_15 rfl rfl rfl
theorem dz109_16 : decode (z_code 109) 16 = .ok (.iload_n 2, 1) := by decide +kernel
theorem u109_16 : zEv sc 109 16 [l0, l1, .int x] [t0, t1, t2, t3] h Q ↔ zEv sc 109 17 [l0, l1, .int x] [.int x, t0, t1, t2, t3] h Q := zE_pure (q := (17, [l0, l1, .int x], [.int x, t0, t1, t2, t3])) dz109_16 rfl rfl rfl
theorem dz109_17 : decode (z_code 109) 17 = .ok (.invokevirtual 64, 3) := by decide +kernel
theorem u109_17 (ho : zO a 10) : zEv sc 109 17 [l0, l1, l2] [.int z1, .int z0, .ref a, t0, t1] (zst p iv) Q ↔ zEv sc 102 0 [.ref a, .int z0, .int z1] [] (zst p iv) (fun r h9 => zEv sc 109 20 [l0, l1, l2] (r.toList ++ [t0, t1]) h9 Q) := zE_call (kd := 0) (na := 3) (nr := 2) (as := [.ref a, .int z0, .int z1]) (rest := [t0, t1]) (Or.inl ⟨rfl, rfl⟩) dz109_17 (by decide +kernel : z_lk2 zCT (z_cls 109) 64 = some (102, 0, 780)) (fun z => by cases z) rfl rfl rfl (by decide +kernel) rfl (Or.inr (zE_rc ho))
theorem dz109_20 : decode (z_code 109) 20 = .ok (.invokevirtual 47, 3) := by decide +kernel
theorem u109_20 (ho : zO a 10) : zEv sc 109 20 [l0, l1, l2] [.int z1, .int z0, .ref a] (zst p iv) Q ↔ zEv sc 96 0 [.ref a, .int z0, .int z1, .null, .null, .null, .null, .null] [] (zst p iv) (fun r h9 => zEv sc 109 23 [l0, l1, l2] (r.toList ++ []) h9 Q) := zE_call (kd := 0) (na := 3) (nr := 0) (as := [.ref a, .int z0, .int z1]) (rest := []) (Or.inl ⟨rfl, rfl⟩) dz109_20 (by decide +kernel : z_lk2 zCT (z_cls 109) 47 = some (96, 0, 784)) (fun z => by cases z) rfl rfl rfl (by decide +kernel) rfl (Or.inr (zE_rc ho))
theorem dz109_23 : decode (z_code 109) 23 = .ok (.ifCond .ne 9, 3) := by decide +kernel
theorem u109_23 : zEv sc 109 23 [l0, l1, l2] [.int x] h Q ↔ (if ¬ x = 0 then zEv sc 109 32 [l0, l1, l2] [] h Q else zEv sc 109 26 [l0, l1, l2] [] h Q) := zE_ifP (P := ¬ x = 0) inferInstance 32 dz109_23 rfl rfl
theorem dz109_26 : decode (z_code 109) 26 = .ok (.aload_n 0, 1) := by decide +kernel
theorem u109_26 : zEv sc 109 26 [.ref a, l1, l2] [] h Q ↔ zEv sc 109 27 [.ref a, l1, l2] [.ref a] h Q := zE_pure (q := (27, [.ref a, l1, l2], [.ref a])) dz109_26 rfl rfl rfl
theorem dz109_27 : decode (z_code 109) 27 = .ok (.iload_n 1, 1) := by decide +kernel
theorem u109_27 : zEv sc 109 27 [l0, .int x, l2] [t0] h Q ↔ zEv sc 109 28 [l0, .int x, l2] [.int x, t0] h Q := zE_pure (q := (28, [l0, .int x, l2], [.int x, t0])) dz109_27 rfl rfl rfl
theorem dz109_28 : decode (z_code 109) 28 = .ok (.iload_n 2, 1) := by decide +kernel
theorem u109_28 : zEv sc 109 28 [l0, l1, .int x] [t0, t1] h Q ↔ zEv sc 109 29 [l0, l1, .int x] [.int x, t0, t1] h Q := zE_pure (q := (29, [l0, l1, .int x], [.int x, t0, t1])) dz109_28 rfl rfl rfl
theorem dz109_29 : decode (z_code 109) 29 = .ok (.invokevirtual 74, 3) := by decide +kernel
theorem u109_29 (ho : zO a 10) : zEv sc 109 29 [l0, l1, l2] [.int z1, .int z0, .ref a] (zst p iv) Q ↔ zEv sc 107 0 [.ref a, .int z0, .int z1, .null, .null] [] (zst p iv) (fun r h9 => zEv sc 109 32 [l0, l1, l2] (r.toList ++ []) h9 Q) := zE_call (kd := 0) (na := 3) (nr := 0) (as := [.ref a, .int z0, .int z1]) (rest := []) (Or.inl ⟨rfl, rfl⟩) dz109_29 (by decide +kernel : z_lk2 zCT (z_cls 109) 74 = some (107, 0, 792)) (fun z => by cases z) rfl rfl rfl (by decide +kernel) rfl (Or.inr (zE_rc ho))
theorem dz109_32 : decode (z_code 109) 32 = .ok (.iinc 2 (-1), 3) := by decide +kernel
theorem u109_32 : zEv sc 109 32 [l0, l1, .int x] [] h Q ↔ zEv sc 109 35 [l0, l1, .int (x + (-1))] [] h Q := zE_iinc (ls2 := [l0, l1, .int (x + (-1))]) dz109_32 (by decide +kernel) rfl (by simp) rfl
theorem dz109_35 : decode (z_code 109) 35 = .ok (.goto (-27), 3) := by decide +kernel
theorem u109_35 : zEv sc 109 35 [l0, l1, l2] [] h Q ↔ zEv sc 109 8 [l0, l1, l2] [] h Q := zE_go 8 dz109_35 rfl
theorem dz109_38 : decode (z_code 109) 38 = .ok (.aload_n 0, 1) := by decide +kernel
theorem u109_38 : zEv sc 109 38 [.ref a, l1, l2] [] h Q ↔ zEv sc 109 39 [.ref a, l1, l2] [.ref a] h Q := zE_pure (q := (39, [.ref a, l1, l2], [.ref a])) dz109_38 rfl rfl rfl
theorem dz109_39 : decode (z_code 109) 39 = .ok (.iload_n 1, 1) := by decide +kernel
theorem u109_39 : zEv sc 109 39 [l0, .int x, l2] [t0] h Q ↔ zEv sc 109 40 [l0, .int x, l2] [.int x, t0] h Q := zE_pure (q := (40, [l0, .int x, l2], [.int x, t0])) dz109_39 rfl rfl rfl
theorem dz109_40 : decode (z_code 109) 40 = .ok (.invokevirtual 58, 3) := by decide +kernel
theorem u109_40 (ho : zO a 10) : zEv sc 109 40 [l0, l1, l2] [.int z0, .ref a] (zst p iv) Q ↔ zEv sc 101 0 [.ref a, .int z0] [] (zst p iv) (fun r h9 => zEv sc 109 43 [l0, l1, l2] (r.toList ++ []) h9 Q) := zE_call (kd := 0) (na := 2) (nr := 0) (as := [.ref a, .int z0]) (rest := []) (Or.inl ⟨rfl, rfl⟩) dz109_40 (by decide +kernel : z_lk2 zCT (z_cls 109) 58 = some (101, 0, 776)) (fun z => by cases z) rfl rfl rfl (by decide +kernel) rfl (Or.inr (zE_rc ho))
theorem dz109_43 : decode (z_code 109) 43 = .ok (.ireturn, 1) := by decide +kernel
theorem u109_43 : zEv sc 109 43 [l0, l1, l2] [.int x] h Q ↔ Q (some (.int x)) h := zE_ri dz109_43 (by decide +kernel)
/-! method 110: FieldMixturesModel.sumOf(II)I -/
theorem dz110_0 : decode (z_code 110) 0 = .ok (.iconst 0, 1) := by decide +kernel
theorem u110_0 : zEv sc 110 0 [l0, l1, l2, l3, l4] [] h Q ↔ zEv sc 110 1 [l0, l1, l2, l3, l4] [.int 0] h Q := zE_iconst dz110_0 (by decide +kernel)
theorem dz110_1 : decode (z_code 110) 1 = .ok (.istore_n 3, 1) := by decide +kernel
theorem u110_1 : zEv sc 110 1 [l0, l1, l2, l3, l4] [.int x] h Q ↔ zEv sc 110 2 [l0, l1, l2, .int x, l4] [] h Q := zE_pure (q := (2, [l0, l1, l2, .int x, l4], [])) dz110_1 rfl rfl rfl
theorem dz110_2 : decode (z_code 110) 2 = .ok (.iconst 0, 1) := by decide +kernel
theorem u110_2 : zEv sc 110 2 [l0, l1, l2, l3, l4] [] h Q ↔ zEv sc 110 3 [l0, l1, l2, l3, l4] [.int 0] h Q := zE_iconst dz110_2 (by decide +kernel)
theorem dz110_3 : decode (z_code 110) 3 = .ok (.istore 4, 2) := by decide +kernel
theorem u110_3 : zEv sc 110 3 [l0, l1, l2, l3, l4] [.int x] h Q ↔ zEv sc 110 5 [l0, l1, l2, l3, .int x] [] h Q := zE_pure (q := (5, [l0, l1, l2, l3, .int x], [])) dz110_3 rfl rfl rfl
theorem dz110_5 : decode (z_code 110) 5 = .ok (.iload 4, 2) := by decide +kernel
theorem u110_5 : zEv sc 110 5 [l0, l1, l2, l3, .int x] [] h Q ↔ zEv sc 110 7 [l0, l1, l2, l3, .int x] [.int x] h Q := zE_pure (q := (7, [l0, l1, l2, l3, .int x], [.int x])) dz110_5 rfl rfl rfl
theorem dz110_7 : decode (z_code 110) 7 = .ok (.aload_n 0, 1) := by decide +kernel
theorem u110_7 : zEv sc 110 7 [.ref a, l1, l2, l3, l4] [t0] h Q ↔ zEv sc 110 8 [.ref a, l1, l2, l3, l4] [.ref a, t0] h Q := zE_pure (q := (8, [.ref a, l1, l2, l3, l4], [.ref a, t0])) dz110_7 rfl rfl rfl
theorem dz110_8 : decode (z_code 110) 8 = .ok (.iconst 1, 1) := by decide +kernel
theorem u110_8 : zEv sc 110 8 [l0, l1, l2, l3, l4] [t0, t1] h Q ↔ zEv sc 110 9 [l0, l1, l2, l3, l4] [.int 1, t0, t1] h Q := zE_iconst dz110_8 (by decide +kernel)
theorem dz110_9 : decode (z_code 110) 9 = .ok (.iload_n 1, 1) := by decide +kernel
theorem u110_9 : zEv sc 110 9 [l0, .int x, l2, l3, l4] [t0, t1, t2] h Q ↔ zEv sc 110 10 [l0, .int x, l2, l3, l4] [.int x, t0, t1, t2] h Q := zE_pure (q := (10, [l0, .int x, l2, l3, l4], [.int x, t0, t1, t2])) dz110_9 rfl rfl rfl
theorem dz110_10 : decode (z_code 110) 10 = .ok (.isub, 1) := by decide +kernel
theorem u110_10 : zEv sc 110 10 [l0, l1, l2, l3, l4] [.int x2, .int x1, t0, t1] h Q ↔ zEv sc 110 11 [l0, l1, l2, l3, l4] [.int (x1 - x2), t0, t1] h Q := zE_pure (q := (11, [l0, l1, l2, l3, l4], [.int (x1 - x2), t0, t1])) dz110_10 rfl rfl rfl
theorem dz110_11 : decode (z_code 110) 11 = .ok (.invokevirtual 58, 3) := by decide +kernel
theorem u110_11 (ho : zO a 10) : zEv sc 110 11 [l0, l1, l2, l3, l4] [.int z0, .ref a, t0] (zst p iv) Q ↔ zEv sc 101 0 [.ref a, .int z0] [] (zst p iv) (fun r h9 => zEv sc 110 14 [l0, l1, l2, l3, l4] (r.toList ++ [t0]) h9 Q) := zE_call (kd := 0) (na := 2) (nr := 1) (as := [.ref a, .int z0]) (rest := [t0]) (Or.inl ⟨rfl, rfl⟩) dz110_11 (by decide +kernel : z_lk2 zCT (z_cls 110) 58 = some (101, 0, 776)) (fun z => by cases z) rfl rfl rfl (by decide +kernel) rfl (Or.inr (zE_rc ho))
theorem dz110_14 : decode (z_code 110) 14 = .ok (.if_icmp .ge 37, 3) := by decide +kernel
theorem u110_14 : zEv sc 110 14 [l0, l1, l2, l3, l4] [.int x2, .int x1] h Q ↔ (if x2 ≤ x1 then zEv sc 110 51 [l0, l1, l2, l3, l4] [] h Q else zEv sc 110 17 [l0, l1, l2, l3, l4] [] h Q) := zE_icP (P := x2 ≤ x1) inferInstance 51 dz110_14 rfl rfl
theorem dz110_17 : decode (z_code 110) 17 = .ok (.iload_n 3, 1) := by decide +kernel
theorem u110_17 : zEv sc 110 17 [l0, l1, l2, .int x, l4] [] h Q ↔ zEv sc 110 18 [l0, l1, l2, .int x, l4] [.int x] h Q := zE_pure (q := (18, [l0, l1, l2, .int x, l4], [.int x])) dz110_17 rfl rfl rfl
theorem dz110_18 : decode (z_code 110) 18 = .ok (.aload_n 0, 1) := by decide +kernel
theorem u110_18 : zEv sc 110 18 [.ref a, l1, l2, l3, l4] [t0] h Q ↔ zEv sc 110 19 [.ref a, l1, l2, l3, l4] [.ref a, t0] h Q := zE_pure (q := (19, [.ref a, l1, l2, l3, l4], [.ref a, t0])) dz110_18 rfl rfl rfl
theorem dz110_19 : decode (z_code 110) 19 = .ok (.iconst 1, 1) := by decide +kernel
theorem u110_19 : zEv sc 110 19 [l0, l1, l2, l3, l4] [t0, t1] h Q ↔ zEv sc 110 20 [l0, l1, l2, l3, l4] [.int 1, t0, t1] h Q := zE_iconst dz110_19 (by decide +kernel)
theorem dz110_20 : decode (z_code 110) 20 = .ok (.iload_n 1, 1) := by decide +kernel
theorem u110_20 : zEv sc 110 20 [l0, .int x, l2, l3, l4] [t0, t1, t2] h Q ↔ zEv sc 110 21 [l0, .int x, l2, l3, l4] [.int x, t0, t1, t2] h Q := zE_pure (q := (21, [l0, .int x, l2, l3, l4], [.int x, t0, t1, t2])) dz110_20 rfl rfl rfl
theorem dz110_21 : decode (z_code 110) 21 = .ok (.isub, 1) := by decide +kernel
theorem u110_21 : zEv sc 110 21 [l0, l1, l2, l3, l4] [.int x2, .int x1, t0, t1] h Q ↔ zEv sc 110 22 [l0, l1, l2, l3, l4] [.int (x1 - x2), t0, t1] h Q := zE_pure (q := (22, [l0, l1, l2, l3, l4], [.int (x1 - x2), t0, t1])) dz110_21 rfl rfl rfl
theorem dz110_22 : decode (z_code 110) 22 = .ok (.iload 4, 2) := by decide +kernel
theorem u110_22 : zEv sc 110 22 [l0, l1, l2, l3, .int x] [t0, t1, t2] h Q ↔ zEv sc 110 24 [l0, l1, l2, l3, .int x] [.int x, t0, t1, t2] h Q := zE_pure (q := (24, [l0, l1, l2, l3, .int x], [.int x, t0, t1, t2])) dz110_22 rfl rfl rfl
theorem dz110_24 : decode (z_code 110) 24 = .ok (.invokevirtual 61, 3) := by decide +kernel
theorem u110_24 (ho : zO a 10) : zEv sc 110 24 [l0, l1, l2, l3, l4] [.int z1, .int z0, .ref a, t0] (zst p iv) Q ↔ zEv sc 103 0 [.ref a, .int z0, .int z1] [] (zst p iv) (fun r h9 => zEv sc 110 27 [l0, l1, l2, l3, l4] (r.toList ++ [t0]) h9 Q) := zE_call (kd := 0) (na := 3) (nr := 1) (as := [.ref a, .int z0, .int z1]) (rest := [t0]) (Or.inl ⟨rfl, rfl⟩) dz110_24 (by decide +kernel : z_lk2 zCT (z_cls 110) 61 = some (103, 0, 824)) (fun z => by cases z) rfl rfl rfl (by decide +kernel) rfl (Or.inr (zE_rc ho))
theorem dz110_27 : decode (z_code 110) 27 = .ok (.aload_n 0, 1) := by decide +kernel
theorem u110_27 : zEv sc 110 27 [.ref a, l1, l2, l3, l4] [t0, t1] h Q ↔ zEv sc 110 28 [.ref a, l1, l2, l3, l4] [.ref a, t0, t1] h Q := zE_pure (q := (28, [.ref a, l1, l2, l3, l4], [.ref a, t0, t1])) dz110_27 rfl rfl rfl
theorem dz110_28 : decode (z_code 110) 28 = .ok (.iload_n 1, 1) := by decide +kernel
theorem u110_28 : zEv sc 110 28 [l0, .int x, l2, l3, l4] [t0, t1, t2] h Q ↔ zEv sc 110 29 [l0, .int x, l2, l3, l4] [.int x, t0, t1, t2] h Q := zE_pure (q := (29, [l0, .int x, l2, l3, l4], [.int x, t0, t1, t2])) dz110_28 rfl rfl rfl
theorem dz110_29 : decode (z_code 110) 29 = .ok (.iload_n 2, 1) := by decide +kernel
theorem u110_29 : zEv sc 110 29 [l0, l1, .int x, l3, l4] [t0, t1, t2, t3] h Q ↔ zEv sc 110 30 [l0, l1, .int x, l3, l4] [.int x, t0, t1, t2, t3] h Q := zE_pure (q := (30, [l0, l1, .int x, l3, l4], [.int x, t0, t1, t2, t3])) dz110_29 rfl rfl rfl
theorem dz110_30 : decode (z_code 110) 30 = .ok (.aload_n 0, 1) := by decide +kernel
theorem u110_30 : zEv sc 110 30 [.ref a, l1, l2, l3, l4] [t0, t1, t2, t3, t4] h Q ↔ zEv sc 110 31 [.ref a, l1, l2, l3, l4] [.ref a, t0, t1, t2, t3, t4] h Q := zE_pure (q := (31, [.ref a, l1, l2, l3, l4], [.ref a, t0, t1, t2, t3, t4])) dz110_30 rfl rfl rfl
theorem dz110_31 : decode (z_code 110) 31 = .ok (.iconst 1, 1) := by decide +kernel
theorem u110_31 : zEv sc 110 31 [l0, l1, l2, l3, l4] [t0, t1, t2, t3, t4, t5] h Q ↔ zEv sc 110 32 [l0, l1, l2, l3, l4] [.int 1, t0, t1, t2, t3, t4, t5] h Q := zE_iconst dz110_31 (by decide +kernel)
theorem dz110_32 : decode (z_code 110) 32 = .ok (.iload_n 1, 1) := by decide +kernel
theorem u110_32 : zEv sc 110 32 [l0, .int x, l2, l3, l4] [t0, t1, t2, t3, t4, t5, t6] h Q ↔ zEv sc 110 33 [l0, .int x, l2, l3, l4] [.int x, t0, t1, t2, t3, t4, t5, t6] h Q := zE_pure (q := (33, [l0, .int x, l2, l3, l4], [.int x, t0, t1, t2, t3, t4, t5, t6])) dz110_32 rfl rfl rfl
theorem dz110_33 : decode (z_code 110) 33 = .ok (.isub, 1) := by decide +kernel
theorem u110_33 : zEv sc 110 33 [l0, l1, l2, l3, l4] [.int x2, .int x1, t0, t1, t2, t3, t4, t5] h Q ↔ zEv sc 110 34 [l0, l1, l2, l3, l4] [.int (x1 - x2), t0, t1, t2, t3, t4, t5] h Q := zE_pure (q := (34, [l0, l1, l2, l3, l4], [.int (x1 - x2), t0, t1, t2, t3, t4, t5])) dz110_33 rfl rfl rfl
theorem dz110_34 : decode (z_code 110) 34 = .ok (.iload 4, 2) := by decide +kernel
theorem u110_34 : zEv sc 110 34 [l0, l1, l2, l3, .int x] [t0, t1, t2, t3, t4, t5, t6] h Q ↔ zEv sc 110 36 [l0, l1, l2, l3, .int x] [.int x, t0, t1, t2, t3, t4, t5, t6] h Q := zE_pure (q := (36, [l0, l1, l2, l3, .int x], [.int x, t0, t1, t2, t3, t4, t5, t6])) dz110_34 rfl rfl rfl
theorem dz110_36 : decode (z_code 110) 36 = .ok (.invokevirtual 64, 3) := by decide +kernel
theorem u110_36 (ho : zO a 10) : zEv sc 110 36 [l0, l1, l2, l3, l4] [.int z1, .int z0, .ref a, t0, t1, t2, t3, t4] (zst p iv) Q ↔ zEv sc 102 0 [.ref a, .int z0, .int z1] [] (zst p iv) (fun r h9 => zEv sc 110 39 [l0, l1, l2, l3, l4] (r.toList ++ [t0, t1, t2, t3, t4]) h9 Q) := zE_call (kd := 0) (na := 3) (nr := 5) (as := [.ref a, .int z0, .int z1]) (rest := [t0, t1, t2, t3, t4]) (Or.inl ⟨rfl, rfl⟩) dz110_36 (by decide +kernel : z_lk2 zCT (z_cls 110) 64 = some (102, 0, 780)) (fun z => by cases z) rfl rfl rfl (by decide +kernel) rfl (Or.inr (zE_rc ho))
theorem dz110_39 : decode (z_code 110) 39 = .ok (.invokevirtual 78, 3) := by decide +kernel
theorem u110_39 (ho : zO a 10) : zEv sc 110 39 [l0, l1, l2, l3, l4] [.int z2, .int z1, .int z0, .ref a, t0, t1] (zst p iv) Q ↔ zEv sc 99 0 [.ref a, .int z0, .int z1, .int z2] [] (zst p iv) (fun r h9 => zEv sc 110 42 [l0, l1, l2, l3, l4] (r.toList ++ [t0, t1]) h9 Q) := zE_call (kd := 0) (na := 4) (nr := 2) (as := [.ref a, .int z0, .int z1, .int z2]) (rest := [t0, t1]) (Or.inl ⟨rfl, rfl⟩) dz110_39 (by decide +kernel : z_lk2 zCT (z_cls 110) 78 = some (99, 0, 854)) (fun z => by cases z) rfl rfl rfl (by decide +kernel) rfl (Or.inr (zE_rc ho))
theorem dz110_42 : decode (z_code 110) 42 = .ok (.imul, 1) := by decide +kernel
theorem u110_42 : zEv sc 110 42 [l0, l1, l2, l3, l4] [.int x2, .int x1, t0] h Q ↔ zEv sc 110 43 [l0, l1, l2, l3, l4] [.int (x1 * x2), t0] h Q := zE_pure (q := (43, [l0, l1, l2, l3, l4], [.int (x1 * x2), t0])) dz110_42 rfl rfl rfl
theorem dz110_43 : decode (z_code 110) 43 = .ok (.iadd, 1) := by decide +kernel
theorem u110_43 : zEv sc 110 43 [l0, l1, l2, l3, l4] [.int x2, .int x1] h Q ↔ zEv sc 110 44 [l0, l1, l2, l3, l4] [.int (x1 + x2)] h Q := zE_pure (q := (44, [l0, l1, l2, l3, l4], [.int (x1 + x2)])) dz110_43 rfl rfl rfl
theorem dz110_44 : decode (z_code 110) 44 = .ok (.istore_n 3, 1) := by decide +kernel
theorem u110_44 : zEv sc 110 44 [l0, l1, l2, l3, l4] [.int x] h Q ↔ zEv sc 110 45 [l0, l1, l2, .int x, l4] [] h Q := zE_pure (q := (45, [l0, l1, l2, .int x, l4], [])) dz110_44 rfl rfl rfl
theorem dz110_45 : decode (z_code 110) 45 = .ok (.iinc 4 1, 3) := by decide +kernel
theorem u110_45 : zEv sc 110 45 [l0, l1, l2, l3, .int x] [] h Q ↔ zEv sc 110 48 [l0, l1, l2, l3, .int (x + 1)] [] h Q := zE_iinc (ls2 := [l0, l1, l2, l3, .int (x + 1)]) dz110_45 (by decide +kernel) rfl (by simp) rfl
theorem dz110_48 : decode (z_code 110) 48 = .ok (.goto (-43), 3) := by decide +kernel
theorem u110_48 : zEv sc 110 48 [l0, l1, l2, l3, l4] [] h Q ↔ zEv sc 110 5 [l0, l1, l2, l3, l4] [] h Q := zE_go 5 dz110_48 rfl
theorem dz110_51 : decode (z_code 110) 51 = .ok (.iload_n 3, 1) := by decide +kernel
theorem u110_51 : zEv sc 110 51 [l0, l1, l2, .int x, l4] [] h Q ↔ zEv sc 110 52 [l0, l1, l2, .int x, l4] [.int x] h Q := zE_pure (q := (52, [l0, l1, l2, .int x, l4], [.int x])) dz110_51 rfl rfl rfl
theorem dz110_52 : decode (z_code 110) 52 = .ok (.ireturn, 1) := by decide +kernel
theorem u110_52 : zEv sc 110 52 [l0, l1, l2, l3, l4] [.int x] h Q ↔ Q (some (.int x)) h := zE_ri dz110_52 (by decide +kernel)
/-! method 111: FieldMixturesModel.sumOfAll(I)I -/
theorem dz111_0 : decode (z_code 111) 0 = .ok (.iconst 0, 1) := by decide +kernel
theorem u111_0 : zEv sc 111 0 [l0, l1, l2, l3] [] h Q ↔ zEv sc 111 1 [l0, l1, l2, l3] [.int 0] h Q := zE_iconst dz111_0 (by decide +kernel)
theorem dz111_1 : decode (z_code 111) 1 = .ok (.istore_n 2, 1) := by decide +kernel
theorem u111_1 : zEv sc 111 1 [l0, l1, l2, l3] [.int x] h Q ↔ zEv sc 111 2 [l0, l1, .int x, l3] [] h Q := zE_pure (q := (2, [l0, l1, .int x, l3], [])) dz111_1 rfl rfl rfl
theorem dz111_2 : decode (z_code 111) 2 = .ok (.iconst 0, 1) := by decide +kernel
theorem u111_2 : zEv sc 111 2 [l0, l1, l2, l3] [] h Q ↔ zEv sc 111 3 [l0, l1, l2, l3] [.int 0] h Q := zE_iconst dz111_2 (by decide +kernel)
theorem dz111_3 : decode (z_code 111) 3 = .ok (.istore_n 3, 1) := by decide +kernel
theorem u111_3 : zEv sc 111 3 [l0, l1, l2, l3] [.int x] h Q ↔ zEv sc 111 4 [l0, l1, l2, .int x] [] h Q := zE_pure (q := (4, [l0, l1, l2, .int x], [])) dz111_3 rfl rfl rfl
theorem dz111_4 : decode (z_code 111) 4 = .ok (.iload_n 3, 1) := by decide +kernel
theorem u111_4 : zEv sc 111 4 [l0, l1, l2, .int x] [] h Q ↔ zEv sc 111 5 [l0, l1, l2, .int x] [.int x] h Q := zE_pure (q := (5, [l0, l1, l2, .int x], [.int x])) dz111_4 rfl rfl rfl
theorem dz111_5 : decode (z_code 111) 5 = .ok (.aload_n 0, 1) := by decide +kernel
theorem u111_5 : zEv sc 111 5 [.ref a, l1, l2, l3] [t0] h Q ↔ zEv sc 111 6 [.ref a, l1, l2, l3] [.ref a, t0] h Q := zE_pure (q := (6, [.ref a, l1, l2, l3], [.ref a, t0])) dz111_5 rfl rfl rfl
theorem dz111_6 : decode (z_code 111) 6 = .ok (.iload_n 1, 1) := by decide +kernel
theorem u111_6 : zEv sc 111 6 [l0, .int x, l2, l3] [t0, t1] h Q ↔ zEv sc 111 7 [l0, .int x, l2, l3] [.int x, t0, t1] h Q := zE_pure (q := (7, [l0, .int x, l2, l3], [.int x, t0, t1])) dz111_6 rfl rfl rfl
theorem dz111_7 : decode (z_code 111) 7 = .ok (.invokevirtual 58, 3) := by decide +kernel
theorem u111_7 (ho : zO a 10) : zEv sc 111 7 [l0, l1, l2, l3] [.int z0, .ref a, t0] (zst p iv) Q ↔ zEv sc 101 0 [.ref a, .int z0] [] (zst p iv) (fun r h9 => zEv sc 111 10 [l0, l1, l2, l3] (r.toList ++ [t0]) h9 Q) := zE_call (kd := 0) (na := 2) (nr := 1) (as := [.ref a, .int z0]) (rest := [t0]) (Or.inl ⟨rfl, rfl⟩) dz111_7 (by decide +kernel : z_lk2 zCT (z_cls 111) 58 = some (101, 0, 776)) (fun z => by cases z) rfl rfl rfl (by decide +kernel) rfl (Or.inr (zE_rc ho))
theorem dz111_10 : decode (z_code 111) 10 = .ok (.if_icmp .ge 30, 3) := by decide +kernel
theorem u111_10 : zEv sc 111 10 [l0, l1, l2, l3] [.int x2, .int x1] h Q ↔ (if x2 ≤ x1 then zEv sc 111 40 [l0, l1, l2, l3] [] h Q else zEv sc 111 13 [l0, l1, l2, l3] [] h Q) := zE_icP (P := x2 ≤ x1) inferInstance 40 dz111_10 rfl rfl
theorem dz111_13 : decode (z_code 111) 13 = .ok (.iload_n 2, 1) := by decide +kernel
theorem u111_13 : zEv sc 111 13 [l0, l1, .int x, l3] [] h Q ↔ zEv sc 111 14 [l0, l1, .int x, l3] [.int x] h Q := zE_pure (q := (14, [l0, l1, .int x, l3], [.int x])) dz111_13 rfl rfl rfl
theorem dz111_14 : decode (z_code 111) 14 = .ok (.aload_n 0, 1) := by decide +kernel
theorem u111_14 : zEv sc 111 14 [.ref a, l1, l2, l3] [t0] h Q ↔ zEv sc 111 15 [.ref a, l1, l2, l3] [.ref a, t0] h Q := zE_pure (q := (15, [.ref a, l1, l2, l3], [.ref a, t0])) dz111_14 rfl rfl rfl
theorem dz111_15 : decode (z_code 111) 15 = .ok (.iload_n 1, 1) := by decide +kernel
theorem u111_15 : zEv sc 111 15 [l0, .int x, l2, l3] [t0, t1] h Q ↔ zEv sc 111 16 [l0, .int x, l2, l3] [.int x, t0, t1] h Q := zE_pure (q := (16, [l0, .int x, l2, l3], [.int x, t0, t1])) dz111_15 rfl rfl rfl
theorem dz111_16 : decode (z_code 111) 16 = .ok (.iload_n 3, 1) := by decide +kernel
theorem u111_16 : zEv sc 111 16 [l0, l1, l2, .int x] [t0, t1, t2] h Q ↔ zEv sc 111 17 [l0, l1, l2, .int x] [.int x, t0, t1, t2] h Q := zE_pure (q := (17, [l0, l1, l2, .int x], [.int x, t0, t1, t2])) dz111_16 rfl rfl rfl
theorem dz111_17 : decode (z_code 111) 17 = .ok (.invokevirtual 61, 3) := by decide +kernel
theorem u111_17 (ho : zO a 10) : zEv sc 111 17 [l0, l1, l2, l3] [.int z1, .int z0, .ref a, t0] (zst p iv) Q ↔ zEv sc 103 0 [.ref a, .int z0, .int z1] [] (zst p iv) (fun r h9 => zEv sc 111 20 [l0, l1, l2, l3] (r.toList ++ [t0]) h9 Q) := zE_call (kd := 0) (na := 3) (nr := 1) (as := [.ref a, .int z0, .int z1]) (rest := [t0]) (Or.inl ⟨rfl, rfl⟩) dz111_17 (by decide +kernel : z_lk2 zCT (z_cls 111) 61 = some (103, 0, 824)) (fun z => by cases z) rfl rfl rfl (by decide +kernel) rfl (Or.inr (zE_rc ho))
theorem dz111_20 : decode (z_code 111) 20 = .ok (.aload_n 0, 1) := by decide +kernel
theorem u111_20 : zEv sc 111 20 [.ref a, l1, l2, l3] [t0, t1] h Q ↔ zEv sc 111 21 [.ref a, l1, l2, l3] [.ref a, t0, t1] h Q := zE_pure (q := (21, [.ref a, l1, l2, l3], [.ref a, t0, t1])) dz111_20 rfl rfl rfl
theorem dz111_21 : decode (z_code 111) 21 = .ok (.iload_n 1, 1) := by decide +kernel
theorem u111_21 : zEv sc 111 21 [l0, .int x, l2, l3] [t0, t1, t2] h Q ↔ zEv sc 111 22 [l0, .int x, l2, l3] [.int x, t0, t1, t2] h Q := zE_pure (q := (22, [l0, .int x, l2, l3], [.int x, t0, t1, t2])) dz111_21 rfl rfl rfl
theorem dz111_22 : decode (z_code 111) 22 = .ok (.aload_n 0, 1) := by decide +kernel
theorem u111_22 : zEv sc 111 22 [.ref a, l1, l2, l3] [t0, t1, t2, t3] h Q ↔ zEv sc 111 23 [.ref a, l1, l2, l3] [.ref a, t0, t1, t2, t3] h Q := zE_pure (q := (23, [.ref a, l1, l2, l3], [.ref a, t0, t1, t2, t3])) dz111_22 rfl rfl rfl
theorem dz111_23 : decode (z_code 111) 23 = .ok (.iload_n 1, 1) := by decide +kernel
theorem u111_23 : zEv sc 111 23 [l0, .int x, l2, l3] [t0, t1, t2, t3, t4] h Q ↔ zEv sc 111 24 [l0, .int x, l2, l3] [.int x, t0, t1, t2, t3, t4] h Q := zE_pure (q := (24, [l0, .int x, l2, l3], [.int x, t0, t1, t2, t3, t4])) dz111_23 rfl rfl rfl
theorem dz111_24 : decode (z_code 111) 24 = .ok (.iload_n 3, 1) := by decide +kernel
theorem u111_24 : zEv sc 111 24 [l0, l1, l2, .int x] [t0, t1, t2, t3, t4, t5] h Q ↔ zEv sc 111 25 [l0, l1, l2, .int x] [.int x, t0, t1, t2, t3, t4, t5] h Q := zE_pure (q := (25, [l0, l1, l2, .int x], [.int x, t0, t1, t2, t3, t4, t5])) dz111_24 rfl rfl rfl
theorem dz111_25 : decode (z_code 111) 25 = .ok (.invokevirtual 64, 3) := by decide +kernel
theorem u111_25 (ho : zO a 10) : zEv sc 111 25 [l0, l1, l2, l3] [.int z1, .int z0, .ref a, t0, t1, t2, t3] (zst p iv) Q ↔ zEv sc 102 0 [.ref a, .int z0, .int z1] [] (zst p iv) (fun r h9 => zEv sc 111 28 [l0, l1, l2, l3] (r.toList ++ [t0, t1, t2, t3]) h9 Q) := zE_call (kd := 0) (na := 3) (nr := 4) (as := [.ref a, .int z0, .int z1]) (rest := [t0, t1, t2, t3]) (Or.inl ⟨rfl, rfl⟩) dz111_25 (by decide +kernel : z_lk2 zCT (z_cls 111) 64 = some (102, 0, 780)) (fun z => by cases z) rfl rfl rfl (by decide +kernel) rfl (Or.inr (zE_rc ho))
theorem dz111_28 : decode (z_code 111) 28 = .ok (.invokevirtual 82, 3) := by decide +kernel
theorem u111_28 (ho : zO a 10) : zEv sc 111 28 [l0, l1, l2, l3] [.int z1, .int z0, .ref a, t0, t1] (zst p iv) Q ↔ zEv sc 110 0 [.ref a, .int z0, .int z1, .null, .null] [] (zst p iv) (fun r h9 => zEv sc 111 31 [l0, l1, l2, l3] (r.toList ++ [t0, t1]) h9 Q) := zE_call (kd := 0) (na := 3) (nr := 2) (as := [.ref a, .int z0, .int z1]) (rest := [t0, t1]) (Or.inl ⟨rfl, rfl⟩) dz111_28 (by decide +kernel : z_lk2 zCT (z_cls 111) 82 = some (110, 0, 850)) (fun z => by cases z) rfl rfl rfl (by decide +kernel) rfl (Or.inr (zE_rc ho))
theorem dz111_31 : decode (z_code 111) 31 = .ok (.imul, 1) := by decide +kernel
theorem u111_31 : zEv sc 111 31 [l0, l1, l2, l3] [.int x2, .int x1, t0] h Q ↔ zEv sc 111 32 [l0, l1, l2, l3] [.int (x1 * x2), t0] h Q := zE_pure (q := (32, [l0, l1, l2, l3], [.int (x1 * x2), t0])) dz111_31 rfl rfl rfl
theorem dz111_32 : decode (z_code 111) 32 = .ok (.iadd, 1) := by decide +kernel
theorem u111_32 : zEv sc 111 32 [l0, l1, l2, l3] [.int x2, .int x1] h Q ↔ zEv sc 111 33 [l0, l1, l2, l3] [.int (x1 + x2)] h Q := zE_pure (q := (33, [l0, l1, l2, l3], [.int (x1 + x2)])) dz111_32 rfl rfl rfl
theorem dz111_33 : decode (z_code 111) 33 = .ok (.istore_n 2, 1) := by decide +kernel
theorem u111_33 : zEv sc 111 33 [l0, l1, l2, l3] [.int x] h Q ↔ zEv sc 111 34 [l0, l1, .int x, l3] [] h Q := zE_pure (q := (34, [l0, l1, .int x, l3], [])) dz111_33 rfl rfl rfl
theorem dz111_34 : decode (z_code 111) 34 = .ok (.iinc 3 1, 3) := by decide +kernel
theorem u111_34 : zEv sc 111 34 [l0, l1, l2, .int x] [] h Q ↔ zEv sc 111 37 [l0, l1, l2, .int (x + 1)] [] h Q := zE_iinc (ls2 := [l0, l1, l2, .int (x + 1)]) dz111_34 (by decide +kernel) rfl (by simp) rfl
theorem dz111_37 : decode (z_code 111) 37 = .ok (.goto (-33), 3) := by decide +kernel
theorem u111_37 : zEv sc 111 37 [l0, l1, l2, l3] [] h Q ↔ zEv sc 111 4 [l0, l1, l2, l3] [] h Q := zE_go 4 dz111_37 rfl
theorem dz111_40 : decode (z_code 111) 40 = .ok (.iload_n 2, 1) := by decide +kernel
theorem u111_40 : zEv sc 111 40 [l0, l1, .int x, l3] [] h Q ↔ zEv sc 111 41 [l0, l1, .int x, l3] [.int x] h Q := zE_pure (q := (41, [l0, l1, .int x, l3], [.int x])) dz111_40 rfl rfl rfl
theorem dz111_41 : decode (z_code 111) 41 = .ok (.ireturn, 1) := by decide +kernel
theorem u111_41 : zEv sc 111 41 [l0, l1, l2, l3] [.int x] h Q ↔ Q (some (.int x)) h := zE_ri dz111_41 (by decide +kernel)
/-! method 112: FieldMixturesModel.common(II)I -/
theorem dz112_0 : decode (z_code 112) 0 = .ok (.iload_n 0, 1) := by decide +kernel
theorem u112_0 : zEv sc 112 0 [.int x, l1, l2, l3, l4] [] h Q ↔ zEv sc 112 1 [.int x, l1, l2, l3, l4] [.int x] h Q := zE_pure (q := (1, [.int x, l1, l2, l3, l4], [.int x])) dz112_0 rfl rfl rfl
theorem dz112_1 : decode (z_code 112) 1 = .ok (.ifCond .ge 8, 3) := by decide +kernel
theorem u112_1 : zEv sc 112 1 [l0, l1, l2, l3, l4] [.int x] h Q ↔ (if 0 ≤ x then zEv sc 112 9 [l0, l1, l2, l3, l4] [] h Q else zEv sc 112 4 [l0, l1, l2, l3, l4] [] h Q) := zE_ifP (P := 0 ≤ x) inferInstance 9 dz112_1 rfl rfl
theorem dz112_4 : decode (z_code 112) 4 = .ok (.iload_n 0, 1) := by decide +kernel
theorem u112_4 : zEv sc 112 4 [.int x, l1, l2, l3, l4] [] h Q ↔ zEv sc 112 5 [.int x, l1, l2, l3, l4] [.int x] h Q := zE_pure (q := (5, [.int x, l1, l2, l3, l4], [.int x])) dz112_4 rfl rfl rfl
theorem dz112_5 : decode (z_code 112) 5 = .ok (.ineg, 1) := by decide +kernel
theorem u112_5 : zEv sc 112 5 [l0, l1, l2, l3, l4] [.int x] h Q ↔ zEv sc 112 6 [l0, l1, l2, l3, l4] [.int (-x)] h Q := zE_pure (q := (6, [l0, l1, l2, l3, l4], [.int (-x)])) dz112_5 rfl rfl rfl
theorem dz112_6 : decode (z_code 112) 6 = .ok (.goto 4, 3) := by decide +kernel
theorem u112_6 : zEv sc 112 6 [l0, l1, l2, l3, l4] [t0] h Q ↔ zEv sc 112 10 [l0, l1, l2, l3, l4] [t0] h Q := zE_go 10 dz112_6 rfl
theorem dz112_10 : decode (z_code 112) 10 = .ok (.istore_n 2, 1) := by decide +kernel
theorem u112_10 : zEv sc 112 10 [l0, l1, l2, l3, l4] [.int x] h Q ↔ zEv sc 112 11 [l0, l1, .int x, l3, l4] [] h Q := zE_pure (q := (11, [l0, l1, .int x, l3, l4], [])) dz112_10 rfl rfl rfl
theorem dz112_11 : decode (z_code 112) 11 = .ok (.iload_n 1, 1) := by decide +kernel
theorem u112_11 : zEv sc 112 11 [l0, .int x, l2, l3, l4] [] h Q ↔ zEv sc 112 12 [l0, .int x, l2, l3, l4] [.int x] h Q := zE_pure (q := (12, [l0, .int x, l2, l3, l4], [.int x])) dz112_11 rfl rfl rfl
theorem dz112_12 : decode (z_code 112) 12 = .ok (.istore_n 3, 1) := by decide +kernel
theorem u112_12 : zEv sc 112 12 [l0, l1, l2, l3, l4] [.int x] h Q ↔ zEv sc 112 13 [l0, l1, l2, .int x, l4] [] h Q := zE_pure (q := (13, [l0, l1, l2, .int x, l4], [])) dz112_12 rfl rfl rfl
theorem dz112_13 : decode (z_code 112) 13 = .ok (.iload_n 3, 1) := by decide +kernel
theorem u112_13 : zEv sc 112 13 [l0, l1, l2, .int x, l4] [] h Q ↔ zEv sc 112 14 [l0, l1, l2, .int x, l4] [.int x] h Q := zE_pure (q := (14, [l0, l1, l2, .int x, l4], [.int x])) dz112_13 rfl rfl rfl
theorem dz112_14 : decode (z_code 112) 14 = .ok (.ifCond .eq 16, 3) := by decide +kernel
theorem u112_14 : zEv sc 112 14 [l0, l1, l2, l3, l4] [.int x] h Q ↔ (if x = 0 then zEv sc 112 30 [l0, l1, l2, l3, l4] [] h Q else zEv sc 112 17 [l0, l1, l2, l3, l4] [] h Q) := zE_ifP (P := x = 0) inferInstance 30 dz112_14 rfl rfl
theorem dz112_17 : decode (z_code 112) 17 = .ok (.iload_n 2, 1) := by decide +kernel
theorem u112_17 : zEv sc 112 17 [l0, l1, .int x, l3, l4] [] h Q ↔ zEv sc 112 18 [l0, l1, .int x, l3, l4] [.int x] h Q := zE_pure (q := (18, [l0, l1, .int x, l3, l4], [.int x])) dz112_17 rfl rfl rfl
theorem dz112_18 : decode (z_code 112) 18 = .ok (.iload_n 3, 1) := by decide +kernel
theorem u112_18 : zEv sc 112 18 [l0, l1, l2, .int x, l4] [t0] h Q ↔ zEv sc 112 19 [l0, l1, l2, .int x, l4] [.int x, t0] h Q := zE_pure (q := (19, [l0, l1, l2, .int x, l4], [.int x, t0])) dz112_18 rfl rfl rfl
theorem dz112_19 : decode (z_code 112) 19 = .ok (.irem, 1) := by decide +kernel
theorem u112_19 : zEv sc 112 19 [l0, l1, l2, l3, l4] [.int x2, .int x1] h Q ↔ (¬ x2 = 0 ∧ zEv sc 112 20 [l0, l1, l2, l3, l4] [.int (x1 - x1 / x2 * x2)] h Q) := zE_rem dz112_19
theorem dz112_20 : decode (z_code 112) 20 = .ok (.istore 4, 2) := by decide +kernel
theorem u112_20 : zEv sc 112 20 [l0, l1, l2, l3, l4] [.int x] h Q ↔ zEv sc 112 22 [l0, l1, l2, l3, .int x] [] h Q := zE_pure (q := (22, [l0, l1, l2, l3, .int x], [])) dz112_20 rfl rfl rfl
theorem dz112_22 : decode (z_code 112) 22 = .ok (.iload_n 3, 1) := by decide +kernel
theorem u112_22 : zEv sc 112 22 [l0, l1, l2, .int x, l4] [] h Q ↔ zEv sc 112 23 [l0, l1, l2, .int x, l4] [.int x] h Q := zE_pure (q := (23, [l0, l1, l2, .int x, l4], [.int x])) dz112_22 rfl rfl rfl
theorem dz112_23 : decode (z_code 112) 23 = .ok (.istore_n 2, 1) := by decide +kernel
theorem u112_23 : zEv sc 112 23 [l0, l1, l2, l3, l4] [.int x] h Q ↔ zEv sc 112 24 [l0, l1, .int x, l3, l4] [] h Q := zE_pure (q := (24, [l0, l1, .int x, l3, l4], [])) dz112_23 rfl rfl rfl
theorem dz112_24 : decode (z_code 112) 24 = .ok (.iload 4, 2) := by decide +kernel
theorem u112_24 : zEv sc 112 24 [l0, l1, l2, l3, .int x] [] h Q ↔ zEv sc 112 26 [l0, l1, l2, l3, .int x] [.int x] h Q := zE_pure (q := (26, [l0, l1, l2, l3, .int x], [.int x])) dz112_24 rfl rfl rfl
theorem dz112_26 : decode (z_code 112) 26 = .ok (.istore_n 3, 1) := by decide +kernel
theorem u112_26 : zEv sc 112 26 [l0, l1, l2, l3, l4] [.int x] h Q ↔ zEv sc 112 27 [l0, l1, l2, .int x, l4] [] h Q := zE_pure (q := (27, [l0, l1, l2, .int x, l4], [])) dz112_26 rfl rfl rfl
theorem dz112_27 : decode (z_code 112) 27 = .ok (.goto (-14), 3) := by decide +kernel
theorem u112_27 : zEv sc 112 27 [l0, l1, l2, l3, l4] [] h Q ↔ zEv sc 112 13 [l0, l1, l2, l3, l4] [] h Q := zE_go 13 dz112_27 rfl
theorem dz112_30 : decode (z_code 112) 30 = .ok (.iload_n 2, 1) := by decide +kernel
theorem u112_30 : zEv sc 112 30 [l0, l1, .int x, l3, l4] [] h Q ↔ zEv sc 112 31 [l0, l1, .int x, l3, l4] [.int x] h Q := zE_pure (q := (31, [l0, l1, .int x, l3, l4], [.int x])) dz112_30 rfl rfl rfl
theorem dz112_31 : decode (z_code 112) 31 = .ok (.ireturn, 1) := by decide +kernel
theorem u112_31 : zEv sc 112 31 [l0, l1, l2, l3, l4] [.int x] h Q ↔ Q (some (.int x)) h := zE_ri dz112_31 (by decide +kernel)
theorem dz112_9 : decode (z_code 112) 9 = .ok (.iload_n 0, 1) := by decide +kernel
theorem u112_9 : zEv sc 112 9 [.int x, l1, l2, l3, l4] [] h Q ↔ zEv sc 112 10 [.int x, l1, l2, l3, l4] [.int x] h Q := zE_pure (q := (10, [.int x, l1, l2, l3, l4], [.int x])) dz112_9 rfl rfl rfl
/-! method 113: FieldMixturesModel.part(III)I -/
theorem dz113_0 : decode (z_code 113) 0 = .ok (.iload_n 0, 1) := by decide +kernel
theorem u113_0 : zEv sc 113 0 [.int x, l1, l2, l3] [] h Q ↔ zEv sc 113 1 [.int x, l1, l2, l3] [.int x] h Q := zE_pure (q := (1, [.int x, l1, l2, l3], [.int x])) dz113_0 rfl rfl rfl
theorem dz113_1 : decode (z_code 113) 1 = .ok (.iload_n 1, 1) := by decide +kernel
theorem u113_1 : zEv sc 113 1 [l0, .int x, l2, l3] [t0] h Q ↔ zEv sc 113 2 [l0, .int x, l2, l3] [.int x, t0] h Q := zE_pure (q := (2, [l0, .int x, l2, l3], [.int x, t0])) dz113_1 rfl rfl rfl
theorem dz113_2 : decode (z_code 113) 2 = .ok (.invokestatic 85, 3) := by decide +kernel
theorem u113_2 : zEv sc 113 2 [l0, l1, l2, l3] [.int z1, .int z0] h Q ↔ zEv sc 112 0 [.int z0, .int z1, .null, .null, .null] [] h (fun r h9 => zEv sc 113 5 [l0, l1, l2, l3] (r.toList ++ []) h9 Q) := zE_call (kd := 1) (na := 2) (nr := 0) (as := [.int z0, .int z1]) (rest := []) (Or.inr ⟨rfl, rfl⟩) dz113_2 (by decide +kernel : z_lk2 zCT (z_cls 113) 85 = some (112, 0, 894)) (fun _ => by decide +kernel) rfl rfl rfl (by decide +kernel) rfl (Or.inl rfl)
theorem dz113_5 : decode (z_code 113) 5 = .ok (.istore_n 3, 1) := by decide +kernel
theorem u113_5 : zEv sc 113 5 [l0, l1, l2, l3] [.int x] h Q ↔ zEv sc 113 6 [l0, l1, l2, .int x] [] h Q := zE_pure (q := (6, [l0, l1, l2, .int x], [])) dz113_5 rfl rfl rfl
theorem dz113_6 : decode (z_code 113) 6 = .ok (.iload_n 2, 1) := by decide +kernel
theorem u113_6 : zEv sc 113 6 [l0, l1, .int x, l3] [] h Q ↔ zEv sc 113 7 [l0, l1, .int x, l3] [.int x] h Q := zE_pure (q := (7, [l0, l1, .int x, l3], [.int x])) dz113_6 rfl rfl rfl
theorem dz113_7 : decode (z_code 113) 7 = .ok (.ifCond .ne 12, 3) := by decide +kernel
theorem u113_7 : zEv sc 113 7 [l0, l1, l2, l3] [.int x] h Q ↔ (if ¬ x = 0 then zEv sc 113 19 [l0, l1, l2, l3] [] h Q else zEv sc 113 10 [l0, l1, l2, l3] [] h Q) := zE_ifP (P := ¬ x = 0) inferInstance 19 dz113_7 rfl rfl
theorem dz113_10 : decode (z_code 113) 10 = .ok (.ldc 88, 2) := by decide +kernel
theorem u113_10 : zEv sc 113 10 [l0, l1, l2, l3] [] h Q ↔ zEv sc 113 12 [l0, l1, l2, l3] [.int 100000000] h Q := zE_ldc (by decide +kernel : z_lkK zKT (z_cls 113) 88 = some (100000000, 897)) dz113_10
theorem dz113_12 : decode (z_code 113) 12 = .ok (.iload_n 0, 1) := by decide +kernel
theorem u113_12 : zEv sc 113 12 [.int x, l1, l2, l3] [t0] h Q ↔ zEv sc 113 13 [.int x, l1, l2, l3] [.int x, t0] h Q := zE_pure (q := (13, [.int x, l1, l2, l3], [.int x, t0])) dz113_12 rfl rfl rfl
theorem dz113_13 : decode (z_code 113) 13 = .ok (.iload_n 3, 1) := by decide +kernel
theorem u113_13 : zEv sc 113 13 [l0, l1, l2, .int x] [t0, t1] h Q ↔ zEv sc 113 14 [l0, l1, l2, .int x] [.int x, t0, t1] h Q := zE_pure (q := (14, [l0, l1, l2, .int x], [.int x, t0, t1])) dz113_13 rfl rfl rfl
theorem dz113_14 : decode (z_code 113) 14 = .ok (.idiv, 1) := by decide +kernel
theorem u113_14 : zEv sc 113 14 [l0, l1, l2, l3] [.int x2, .int x1, t0] h Q ↔ (¬ x2 = 0 ∧ zEv sc 113 15 [l0, l1, l2, l3] [.int (x1 / x2), t0] h Q) := zE_div dz113_14
theorem dz113_15 : decode (z_code 113) 15 = .ok (.iadd, 1) := by decide +kernel
theorem u113_15 : zEv sc 113 15 [l0, l1, l2, l3] [.int x2, .int x1] h Q ↔ zEv sc 113 16 [l0, l1, l2, l3] [.int (x1 + x2)] h Q := zE_pure (q := (16, [l0, l1, l2, l3], [.int (x1 + x2)])) dz113_15 rfl rfl rfl
theorem dz113_16 : decode (z_code 113) 16 = .ok (.goto 6, 3) := by decide +kernel
theorem u113_16 : zEv sc 113 16 [l0, l1, l2, l3] [t0] h Q ↔ zEv sc 113 22 [l0, l1, l2, l3] [t0] h Q := zE_go 22 dz113_16 rfl
theorem dz113_22 : decode (z_code 113) 22 = .ok (.ireturn, 1) := by decide +kernel
theorem u113_22 : zEv sc 113 22 [l0, l1, l2, l3] [.int x] h Q ↔ Q (some (.int x)) h := zE_ri dz113_22 (by decide +kernel)
theorem dz113_19 : decode (z_code 113) 19 = .ok (.iload_n 1, 1) := by decide +kernel
theorem u113_19 : zEv sc 113 19 [l0, .int x, l2, l3] [] h Q ↔ zEv sc 113 20 [l0, .int x, l2, l3] [.int x] h Q := zE_pure (q := (20, [l0, .int x, l2, l3], [.int x])) dz113_19 rfl rfl rfl
theorem dz113_20 : decode (z_code 113) 20 = .ok (.iload_n 3, 1) := by decide +kernel
theorem u113_20 : zEv sc 113 20 [l0, l1, l2, .int x] [t0] h Q ↔ zEv sc 113 21 [l0, l1, l2, .int x] [.int x, t0] h Q := zE_pure (q := (21, [l0, l1, l2, .int x], [.int x, t0])) dz113_20 rfl rfl rfl
theorem dz113_21 : decode (z_code 113) 21 = .ok (.idiv, 1) := by decide +kernel
theorem u113_21 : zEv sc 113 21 [l0, l1, l2, l3] [.int x2, .int x1] h Q ↔ (¬ x2 = 0 ∧ zEv sc 113 22 [l0, l1, l2, l3] [.int (x1 / x2)] h Q) := zE_div dz113_21
/-! method 114: FieldMixturesModel.best(I)I -/
theorem dz114_0 : decode (z_code 114) 0 = .ok (.aload_n 0, 1) := by decide +kernel
theorem u114_0 : zEv sc 114 0 [.ref a, l1, l2, l3, l4, l5] [] h Q ↔ zEv sc 114 1 [.ref a, l1, l2, l3, l4, l5] [.ref a] h Q := zE_pure (q := (1, [.ref a, l1, l2, l3, l4, l5], [.ref a])) dz114_0 rfl rfl rfl
theorem dz114_1 : decode (z_code 114) 1 = .ok (.iload_n 1, 1) := by decide +kernel
theorem u114_1 : zEv sc 114 1 [l0, .int x, l2, l3, l4, l5] [t0] h Q ↔ zEv sc 114 2 [l0, .int x, l2, l3, l4, l5] [.int x, t0] h Q := zE_pure (q := (2, [l0, .int x, l2, l3, l4, l5], [.int x, t0])) dz114_1 rfl rfl rfl
theorem dz114_2 : decode (z_code 114) 2 = .ok (.invokevirtual 89, 3) := by decide +kernel
theorem u114_2 (ho : zO a 10) : zEv sc 114 2 [l0, l1, l2, l3, l4, l5] [.int z0, .ref a] (zst p iv) Q ↔ zEv sc 97 0 [.ref a, .int z0, .null, .null] [] (zst p iv) (fun r h9 => zEv sc 114 5 [l0, l1, l2, l3, l4, l5] (r.toList ++ []) h9 Q) := zE_call (kd := 0) (na := 2) (nr := 0) (as := [.ref a, .int z0]) (rest := []) (Or.inl ⟨rfl, rfl⟩) dz114_2 (by decide +kernel : z_lk2 zCT (z_cls 114) 89 = some (97, 0, 846)) (fun z => by cases z) rfl rfl rfl (by decide +kernel) rfl (Or.inr (zE_rc ho))
theorem dz114_5 : decode (z_code 114) 5 = .ok (.iconst (-1), 1) := by decide +kernel
theorem u114_5 : zEv sc 114 5 [l0, l1, l2, l3, l4, l5] [] h Q ↔ zEv sc 114 6 [l0, l1, l2, l3, l4, l5] [.int (-1)] h Q := zE_iconst dz114_5 (by decide +kernel)
theorem dz114_6 : decode (z_code 114) 6 = .ok (.istore_n 2, 1) := by decide +kernel
theorem u114_6 : zEv sc 114 6 [l0, l1, l2, l3, l4, l5] [.int x] h Q ↔ zEv sc 114 7 [l0, l1, .int x, l3, l4, l5] [] h Q := zE_pure (q := (7, [l0, l1, .int x, l3, l4, l5], [])) dz114_6 rfl rfl rfl
theorem dz114_7 : decode (z_code 114) 7 = .ok (.aload_n 0, 1) := by decide +kernel
theorem u114_7 : zEv sc 114 7 [.ref a, l1, l2, l3, l4, l5] [] h Q ↔ zEv sc 114 8 [.ref a, l1, l2, l3, l4, l5] [.ref a] h Q := zE_pure (q := (8, [.ref a, l1, l2, l3, l4, l5], [.ref a])) dz114_7 rfl rfl rfl
theorem dz114_8 : decode (z_code 114) 8 = .ok (.iconst 0, 1) := by decide +kernel
theorem u114_8 : zEv sc 114 8 [l0, l1, l2, l3, l4, l5] [t0] h Q ↔ zEv sc 114 9 [l0, l1, l2, l3, l4, l5] [.int 0, t0] h Q := zE_iconst dz114_8 (by decide +kernel)
theorem dz114_9 : decode (z_code 114) 9 = .ok (.putfield 92, 3) := by decide +kernel
theorem u114_9 (ho : zO a 10) : zEv sc 114 9 [l0, l1, l2, l3, l4, l5] [.int x, .ref a] (zst p iv) Q ↔ zEv sc 114 12 [l0, l1, l2, l3, l4, l5] [] (zst p (w2 iv a 8 x)) Q := zE_pfI dz114_9 (by decide +kernel : z_lk3 zFT (z_cls 114) 92 = some (10, 8, 0, 685)) (by decide +kernel) (by decide +kernel) (by decide +kernel) ho
theorem dz114_12 : decode (z_code 114) 12 = .ok (.aload_n 0, 1) := by decide +kernel
theorem u114_12 : zEv sc 114 12 [.ref a, l1, l2, l3, l4, l5] [] h Q ↔ zEv sc 114 13 [.ref a, l1, l2, l3, l4, l5] [.ref a] h Q := zE_pure (q := (13, [.ref a, l1, l2, l3, l4, l5], [.ref a])) dz114_12 rfl rfl rfl
theorem dz114_13 : decode (z_code 114) 13 = .ok (.iconst 0, 1) := by decide +kernel
theorem u114_13 : zEv sc 114 13 [l0, l1, l2, l3, l4, l5] [t0] h Q ↔ zEv sc 114 14 [l0, l1, l2, l3, l4, l5] [.int 0, t0] h Q := zE_iconst dz114_13 (by decide +kernel)
theorem dz114_14 : decode (z_code 114) 14 = .ok (.putfield 95, 3) := by decide +kernel
theorem u114_14 (ho : zO a 10) : zEv sc 114 14 [l0, l1, l2, l3, l4, l5] [.int x, .ref a] (zst p iv) Q ↔ zEv sc 114 17 [l0, l1, l2, l3, l4, l5] [] (zst p (w2 iv a 9 x)) Q := zE_pfI dz114_14 (by decide +kernel : z_lk3 zFT (z_cls 114) 95 = some (10, 9, 0, 686)) (by decide +kernel) (by decide +kernel) (by decide +kernel) ho
theorem dz114_17 : decode (z_code 114) 17 = .ok (.iconst 0, 1) := by decide +kernel
theorem u114_17 : zEv sc 114 17 [l0, l1, l2, l3, l4, l5] [] h Q ↔ zEv sc 114 18 [l0, l1, l2, l3, l4, l5] [.int 0] h Q := zE_iconst dz114_17 (by decide +kernel)
theorem dz114_18 : decode (z_code 114) 18 = .ok (.istore_n 3, 1) := by decide +kernel
theorem u114_18 : zEv sc 114 18 [l0, l1, l2, l3, l4, l5] [.int x] h Q ↔ zEv sc 114 19 [l0, l1, l2, .int x, l4, l5] [] h Q := zE_pure (q := (19, [l0, l1, l2, .int x, l4, l5], [])) dz114_18 rfl rfl rfl
theorem dz114_19 : decode (z_code 114) 19 = .ok (.iload_n 3, 1) := by decide +kernel
theorem u114_19 : zEv sc 114 19 [l0, l1, l2, .int x, l4, l5] [] h Q ↔ zEv sc 114 20 [l0, l1, l2, .int x, l4, l5] [.int x] h Q := zE_pure (q := (20, [l0, l1, l2, .int x, l4, l5], [.int x])) dz114_19 rfl rfl rfl
theorem dz114_20 : decode (z_code 114) 20 = .ok (.aload_n 0, 1) := by decide +kernel
theorem u114_20 : zEv sc 114 20 [.ref a, l1, l2, l3, l4, l5] [t0] h Q ↔ zEv sc 114 21 [.ref a, l1, l2, l3, l4, l5] [.ref a, t0] h Q := zE_pure (q := (21, [.ref a, l1, l2, l3, l4, l5], [.ref a, t0])) dz114_20 rfl rfl rfl
theorem dz114_21 : decode (z_code 114) 21 = .ok (.getfield 25, 3) := by decide +kernel
theorem u114_21 (ho : zO a 10) : zEv sc 114 21 [l0, l1, l2, l3, l4, l5] [.ref a, t0] (zst p iv) Q ↔ zRef (zRV p a 7) (fun j => zEv sc 114 24 [l0, l1, l2, l3, l4, l5] [.ref j, t0] (zst p iv) Q) := zE_gfR dz114_21 (by decide +kernel : z_lk3 zFT (z_cls 114) 25 = some (10, 7, 0, 684)) (by decide +kernel) ho
theorem dz114_24 : decode (z_code 114) 24 = .ok (.iload_n 1, 1) := by decide +kernel
theorem u114_24 : zEv sc 114 24 [l0, .int x, l2, l3, l4, l5] [t0, t1] h Q ↔ zEv sc 114 25 [l0, .int x, l2, l3, l4, l5] [.int x, t0, t1] h Q := zE_pure (q := (25, [l0, .int x, l2, l3, l4, l5], [.int x, t0, t1])) dz114_24 rfl rfl rfl
theorem dz114_25 : decode (z_code 114) 25 = .ok (.iaload, 1) := by decide +kernel
theorem u114_25 (ho : zO a 100) : zEv sc 114 25 [l0, l1, l2, l3, l4, l5] [.int x, .ref a, t0] (zst p iv) Q ↔ (vp_in x (zLn a) ∧ zEv sc 114 26 [l0, l1, l2, l3, l4, l5] [.int (iv a x.toNatClampNeg), t0] (zst p iv) Q) := zE_ald (Or.inl ⟨rfl, rfl⟩) dz114_25 ho
theorem dz114_26 : decode (z_code 114) 26 = .ok (.if_icmp .ge 123, 3) := by decide +kernel
theorem u114_26 : zEv sc 114 26 [l0, l1, l2, l3, l4, l5] [.int x2, .int x1] h Q ↔ (if x2 ≤ x1 then zEv sc 114 149 [l0, l1, l2, l3, l4, l5] [] h Q else zEv sc 114 29 [l0, l1, l2, l3, l4, l5] [] h Q) := zE_icP (P := x2 ≤ x1) inferInstance 149 dz114_26 rfl rfl
theorem dz114_29 : decode (z_code 114) 29 = .ok (.aload_n 0, 1) := by decide +kernel
theorem u114_29 : zEv sc 114 29 [.ref a, l1, l2, l3, l4, l5] [] h Q ↔ zEv sc 114 30 [.ref a, l1, l2, l3, l4, l5] [.ref a] h Q := zE_pure (q := (30, [.ref a, l1, l2, l3, l4, l5], [.ref a])) dz114_29 rfl rfl rfl
theorem dz114_30 : decode (z_code 114) 30 = .ok (.iload_n 1, 1) := by decide +kernel
theorem u114_30 : zEv sc 114 30 [l0, .int x, l2, l3, l4, l5] [t0] h Q ↔ zEv sc 114 31 [l0, .int x, l2, l3, l4, l5] [.int x, t0] h Q := zE_pure (q := (31, [l0, .int x, l2, l3, l4, l5], [.int x, t0])) dz114_30 rfl rfl rfl
theorem dz114_31 : decode (z_code 114) 31 = .ok (.aload_n 0, 1) := by decide +kernel
theorem u114_31 : zEv sc 114 31 [.ref a, l1, l2, l3, l4, l5] [t0, t1] h Q ↔ zEv sc 114 32 [.ref a, l1, l2, l3, l4, l5] [.ref a, t0, t1] h Q := zE_pure (q := (32, [.ref a, l1, l2, l3, l4, l5], [.ref a, t0, t1])) dz114_31 rfl rfl rfl
theorem dz114_32 : decode (z_code 114) 32 = .ok (.getfield 22, 3) := by decide +kernel
theorem u114_32 (ho : zO a 10) : zEv sc 114 32 [l0, l1, l2, l3, l4, l5] [.ref a, t0, t1] (zst p iv) Q ↔ zRef (zRV p a 6) (fun j => zEv sc 114 35 [l0, l1, l2, l3, l4, l5] [.ref j, t0, t1] (zst p iv) Q) := zE_gfR dz114_32 (by decide +kernel : z_lk3 zFT (z_cls 114) 22 = some (10, 6, 0, 683)) (by decide +kernel) ho
theorem dz114_35 : decode (z_code 114) 35 = .ok (.sipush 170, 3) := by decide +kernel
theorem u114_35 : zEv sc 114 35 [l0, l1, l2, l3, l4, l5] [t0, t1, t2] h Q ↔ zEv sc 114 38 [l0, l1, l2, l3, l4, l5] [.int 170, t0, t1, t2] h Q := zE_sipush dz114_35 (by decide +kernel)
theorem dz114_38 : decode (z_code 114) 38 = .ok (.iload_n 1, 1) := by decide +kernel
theorem u114_38 : zEv sc 114 38 [l0, .int x, l2, l3, l4, l5] [t0, t1, t2, t3] h Q ↔ zEv sc 114 39 [l0, .int x, l2, l3, l4, l5] [.int x, t0, t1, t2, t3] h Q := zE_pure (q := (39, [l0, .int x, l2, l3, l4, l5], [.int x, t0, t1, t2, t3])) dz114_38 rfl rfl rfl
theorem dz114_39 : decode (z_code 114) 39 = .ok (.imul, 1) := by decide +kernel
theorem u114_39 : zEv sc 114 39 [l0, l1, l2, l3, l4, l5] [.int x2, .int x1, t0, t1, t2] h Q ↔ zEv sc 114 40 [l0, l1, l2, l3, l4, l5] [.int (x1 * x2), t0, t1, t2] h Q := zE_pure (q := (40, [l0, l1, l2, l3, l4, l5], [.int (x1 * x2), t0, t1, t2])) dz114_39 rfl rfl rfl
theorem dz114_40 : decode (z_code 114) 40 = .ok (.iload_n 3, 1) := by decide +kernel
theorem u114_40 : zEv sc 114 40 [l0, l1, l2, .int x, l4, l5] [t0, t1, t2, t3] h Q ↔ zEv sc 114 41 [l0, l1, l2, .int x, l4, l5] [.int x, t0, t1, t2, t3] h Q := zE_pure (q := (41, [l0, l1, l2, .int x, l4, l5], [.int x, t0, t1, t2, t3])) dz114_40 rfl rfl rfl
theorem dz114_41 : decode (z_code 114) 41 = .ok (.iadd, 1) := by decide +kernel
theorem u114_41 : zEv sc 114 41 [l0, l1, l2, l3, l4, l5] [.int x2, .int x1, t0, t1, t2] h Q ↔ zEv sc 114 42 [l0, l1, l2, l3, l4, l5] [.int (x1 + x2), t0, t1, t2] h Q := zE_pure (q := (42, [l0, l1, l2, l3, l4, l5], [.int (x1 + x2), t0, t1, t2])) dz114_41 rfl rfl rfl
theorem dz114_42 : decode (z_code 114) 42 = .ok (.iaload, 1) := by decide +kernel
theorem u114_42 (ho : zO a 100) : zEv sc 114 42 [l0, l1, l2, l3, l4, l5] [.int x, .ref a, t0, t1] (zst p iv) Q ↔ (vp_in x (zLn a) ∧ zEv sc 114 43 [l0, l1, l2, l3, l4, l5] [.int (iv a x.toNatClampNeg), t0, t1] (zst p iv) Q) := zE_ald (Or.inl ⟨rfl, rfl⟩) dz114_42 ho
theorem dz114_43 : decode (z_code 114) 43 = .ok (.invokevirtual 82, 3) := by decide +kernel
theorem u114_43 (ho : zO a 10) : zEv sc 114 43 [l0, l1, l2, l3, l4, l5] [.int z1, .int z0, .ref a] (zst p iv) Q ↔ zEv sc 110 0 [.ref a, .int z0, .int z1, .null, .null] [] (zst p iv) (fun r h9 => zEv sc 114 46 [l0, l1, l2, l3, l4, l5] (r.toList ++ []) h9 Q) := zE_call (kd := 0) (na := 3) (nr := 0) (as := [.ref a, .int z0, .int z1]) (rest := []) (Or.inl ⟨rfl, rfl⟩) dz114_43 (by decide +kernel : z_lk2 zCT (z_cls 114) 82 = some (110, 0, 850)) (fun z => by cases z) rfl rfl rfl (by decide +kernel) rfl (Or.inr (zE_rc ho))
theorem dz114_46 : decode (z_code 114) 46 = .ok (.istore 4, 2) := by decide +kernel
theorem u114_46 : zEv sc 114 46 [l0, l1, l2, l3, l4, l5] [.int x] h Q ↔ zEv sc 114 48 [l0, l1, l2, l3, .int x, l5] [] h Q := zE_pure (q := (48, [l0, l1, l2, l3, .int x, l5], [])) dz114_46 rfl rfl rfl
theorem dz114_48 : decode (z_code 114) 48 = .ok (.iload_n 2, 1) := by decide +kernel
theorem u114_48 : zEv sc 114 48 [l0, l1, .int x, l3, l4, l5] [] h Q ↔ zEv sc 114 49 [l0, l1, .int x, l3, l4, l5] [.int x] h Q := zE_pure (q := (49, [l0, l1, .int x, l3, l4, l5], [.int x])) dz114_48 rfl rfl rfl
theorem dz114_49 : decode (z_code 114) 49 = .ok (.ifCond .lt 12, 3) := by decide +kernel
theorem u114_49 : zEv sc 114 49 [l0, l1, l2, l3, l4, l5] [.int x] h Q ↔ (if x < 0 then zEv sc 114 61 [l0, l1, l2, l3, l4, l5] [] h Q else zEv sc 114 52 [l0, l1, l2, l3, l4, l5] [] h Q) := zE_ifP (P := x < 0) inferInstance 61 dz114_49 rfl rfl
theorem dz114_52 : decode (z_code 114) 52 = .ok (.iload 4, 2) := by decide +kernel
theorem u114_52 : zEv sc 114 52 [l0, l1, l2, l3, .int x, l5] [] h Q ↔ zEv sc 114 54 [l0, l1, l2, l3, .int x, l5] [.int x] h Q := zE_pure (q := (54, [l0, l1, l2, l3, .int x, l5], [.int x])) dz114_52 rfl rfl rfl
theorem dz114_54 : decode (z_code 114) 54 = .ok (.aload_n 0, 1) := by decide +kernel
theorem u114_54 : zEv sc 114 54 [.ref a, l1, l2, l3, l4, l5] [t0] h Q ↔ zEv sc 114 55 [.ref a, l1, l2, l3, l4, l5] [.ref a, t0] h Q := zE_pure (q := (55, [.ref a, l1, l2, l3, l4, l5], [.ref a, t0])) dz114_54 rfl rfl rfl
theorem dz114_55 : decode (z_code 114) 55 = .ok (.getfield 92, 3) := by decide +kernel
theorem u114_55 (ho : zO a 10) : zEv sc 114 55 [l0, l1, l2, l3, l4, l5] [.ref a, t0] (zst p iv) Q ↔ zEv sc 114 58 [l0, l1, l2, l3, l4, l5] [.int (iv a 8), t0] (zst p iv) Q := zE_gfI dz114_55 (by decide +kernel : z_lk3 zFT (z_cls 114) 92 = some (10, 8, 0, 685)) (by decide +kernel) ho
theorem dz114_58 : decode (z_code 114) 58 = .ok (.if_icmp .le 7, 3) := by decide +kernel
theorem u114_58 : zEv sc 114 58 [l0, l1, l2, l3, l4, l5] [.int x2, .int x1] h Q ↔ (if x1 ≤ x2 then zEv sc 114 65 [l0, l1, l2, l3, l4, l5] [] h Q else zEv sc 114 61 [l0, l1, l2, l3, l4, l5] [] h Q) := zE_icP (P := x1 ≤ x2) inferInstance 65 dz114_58 rfl rfl
theorem dz114_65 : decode (z_code 114) 65 = .ok (.iconst 0, 1) := by decide +kernel
theorem u114_65 : zEv sc 114 65 [l0, l1, l2, l3, l4, l5] [] h Q ↔ zEv sc 114 66 [l0, l1, l2, l3, l4, l5] [.int 0] h Q := zE_iconst dz114_65 (by decide +kernel)
theorem dz114_66 : decode (z_code 114) 66 = .ok (.istore 5, 2) := by decide +kernel
theorem u114_66 : zEv sc 114 66 [l0, l1, l2, l3, l4, l5] [.int x] h Q ↔ zEv sc 114 68 [l0, l1, l2, l3, l4, .int x] [] h Q := zE_pure (q := (68, [l0, l1, l2, l3, l4, .int x], [])) dz114_66 rfl rfl rfl
theorem dz114_68 : decode (z_code 114) 68 = .ok (.aload_n 0, 1) := by decide +kernel
theorem u114_68 : zEv sc 114 68 [.ref a, l1, l2, l3, l4, l5] [] h Q ↔ zEv sc 114 69 [.ref a, l1, l2, l3, l4, l5] [.ref a] h Q := zE_pure (q := (69, [.ref a, l1, l2, l3, l4, l5], [.ref a])) dz114_68 rfl rfl rfl
theorem dz114_69 : decode (z_code 114) 69 = .ok (.iload 5, 2) := by decide +kernel
theorem u114_69 : zEv sc 114 69 [l0, l1, l2, l3, l4, .int x] [t0] h Q ↔ zEv sc 114 71 [l0, l1, l2, l3, l4, .int x] [.int x, t0] h Q := zE_pure (q := (71, [l0, l1, l2, l3, l4, .int x], [.int x, t0])) dz114_69 rfl rfl rfl
theorem dz114_71 : decode (z_code 114) 71 = .ok (.ifCond .eq 7, 3) := by decide +kernel
theorem u114_71 : zEv sc 114 71 [l0, l1, l2, l3, l4, l5] [.int x, t0] h Q ↔ (if x = 0 then zEv sc 114 78 [l0, l1, l2, l3, l4, l5] [t0] h Q else zEv sc 114 74 [l0, l1, l2, l3, l4, l5] [t0] h Q) := zE_ifP (P := x = 0) inferInstance 78 dz114_71 rfl rfl
theorem dz114_74 : decode (z_code 114) 74 = .ok (.iconst 1, 1) := by decide +kernel
theorem u114_74 : zEv sc 114 74 [l0, l1, l2, l3, l4, l5] [t0] h Q ↔ zEv sc 114 75 [l0, l1, l2, l3, l4, l5] [.int 1, t0] h Q := zE_iconst dz114_74 (by decide +kernel)
theorem dz114_75 : decode (z_code 114) 75 = .ok (.goto 25, 3) := by decide +kernel
theorem u114_75 : zEv sc 114 75 [l0, l1, l2, l3, l4, l5] [t0, t1] h Q ↔ zEv sc 114 100 [l0, l1, l2, l3, l4, l5] [t0, t1] h Q := zE_go 100 dz114_75 rfl
theorem dz114_100 : decode (z_code 114) 100 = .ok (.putfield 95, 3) := by decide +kernel
theorem u114_100 (ho : zO a 10) : zEv sc 114 100 [l0, l1, l2, l3, l4, l5] [.int x, .ref a] (zst p iv) Q ↔ zEv sc 114 103 [l0, l1, l2, l3, l4, l5] [] (zst p (w2 iv a 9 x)) Q := zE_pfI dz114_100 (by decide +kernel : z_lk3 zFT (z_cls 114) 95 = some (10, 9, 0, 686)) (by decide +kernel) (by decide +kernel) (by decide +kernel) ho
theorem dz114_103 : decode (z_code 114) 103 = .ok (.iload 5, 2) := by decide +kernel
theorem u114_103 : zEv sc 114 103 [l0, l1, l2, l3, l4, .int x] [] h Q ↔ zEv sc 114 105 [l0, l1, l2, l3, l4, .int x] [.int x] h Q := zE_pure (q := (105, [l0, l1, l2, l3, l4, .int x], [.int x])) dz114_103 rfl rfl rfl
theorem dz114_105 : decode (z_code 114) 105 = .ok (.ifCond .eq 18, 3) := by decide +kernel
theorem u114_105 : zEv sc 114 105 [l0, l1, l2, l3, l4, l5] [.int x] h Q ↔ (if x = 0 then zEv sc 114 123 [l0, l1, l2, l3, l4, l5] [] h Q else zEv sc 114 108 [l0, l1, l2, l3, l4, l5] [] h Q) := zE_ifP (P := x = 0) inferInstance 123 dz114_105 rfl rfl
theorem dz114_108 : decode (z_code 114) 108 = .ok (.aload_n 0, 1) := by decide +kernel
theorem u114_108 : zEv sc 114 108 [.ref a, l1, l2, l3, l4, l5] [] h Q ↔ zEv sc 114 109 [.ref a, l1, l2, l3, l4, l5] [.ref a] h Q := zE_pure (q := (109, [.ref a, l1, l2, l3, l4, l5], [.ref a])) dz114_108 rfl rfl rfl
theorem dz114_109 : decode (z_code 114) 109 = .ok (.getfield 22, 3) := by decide +kernel
theorem u114_109 (ho : zO a 10) : zEv sc 114 109 [l0, l1, l2, l3, l4, l5] [.ref a] (zst p iv) Q ↔ zRef (zRV p a 6) (fun j => zEv sc 114 112 [l0, l1, l2, l3, l4, l5] [.ref j] (zst p iv) Q) := zE_gfR dz114_109 (by decide +kernel : z_lk3 zFT (z_cls 114) 22 = some (10, 6, 0, 683)) (by decide +kernel) ho
theorem dz114_112 : decode (z_code 114) 112 = .ok (.sipush 170, 3) := by decide +kernel
theorem u114_112 : zEv sc 114 112 [l0, l1, l2, l3, l4, l5] [t0] h Q ↔ zEv sc 114 115 [l0, l1, l2, l3, l4, l5] [.int 170, t0] h Q := zE_sipush dz114_112 (by decide +kernel)
theorem dz114_115 : decode (z_code 114) 115 = .ok (.iload_n 1, 1) := by decide +kernel
theorem u114_115 : zEv sc 114 115 [l0, .int x, l2, l3, l4, l5] [t0, t1] h Q ↔ zEv sc 114 116 [l0, .int x, l2, l3, l4, l5] [.int x, t0, t1] h Q := zE_pure (q := (116, [l0, .int x, l2, l3, l4, l5], [.int x, t0, t1])) dz114_115 rfl rfl rfl
theorem dz114_116 : decode (z_code 114) 116 = .ok (.imul, 1) := by decide +kernel
theorem u114_116 : zEv sc 114 116 [l0, l1, l2, l3, l4, l5] [.int x2, .int x1, t0] h Q ↔ zEv sc 114 117 [l0, l1, l2, l3, l4, l5] [.int (x1 * x2), t0] h Q := zE_pure (q := (117, [l0, l1, l2, l3, l4, l5], [.int (x1 * x2), t0])) dz114_116 rfl rfl rfl
theorem dz114_117 : decode (z_code 114) 117 = .ok (.iload_n 3, 1) := by decide +kernel
theorem u114_117 : zEv sc 114 117 [l0, l1, l2, .int x, l4, l5] [t0, t1] h Q ↔ zEv sc 114 118 [l0, l1, l2, .int x, l4, l5] [.int x, t0, t1] h Q := zE_pure (q := (118, [l0, l1, l2, .int x, l4, l5], [.int x, t0, t1])) dz114_117 rfl rfl rfl
theorem dz114_118 : decode (z_code 114) 118 = .ok (.iadd, 1) := by decide +kernel
theorem u114_118 : zEv sc 114 118 [l0, l1, l2, l3, l4, l5] [.int x2, .int x1, t0] h Q ↔ zEv sc 114 119 [l0, l1, l2, l3, l4, l5] [.int (x1 + x2), t0] h Q := zE_pure (q := (119, [l0, l1, l2, l3, l4, l5], [.int (x1 + x2), t0])) dz114_118 rfl rfl rfl
theorem dz114_119 : decode (z_code 114) 119 = .ok (.iaload, 1) := by decide +kernel
theorem u114_119 (ho : zO a 100) : zEv sc 114 119 [l0, l1, l2, l3, l4, l5] [.int x, .ref a] (zst p iv) Q ↔ (vp_in x (zLn a) ∧ zEv sc 114 120 [l0, l1, l2, l3, l4, l5] [.int (iv a x.toNatClampNeg)] (zst p iv) Q) := zE_ald (Or.inl ⟨rfl, rfl⟩) dz114_119 ho
theorem dz114_120 : decode (z_code 114) 120 = .ok (.goto 4, 3) := by decide +kernel
theorem u114_120 : zEv sc 114 120 [l0, l1, l2, l3, l4, l5] [t0] h Q ↔ zEv sc 114 124 [l0, l1, l2, l3, l4, l5] [t0] h Q := zE_go 124 dz114_120 rfl
theorem dz114_124 : decode (z_code 114) 124 = .ok (.istore_n 2, 1) := by decide +kernel
theorem u114_124 : zEv sc 114 124 [l0, l1, l2, l3, l4, l5] [.int x] h Q ↔ zEv sc 114 125 [l0, l1, .int x, l3, l4, l5] [] h Q := zE_pure (q := (125, [l0, l1, .int x, l3, l4, l5], [])) dz114_124 rfl rfl rfl
theorem dz114_125 : decode (z_code 114) 125 = .ok (.aload_n 0, 1) := by decide +kernel
theorem u114_125 : zEv sc 114 125 [.ref a, l1, l2, l3, l4, l5] [] h Q ↔ zEv sc 114 126 [.ref a, l1, l2, l3, l4, l5] [.ref a] h Q := zE_pure (q := (126, [.ref a, l1, l2, l3, l4, l5], [.ref a])) dz114_125 rfl rfl rfl
theorem dz114_126 : decode (z_code 114) 126 = .ok (.iload 5, 2) := by decide +kernel
theorem u114_126 : zEv sc 114 126 [l0, l1, l2, l3, l4, .int x] [t0] h Q ↔ zEv sc 114 128 [l0, l1, l2, l3, l4, .int x] [.int x, t0] h Q := zE_pure (q := (128, [l0, l1, l2, l3, l4, .int x], [.int x, t0])) dz114_126 rfl rfl rfl
theorem dz114_128 : decode (z_code 114) 128 = .ok (.ifCond .eq 8, 3) := by decide +kernel
theorem u114_128 : zEv sc 114 128 [l0, l1, l2, l3, l4, l5] [.int x, t0] h Q ↔ (if x = 0 then zEv sc 114 136 [l0, l1, l2, l3, l4, l5] [t0] h Q else zEv sc 114 131 [l0, l1, l2, l3, l4, l5] [t0] h Q) := zE_ifP (P := x = 0) inferInstance 136 dz114_128 rfl rfl
theorem dz114_131 : decode (z_code 114) 131 = .ok (.iload 4, 2) := by decide +kernel
theorem u114_131 : zEv sc 114 131 [l0, l1, l2, l3, .int x, l5] [t0] h Q ↔ zEv sc 114 133 [l0, l1, l2, l3, .int x, l5] [.int x, t0] h Q := zE_pure (q := (133, [l0, l1, l2, l3, .int x, l5], [.int x, t0])) dz114_131 rfl rfl rfl
theorem dz114_133 : decode (z_code 114) 133 = .ok (.goto 7, 3) := by decide +kernel
theorem u114_133 : zEv sc 114 133 [l0, l1, l2, l3, l4, l5] [t0, t1] h Q ↔ zEv sc 114 140 [l0, l1, l2, l3, l4, l5] [t0, t1] h Q := zE_go 140 dz114_133 rfl
theorem dz114_140 : decode (z_code 114) 140 = .ok (.putfield 92, 3) := by decide +kernel
theorem u114_140 (ho : zO a 10) : zEv sc 114 140 [l0, l1, l2, l3, l4, l5] [.int x, .ref a] (zst p iv) Q ↔ zEv sc 114 143 [l0, l1, l2, l3, l4, l5] [] (zst p (w2 iv a 8 x)) Q := zE_pfI dz114_140 (by decide +kernel : z_lk3 zFT (z_cls 114) 92 = some (10, 8, 0, 685)) (by decide +kernel) (by decide +kernel) (by decide +kernel) ho
theorem dz114_143 : decode (z_code 114) 143 = .ok (.iinc 3 1, 3) := by decide +kernel
theorem u114_143 : zEv sc 114 143 [l0, l1, l2, .int x, l4, l5] [] h Q ↔ zEv sc 114 146 [l0, l1, l2, .int (x + 1), l4, l5] [] h Q := zE_iinc (ls2 := [l0, l1, l2, .int (x + 1), l4, l5]) dz114_143 (by decide +kernel) rfl (by simp) rfl
theorem dz114_146 : decode (z_code 114) 146 = .ok (.goto (-127), 3) := by decide +kernel
theorem u114_146 : zEv sc 114 146 [l0, l1, l2, l3, l4, l5] [] h Q ↔ zEv sc 114 19 [l0, l1, l2, l3, l4, l5] [] h Q := zE_go 19 dz114_146 rfl
theorem dz114_136 : decode (z_code 114) 136 = .ok (.aload_n 0, 1) := by decide +kernel
theorem u114_136 : zEv sc 114 136 [.ref a, l1, l2, l3, l4, l5] [t0] h Q ↔ zEv sc 114 137 [.ref a, l1, l2, l3, l4, l5] [.ref a, t0] h Q := zE_pure (q := (137, [.ref a, l1, l2, l3, l4, l5], [.ref a, t0])) dz114_136 rfl rfl rfl
theorem dz114_137 : decode (z_code 114) 137 = .ok (.getfield 92, 3) := by decide +kernel
theorem u114_137 (ho : zO a 10) : zEv sc 114 137 [l0, l1, l2, l3, l4, l5] [.ref a, t0] (zst p iv) Q ↔ zEv sc 114 140 [l0, l1, l2, l3, l4, l5] [.int (iv a 8), t0] (zst p iv) Q := zE_gfI dz114_137 (by decide +kernel : z_lk3 zFT (z_cls 114) 92 = some (10, 8, 0, 685)) (by decide +kernel) ho
theorem dz114_123 : decode (z_code 114) 123 = .ok (.iload_n 2, 1) := by decide +kernel
theorem u114_123 : zEv sc 114 123 [l0, l1, .int x, l3, l4, l5] [] h Q ↔ zEv sc 114 124 [l0, l1, .int x, l3, l4, l5] [.int x] h Q := zE_pure (q := (124, [l0, l1, .int x, l3, l4, l5], [.int x])) dz114_123 rfl rfl rfl
theorem dz114_78 : decode (z_code 114) 78 = .ok (.iload 4, 2) := by decide +kernel
theorem u114_78 : zEv sc 114 78 [l0, l1, l2, l3, .int x, l5] [t0] h Q ↔ zEv sc 114 80 [l0, l1, l2, l3, .int x, l5] [.int x, t0] h Q := zE_pure (q := (80, [l0, l1, l2, l3, .int x, l5], [.int x, t0])) dz114_78 rfl rfl rfl
theorem dz114_80 : decode (z_code 114) 80 = .ok (.aload_n 0, 1) := by decide +kernel
theorem u114_80 : zEv sc 114 80 [.ref a, l1, l2, l3, l4, l5] [t0, t1] h Q ↔ zEv sc 114 81 [.ref a, l1, l2, l3, l4, l5] [.ref a, t0, t1] h Q := zE_pure (q := (81, [.ref a, l1, l2, l3, l4, l5], [.ref a, t0, t1])) dz114_80 rfl rfl rfl
theorem dz114_81 : decode (z_code 114) 81 = .ok (.getfield 92, 3) := by decide +kernel
theorem u114_81 (ho : zO a 10) : zEv sc 114 81 [l0, l1, l2, l3, l4, l5] [.ref a, t0, t1] (zst p iv) Q ↔ zEv sc 114 84 [l0, l1, l2, l3, l4, l5] [.int (iv a 8), t0, t1] (zst p iv) Q := zE_gfI dz114_81 (by decide +kernel : z_lk3 zFT (z_cls 114) 92 = some (10, 8, 0, 685)) (by decide +kernel) ho
theorem dz114_84 : decode (z_code 114) 84 = .ok (.if_icmp .ne 12, 3) := by decide +kernel
theorem u114_84 : zEv sc 114 84 [l0, l1, l2, l3, l4, l5] [.int x2, .int x1, t0] h Q ↔ (if ¬ x1 = x2 then zEv sc 114 96 [l0, l1, l2, l3, l4, l5] [t0] h Q else zEv sc 114 87 [l0, l1, l2, l3, l4, l5] [t0] h Q) := zE_icP (P := ¬ x1 = x2) inferInstance 96 dz114_84 rfl rfl
theorem dz114_87 : decode (z_code 114) 87 = .ok (.aload_n 0, 1) := by decide +kernel
theorem u114_87 : zEv sc 114 87 [.ref a, l1, l2, l3, l4, l5] [t0] h Q ↔ zEv sc 114 88 [.ref a, l1, l2, l3, l4, l5] [.ref a, t0] h Q := zE_pure (q := (88, [.ref a, l1, l2, l3, l4, l5], [.ref a, t0])) dz114_87 rfl rfl rfl
theorem dz114_88 : decode (z_code 114) 88 = .ok (.getfield 95, 3) := by decide +kernel
theorem u114_88 (ho : zO a 10) : zEv sc 114 88 [l0, l1, l2, l3, l4, l5] [.ref a, t0] (zst p iv) Q ↔ zEv sc 114 91 [l0, l1, l2, l3, l4, l5] [.int (iv a 9), t0] (zst p iv) Q := zE_gfI dz114_88 (by decide +kernel : z_lk3 zFT (z_cls 114) 95 = some (10, 9, 0, 686)) (by decide +kernel) ho
theorem dz114_91 : decode (z_code 114) 91 = .ok (.iconst 1, 1) := by decide +kernel
theorem u114_91 : zEv sc 114 91 [l0, l1, l2, l3, l4, l5] [t0, t1] h Q ↔ zEv sc 114 92 [l0, l1, l2, l3, l4, l5] [.int 1, t0, t1] h Q := zE_iconst dz114_91 (by decide +kernel)
theorem dz114_92 : decode (z_code 114) 92 = .ok (.iadd, 1) := by decide +kernel
theorem u114_92 : zEv sc 114 92 [l0, l1, l2, l3, l4, l5] [.int x2, .int x1, t0] h Q ↔ zEv sc 114 93 [l0, l1, l2, l3, l4, l5] [.int (x1 + x2), t0] h Q := zE_pure (q := (93, [l0, l1, l2, l3, l4, l5], [.int (x1 + x2), t0])) dz114_92 rfl rfl rfl
theorem dz114_93 : decode (z_code 114) 93 = .ok (.goto 7, 3) := by decide +kernel
theorem u114_93 : zEv sc 114 93 [l0, l1, l2, l3, l4, l5] [t0, t1] h Q ↔ zEv sc 114 100 [l0, l1, l2, l3, l4, l5] [t0, t1] h Q := zE_go 100 dz114_93 rfl
theorem dz114_96 : decode (z_code 114) 96 = .ok (.aload_n 0, 1) := by decide +kernel
theorem u114_96 : zEv sc 114 96 [.ref a, l1, l2, l3, l4, l5] [t0] h Q ↔ zEv sc 114 97 [.ref a, l1, l2, l3, l4, l5] [.ref a, t0] h Q := zE_pure (q := (97, [.ref a, l1, l2, l3, l4, l5], [.ref a, t0])) dz114_96 rfl rfl rfl
theorem dz114_97 : decode (z_code 114) 97 = .ok (.getfield 95, 3) := by decide +kernel
theorem u114_97 (ho : zO a 10) : zEv sc 114 97 [l0, l1, l2, l3, l4, l5] [.ref a, t0] (zst p iv) Q ↔ zEv sc 114 100 [l0, l1, l2, l3, l4, l5] [.int (iv a 9), t0] (zst p iv) Q := zE_gfI dz114_97 (by decide +kernel : z_lk3 zFT (z_cls 114) 95 = some (10, 9, 0, 686)) (by decide +kernel) ho
theorem dz114_61 : decode (z_code 114) 61 = .ok (.iconst 1, 1) := by decide +kernel
theorem u114_61 : zEv sc 114 61 [l0, l1, l2, l3, l4, l5] [] h Q ↔ zEv sc 114 62 [l0, l1, l2, l3, l4, l5] [.int 1] h Q := zE_iconst dz114_61 (by decide +kernel)
theorem dz114_62 : decode (z_code 114) 62 = .ok (.goto 4, 3) := by decide +kernel
theorem u114_62 : zEv sc 114 62 [l0, l1, l2, l3, l4, l5] [t0] h Q ↔ zEv sc 114 66 [l0, l1, l2, l3, l4, l5] [t0] h Q := zE_go 66 dz114_62 rfl
theorem dz114_149 : decode (z_code 114) 149 = .ok (.iload_n 2, 1) := by decide +kernel
theorem u114_149 : zEv sc 114 149 [l0, l1, .int x, l3, l4, l5] [] h Q ↔ zEv sc 114 150 [l0, l1, .int x, l3, l4, l5] [.int x] h Q := zE_pure (q := (150, [l0, l1, .int x, l3, l4, l5], [.int x])) dz114_149 rfl rfl rfl
theorem dz114_150 : decode (z_code 114) 150 = .ok (.ireturn, 1) := by decide +kernel
theorem u114_150 : zEv sc 114 150 [l0, l1, l2, l3, l4, l5] [.int x] h Q ↔ Q (some (.int x)) h := zE_ri dz114_150 (by decide +kernel)
/-! method 115: FieldMixturesModel.divides(I)I -/
theorem dz115_0 : decode (z_code 115) 0 = .ok (.aload_n 0, 1) := by decide +kernel
theorem u115_0 : zEv sc 115 0 [.ref a, l1, l2] [] h Q ↔ zEv sc 115 1 [.ref a, l1, l2] [.ref a] h Q := zE_pure (q := (1, [.ref a, l1, l2], [.ref a])) dz115_0 rfl rfl rfl
theorem dz115_1 : decode (z_code 115) 1 = .ok (.getfield 7, 3) := by decide +kernel
theorem u115_1 (ho : zO a 10) : zEv sc 115 1 [l0, l1, l2] [.ref a] (zst p iv) Q ↔ zRef (zRV p a 0) (fun j => zEv sc 115 4 [l0, l1, l2] [.ref j] (zst p iv) Q) := zE_gfR dz115_1 (by decide +kernel : z_lk3 zFT (z_cls 115) 7 = some (10, 0, 0, 677)) (by decide +kernel) ho
theorem dz115_4 : decode (z_code 115) 4 = .ok (.iconst 0, 1) := by decide +kernel
theorem u115_4 : zEv sc 115 4 [l0, l1, l2] [t0] h Q ↔ zEv sc 115 5 [l0, l1, l2] [.int 0, t0] h Q := zE_iconst dz115_4 (by decide +kernel)
theorem dz115_5 : decode (z_code 115) 5 = .ok (.iaload, 1) := by decide +kernel
theorem u115_5 (ho : zO a 100) : zEv sc 115 5 [l0, l1, l2] [.int x, .ref a] (zst p iv) Q ↔ (vp_in x (zLn a) ∧ zEv sc 115 6 [l0, l1, l2] [.int (iv a x.toNatClampNeg)] (zst p iv) Q) := zE_ald (Or.inl ⟨rfl, rfl⟩) dz115_5 ho
theorem dz115_6 : decode (z_code 115) 6 = .ok (.istore_n 2, 1) := by decide +kernel
theorem u115_6 : zEv sc 115 6 [l0, l1, l2] [.int x] h Q ↔ zEv sc 115 7 [l0, l1, .int x] [] h Q := zE_pure (q := (7, [l0, l1, .int x], [])) dz115_6 rfl rfl rfl
theorem dz115_7 : decode (z_code 115) 7 = .ok (.aload_n 0, 1) := by decide +kernel
theorem u115_7 : zEv sc 115 7 [.ref a, l1, l2] [] h Q ↔ zEv sc 115 8 [.ref a, l1, l2] [.ref a] h Q := zE_pure (q := (8, [.ref a, l1, l2], [.ref a])) dz115_7 rfl rfl rfl
theorem dz115_8 : decode (z_code 115) 8 = .ok (.getfield 7, 3) := by decide +kernel
theorem u115_8 (ho : zO a 10) : zEv sc 115 8 [l0, l1, l2] [.ref a] (zst p iv) Q ↔ zRef (zRV p a 0) (fun j => zEv sc 115 11 [l0, l1, l2] [.ref j] (zst p iv) Q) := zE_gfR dz115_8 (by decide +kernel : z_lk3 zFT (z_cls 115) 7 = some (10, 0, 0, 677)) (by decide +kernel) ho
theorem dz115_11 : decode (z_code 115) 11 = .ok (.iconst 0, 1) := by decide +kernel
theorem u115_11 : zEv sc 115 11 [l0, l1, l2] [t0] h Q ↔ zEv sc 115 12 [l0, l1, l2] [.int 0, t0] h Q := zE_iconst dz115_11 (by decide +kernel)
theorem dz115_12 : decode (z_code 115) 12 = .ok (.iload_n 1, 1) := by decide +kernel
theorem u115_12 : zEv sc 115 12 [l0, .int x, l2] [t0, t1] h Q ↔ zEv sc 115 13 [l0, .int x, l2] [.int x, t0, t1] h Q := zE_pure (q := (13, [l0, .int x, l2], [.int x, t0, t1])) dz115_12 rfl rfl rfl
theorem dz115_13 : decode (z_code 115) 13 = .ok (.iastore, 1) := by decide +kernel
theorem u115_13 (ho : zO a 100) : zEv sc 115 13 [l0, l1, l2] [.int x2, .int x1, .ref a] (zst p iv) Q ↔ (vp_in x1 (zLn a) ∧ zEv sc 115 14 [l0, l1, l2] [] (zst p (w2 iv a x1.toNatClampNeg x2)) Q) := zE_ast (Or.inl ⟨rfl, rfl, rfl⟩) dz115_13 ho
theorem dz115_14 : decode (z_code 115) 14 = .ok (.aload_n 0, 1) := by decide +kernel
theorem u115_14 : zEv sc 115 14 [.ref a, l1, l2] [] h Q ↔ zEv sc 115 15 [.ref a, l1, l2] [.ref a] h Q := zE_pure (q := (15, [.ref a, l1, l2], [.ref a])) dz115_14 rfl rfl rfl
theorem dz115_15 : decode (z_code 115) 15 = .ok (.invokevirtual 28, 3) := by decide +kernel
theorem u115_15 (ho : zO a 10) : zEv sc 115 15 [l0, l1, l2] [.ref a] (zst p iv) Q ↔ zEv sc 87 0 [.ref a, .null] [] (zst p iv) (fun r h9 => zEv sc 115 18 [l0, l1, l2] (r.toList ++ []) h9 Q) := zE_call (kd := 0) (na := 1) (nr := 0) (as := [.ref a]) (rest := []) (Or.inl ⟨rfl, rfl⟩) dz115_15 (by decide +kernel : z_lk2 zCT (z_cls 115) 28 = some (87, 0, 673)) (fun z => by cases z) rfl rfl rfl (by decide +kernel) rfl (Or.inr (zE_rc ho))
theorem dz115_18 : decode (z_code 115) 18 = .ok (.iload_n 1, 1) := by decide +kernel
theorem u115_18 : zEv sc 115 18 [l0, .int x, l2] [] h Q ↔ zEv sc 115 19 [l0, .int x, l2] [.int x] h Q := zE_pure (q := (19, [l0, .int x, l2], [.int x])) dz115_18 rfl rfl rfl
theorem dz115_19 : decode (z_code 115) 19 = .ok (.iload_n 2, 1) := by decide +kernel
theorem u115_19 : zEv sc 115 19 [l0, l1, .int x] [t0] h Q ↔ zEv sc 115 20 [l0, l1, .int x] [.int x, t0] h Q := zE_pure (q := (20, [l0, l1, .int x], [.int x, t0])) dz115_19 rfl rfl rfl
theorem dz115_20 : decode (z_code 115) 20 = .ok (.if_icmp .eq 23, 3) := by decide +kernel
theorem u115_20 : zEv sc 115 20 [l0, l1, l2] [.int x2, .int x1] h Q ↔ (if x1 = x2 then zEv sc 115 43 [l0, l1, l2] [] h Q else zEv sc 115 23 [l0, l1, l2] [] h Q) := zE_icP (P := x1 = x2) inferInstance 43 dz115_20 rfl rfl
theorem dz115_23 : decode (z_code 115) 23 = .ok (.aload_n 0, 1) := by decide +kernel
theorem u115_23 : zEv sc 115 23 [.ref a, l1, l2] [] h Q ↔ zEv sc 115 24 [.ref a, l1, l2] [.ref a] h Q := zE_pure (q := (24, [.ref a, l1, l2], [.ref a])) dz115_23 rfl rfl rfl
theorem dz115_24 : decode (z_code 115) 24 = .ok (.getfield 7, 3) := by decide +kernel
theorem u115_24 (ho : zO a 10) : zEv sc 115 24 [l0, l1, l2] [.ref a] (zst p iv) Q ↔ zRef (zRV p a 0) (fun j => zEv sc 115 27 [l0, l1, l2] [.ref j] (zst p iv) Q) := zE_gfR dz115_24 (by decide +kernel : z_lk3 zFT (z_cls 115) 7 = some (10, 0, 0, 677)) (by decide +kernel) ho
theorem dz115_27 : decode (z_code 115) 27 = .ok (.iconst 0, 1) := by decide +kernel
theorem u115_27 : zEv sc 115 27 [l0, l1, l2] [t0] h Q ↔ zEv sc 115 28 [l0, l1, l2] [.int 0, t0] h Q := zE_iconst dz115_27 (by decide +kernel)
theorem dz115_28 : decode (z_code 115) 28 = .ok (.invokestatic 54, 3) := by decide +kernel
theorem u115_28 : zEv sc 115 28 [l0, l1, l2] [.int z0, t0] h Q ↔ zEv sc 100 0 [.int z0] [] h (fun r h9 => zEv sc 115 31 [l0, l1, l2] (r.toList ++ [t0]) h9 Q) := zE_call (kd := 1) (na := 1) (nr := 1) (as := [.int z0]) (rest := [t0]) (Or.inr ⟨rfl, rfl⟩) dz115_28 (by decide +kernel : z_lk2 zCT (z_cls 115) 54 = some (100, 0, 741)) (fun _ => by decide +kernel) rfl rfl rfl (by decide +kernel) rfl (Or.inl rfl)
theorem dz115_31 : decode (z_code 115) 31 = .ok (.iconst 0, 1) := by decide +kernel
theorem u115_31 : zEv sc 115 31 [l0, l1, l2] [t0, t1] h Q ↔ zEv sc 115 32 [l0, l1, l2] [.int 0, t0, t1] h Q := zE_iconst dz115_31 (by decide +kernel)
theorem dz115_32 : decode (z_code 115) 32 = .ok (.iastore, 1) := by decide +kernel
theorem u115_32 (ho : zO a 100) : zEv sc 115 32 [l0, l1, l2] [.int x2, .int x1, .ref a] (zst p iv) Q ↔ (vp_in x1 (zLn a) ∧ zEv sc 115 33 [l0, l1, l2] [] (zst p (w2 iv a x1.toNatClampNeg x2)) Q) := zE_ast (Or.inl ⟨rfl, rfl, rfl⟩) dz115_32 ho
theorem dz115_33 : decode (z_code 115) 33 = .ok (.aload_n 0, 1) := by decide +kernel
theorem u115_33 : zEv sc 115 33 [.ref a, l1, l2] [] h Q ↔ zEv sc 115 34 [.ref a, l1, l2] [.ref a] h Q := zE_pure (q := (34, [.ref a, l1, l2], [.ref a])) dz115_33 rfl rfl rfl
theorem dz115_34 : decode (z_code 115) 34 = .ok (.getfield 7, 3) := by decide +kernel
theorem u115_34 (ho : zO a 10) : zEv sc 115 34 [l0, l1, l2] [.ref a] (zst p iv) Q ↔ zRef (zRV p a 0) (fun j => zEv sc 115 37 [l0, l1, l2] [.ref j] (zst p iv) Q) := zE_gfR dz115_34 (by decide +kernel : z_lk3 zFT (z_cls 115) 7 = some (10, 0, 0, 677)) (by decide +kernel) ho
theorem dz115_37 : decode (z_code 115) 37 = .ok (.iconst 1, 1) := by decide +kernel
theorem u115_37 : zEv sc 115 37 [l0, l1, l2] [t0] h Q ↔ zEv sc 115 38 [l0, l1, l2] [.int 1, t0] h Q := zE_iconst dz115_37 (by decide +kernel)
theorem dz115_38 : decode (z_code 115) 38 = .ok (.invokestatic 54, 3) := by decide +kernel
theorem u115_38 : zEv sc 115 38 [l0, l1, l2] [.int z0, t0] h Q ↔ zEv sc 100 0 [.int z0] [] h (fun r h9 => zEv sc 115 41 [l0, l1, l2] (r.toList ++ [t0]) h9 Q) := zE_call (kd := 1) (na := 1) (nr := 1) (as := [.int z0]) (rest := [t0]) (Or.inr ⟨rfl, rfl⟩) dz115_38 (by decide +kernel : z_lk2 zCT (z_cls 115) 54 = some (100, 0, 741)) (fun _ => by decide +kernel) rfl rfl rfl (by decide +kernel) rfl (Or.inl rfl)
theorem dz115_41 : decode (z_code 115) 41 = .ok (.iconst 0, 1) := by decide +kernel
theorem u115_41 : zEv sc 115 41 [l0, l1, l2] [t0, t1] h Q ↔ zEv sc 115 42 [l0, l1, l2] [.int 0, t0, t1] h Q := zE_iconst dz115_41 (by decide +kernel)
theorem dz115_42 : decode (z_code 115) 42 = .ok (.iastore, 1) := by decide +kernel
theorem u115_42 (ho : zO a 100) : zEv sc 115 42 [l0, l1, l2] [.int x2, .int x1, .ref a] (zst p iv) Q ↔ (vp_in x1 (zLn a) ∧ zEv sc 115 43 [l0, l1, l2] [] (zst p (w2 iv a x1.toNatClampNeg x2)) Q) := zE_ast (Or.inl ⟨rfl, rfl, rfl⟩) dz115_42 ho
theorem dz115_43 : decode (z_code 115) 43 = .ok (.iload_n 2, 1) := by decide +kernel
theorem u115_43 : zEv sc 115 43 [l0, l1, .int x] [] h Q ↔ zEv sc 115 44 [l0, l1, .int x] [.int x] h Q := zE_pure (q := (44, [l0, l1, .int x], [.int x])) dz115_43 rfl rfl rfl
theorem dz115_44 : decode (z_code 115) 44 = .ok (.ireturn, 1) := by decide +kernel
theorem u115_44 : zEv sc 115 44 [l0, l1, l2] [.int x] h Q ↔ Q (some (.int x)) h := zE_ri dz115_44 (by decide +kernel)
/-! method 116: FieldMixturesModel.puts(II)I -/
theorem dz116_0 : decode (z_code 116) 0 = .ok (.aload_n 0, 1) := by decide +kernel
theorem u116_0 : zEv sc 116 0 [.ref a, l1, l2, l3] [] h Q ↔ zEv sc 116 1 [.ref a, l1, l2, l3] [.ref a] h Q := zE_pure (q := (1, [.ref a, l1, l2, l3], [.ref a])) dz116_0 rfl rfl rfl
theorem dz116_1 : decode (z_code 116) 1 = .ok (.getfield 7, 3) := by decide +kernel
theorem u116_1 (ho : zO a 10) : zEv sc 116 1 [l0, l1, l2, l3] [.ref a] (zst p iv) Q ↔ zRef (zRV p a 0) (fun j => zEv sc 116 4 [l0, l1, l2, l3] [.ref j] (zst p iv) Q) := zE_gfR dz116_1 (by decide +kernel : z_lk3 zFT (z_cls 116) 7 = some (10, 0, 0, 677)) (by decide +kernel) ho
theorem dz116_4 : decode (z_code 116) 4 = .ok (.iload_n 1, 1) := by decide +kernel
theorem u116_4 : zEv sc 116 4 [l0, .int x, l2, l3] [t0] h Q ↔ zEv sc 116 5 [l0, .int x, l2, l3] [.int x, t0] h Q := zE_pure (q := (5, [l0, .int x, l2, l3], [.int x, t0])) dz116_4 rfl rfl rfl
theorem dz116_5 : decode (z_code 116) 5 = .ok (.iaload, 1) := by decide +kernel
theorem u116_5 (ho : zO a 100) : zEv sc 116 5 [l0, l1, l2, l3] [.int x, .ref a] (zst p iv) Q ↔ (vp_in x (zLn a) ∧ zEv sc 116 6 [l0, l1, l2, l3] [.int (iv a x.toNatClampNeg)] (zst p iv) Q) := zE_ald (Or.inl ⟨rfl, rfl⟩) dz116_5 ho
theorem dz116_6 : decode (z_code 116) 6 = .ok (.istore_n 3, 1) := by decide +kernel
theorem u116_6 : zEv sc 116 6 [l0, l1, l2, l3] [.int x] h Q ↔ zEv sc 116 7 [l0, l1, l2, .int x] [] h Q := zE_pure (q := (7, [l0, l1, l2, .int x], [])) dz116_6 rfl rfl rfl
theorem dz116_7 : decode (z_code 116) 7 = .ok (.aload_n 0, 1) := by decide +kernel
theorem u116_7 : zEv sc 116 7 [.ref a, l1, l2, l3] [] h Q ↔ zEv sc 116 8 [.ref a, l1, l2, l3] [.ref a] h Q := zE_pure (q := (8, [.ref a, l1, l2, l3], [.ref a])) dz116_7 rfl rfl rfl
theorem dz116_8 : decode (z_code 116) 8 = .ok (.getfield 7, 3) := by decide +kernel
theorem u116_8 (ho : zO a 10) : zEv sc 116 8 [l0, l1, l2, l3] [.ref a] (zst p iv) Q ↔ zRef (zRV p a 0) (fun j => zEv sc 116 11 [l0, l1, l2, l3] [.ref j] (zst p iv) Q) := zE_gfR dz116_8 (by decide +kernel : z_lk3 zFT (z_cls 116) 7 = some (10, 0, 0, 677)) (by decide +kernel) ho
theorem dz116_11 : decode (z_code 116) 11 = .ok (.iload_n 1, 1) := by decide +kernel
theorem u116_11 : zEv sc 116 11 [l0, .int x, l2, l3] [t0] h Q ↔ zEv sc 116 12 [l0, .int x, l2, l3] [.int x, t0] h Q := zE_pure (q := (12, [l0, .int x, l2, l3], [.int x, t0])) dz116_11 rfl rfl rfl
theorem dz116_12 : decode (z_code 116) 12 = .ok (.iload_n 2, 1) := by decide +kernel
theorem u116_12 : zEv sc 116 12 [l0, l1, .int x, l3] [t0, t1] h Q ↔ zEv sc 116 13 [l0, l1, .int x, l3] [.int x, t0, t1] h Q := zE_pure (q := (13, [l0, l1, .int x, l3], [.int x, t0, t1])) dz116_12 rfl rfl rfl
theorem dz116_13 : decode (z_code 116) 13 = .ok (.iastore, 1) := by decide +kernel
theorem u116_13 (ho : zO a 100) : zEv sc 116 13 [l0, l1, l2, l3] [.int x2, .int x1, .ref a] (zst p iv) Q ↔ (vp_in x1 (zLn a) ∧ zEv sc 116 14 [l0, l1, l2, l3] [] (zst p (w2 iv a x1.toNatClampNeg x2)) Q) := zE_ast (Or.inl ⟨rfl, rfl, rfl⟩) dz116_13 ho
theorem dz116_14 : decode (z_code 116) 14 = .ok (.iload_n 3, 1) := by decide +kernel
theorem u116_14 : zEv sc 116 14 [l0, l1, l2, .int x] [] h Q ↔ zEv sc 116 15 [l0, l1, l2, .int x] [.int x] h Q := zE_pure (q := (15, [l0, l1, l2, .int x], [.int x])) dz116_14 rfl rfl rfl
theorem dz116_15 : decode (z_code 116) 15 = .ok (.ireturn, 1) := by decide +kernel
theorem u116_15 : zEv sc 116 15 [l0, l1, l2, l3] [.int x] h Q ↔ Q (some (.int x)) h := zE_ri dz116_15 (by decide +kernel)
/-! method 117: FieldMixturesModel.answers(II)I -/
theorem dz117_0 : decode (z_code 117) 0 = .ok (.aload_n 0, 1) := by decide +kernel
theorem u117_0 : zEv sc 117 0 [.ref a, l1, l2, l3] [] h Q ↔ zEv sc 117 1 [.ref a, l1, l2, l3] [.ref a] h Q := zE_pure (q := (1, [.ref a, l1, l2, l3], [.ref a])) dz117_0 rfl rfl rfl
theorem dz117_1 : decode (z_code 117) 1 = .ok (.iload_n 1, 1) := by decide +kernel
theorem u117_1 : zEv sc 117 1 [l0, .int x, l2, l3] [t0] h Q ↔ zEv sc 117 2 [l0, .int x, l2, l3] [.int x, t0] h Q := zE_pure (q := (2, [l0, .int x, l2, l3], [.int x, t0])) dz117_1 rfl rfl rfl
theorem dz117_2 : decode (z_code 117) 2 = .ok (.iload_n 2, 1) := by decide +kernel
theorem u117_2 : zEv sc 117 2 [l0, l1, .int x, l3] [t0, t1] h Q ↔ zEv sc 117 3 [l0, l1, .int x, l3] [.int x, t0, t1] h Q := zE_pure (q := (3, [l0, l1, .int x, l3], [.int x, t0, t1])) dz117_2 rfl rfl rfl
theorem dz117_3 : decode (z_code 117) 3 = .ok (.invokevirtual 70, 3) := by decide +kernel
theorem u117_3 (ho : zO a 10) : zEv sc 117 3 [l0, l1, l2, l3] [.int z1, .int z0, .ref a] (zst p iv) Q ↔ zEv sc 106 0 [.ref a, .int z0, .int z1, .null] [] (zst p iv) (fun r h9 => zEv sc 117 6 [l0, l1, l2, l3] (r.toList ++ []) h9 Q) := zE_call (kd := 0) (na := 3) (nr := 0) (as := [.ref a, .int z0, .int z1]) (rest := []) (Or.inl ⟨rfl, rfl⟩) dz117_3 (by decide +kernel : z_lk2 zCT (z_cls 117) 70 = some (106, 0, 816)) (fun z => by cases z) rfl rfl rfl (by decide +kernel) rfl (Or.inr (zE_rc ho))
theorem dz117_6 : decode (z_code 117) 6 = .ok (.istore_n 3, 1) := by decide +kernel
theorem u117_6 : zEv sc 117 6 [l0, l1, l2, l3] [.int x] h Q ↔ zEv sc 117 7 [l0, l1, l2, .int x] [] h Q := zE_pure (q := (7, [l0, l1, l2, .int x], [])) dz117_6 rfl rfl rfl
theorem dz117_7 : decode (z_code 117) 7 = .ok (.iload_n 3, 1) := by decide +kernel
theorem u117_7 : zEv sc 117 7 [l0, l1, l2, .int x] [] h Q ↔ zEv sc 117 8 [l0, l1, l2, .int x] [.int x] h Q := zE_pure (q := (8, [l0, l1, l2, .int x], [.int x])) dz117_7 rfl rfl rfl
theorem dz117_8 : decode (z_code 117) 8 = .ok (.bipush 99, 2) := by decide +kernel
theorem u117_8 : zEv sc 117 8 [l0, l1, l2, l3] [t0] h Q ↔ zEv sc 117 10 [l0, l1, l2, l3] [.int 99, t0] h Q := zE_bipush dz117_8 (by decide +kernel)
theorem dz117_10 : decode (z_code 117) 10 = .ok (.if_icmp .ne 6, 3) := by decide +kernel
theorem u117_10 : zEv sc 117 10 [l0, l1, l2, l3] [.int x2, .int x1] h Q ↔ (if ¬ x1 = x2 then zEv sc 117 16 [l0, l1, l2, l3] [] h Q else zEv sc 117 13 [l0, l1, l2, l3] [] h Q) := zE_icP (P := ¬ x1 = x2) inferInstance 16 dz117_10 rfl rfl
theorem dz117_13 : decode (z_code 117) 13 = .ok (.ldc 73, 2) := by decide +kernel
theorem u117_13 : zEv sc 117 13 [l0, l1, l2, l3] [] h Q ↔ zEv sc 117 15 [l0, l1, l2, l3] [.int (-1000003)] h Q := zE_ldc (by decide +kernel : z_lkK zKT (z_cls 117) 73 = some ((-1000003), 828)) dz117_13
theorem dz117_15 : decode (z_code 117) 15 = .ok (.ireturn, 1) := by decide +kernel
theorem u117_15 : zEv sc 117 15 [l0, l1, l2, l3] [.int x] h Q ↔ Q (some (.int x)) h := zE_ri dz117_15 (by decide +kernel)
theorem dz117_16 : decode (z_code 117) 16 = .ok (.aload_n 0, 1) := by decide +kernel
theorem u117_16 : zEv sc 117 16 [.ref a, l1, l2, l3] [] h Q ↔ zEv sc 117 17 [.ref a, l1, l2, l3] [.ref a] h Q := zE_pure (q := (17, [.ref a, l1, l2, l3], [.ref a])) dz117_16 rfl rfl rfl
theorem dz117_17 : decode (z_code 117) 17 = .ok (.iload_n 1, 1) := by decide +kernel
theorem u117_17 : zEv sc 117 17 [l0, .int x, l2, l3] [t0] h Q ↔ zEv sc 117 18 [l0, .int x, l2, l3] [.int x, t0] h Q := zE_pure (q := (18, [l0, .int x, l2, l3], [.int x, t0])) dz117_17 rfl rfl rfl
theorem dz117_18 : decode (z_code 117) 18 = .ok (.iload_n 2, 1) := by decide +kernel
theorem u117_18 : zEv sc 117 18 [l0, l1, .int x, l3] [t0, t1] h Q ↔ zEv sc 117 19 [l0, l1, .int x, l3] [.int x, t0, t1] h Q := zE_pure (q := (19, [l0, l1, .int x, l3], [.int x, t0, t1])) dz117_18 rfl rfl rfl
theorem dz117_19 : decode (z_code 117) 19 = .ok (.iload_n 3, 1) := by decide +kernel
theorem u117_19 : zEv sc 117 19 [l0, l1, l2, .int x] [t0, t1, t2] h Q ↔ zEv sc 117 20 [l0, l1, l2, .int x] [.int x, t0, t1, t2] h Q := zE_pure (q := (20, [l0, l1, l2, .int x], [.int x, t0, t1, t2])) dz117_19 rfl rfl rfl
theorem dz117_20 : decode (z_code 117) 20 = .ok (.iconst 1, 1) := by decide +kernel
theorem u117_20 : zEv sc 117 20 [l0, l1, l2, l3] [t0, t1, t2, t3] h Q ↔ zEv sc 117 21 [l0, l1, l2, l3] [.int 1, t0, t1, t2, t3] h Q := zE_iconst dz117_20 (by decide +kernel)
theorem dz117_21 : decode (z_code 117) 21 = .ok (.iadd, 1) := by decide +kernel
theorem u117_21 : zEv sc 117 21 [l0, l1, l2, l3] [.int x2, .int x1, t0, t1, t2] h Q ↔ zEv sc 117 22 [l0, l1, l2, l3] [.int (x1 + x2), t0, t1, t2] h Q := zE_pure (q := (22, [l0, l1, l2, l3], [.int (x1 + x2), t0, t1, t2])) dz117_21 rfl rfl rfl
theorem dz117_22 : decode (z_code 117) 22 = .ok (.invokevirtual 98, 3) := by decide +kernel
theorem u117_22 (ho : zO a 10) : zEv sc 117 22 [l0, l1, l2, l3] [.int z2, .int z1, .int z0, .ref a] (zst p iv) Q ↔ zEv sc 108 0 [.ref a, .int z0, .int z1, .int z2, .null, .null, .null, .null] [] (zst p iv) (fun r h9 => zEv sc 117 25 [l0, l1, l2, l3] (r.toList ++ []) h9 Q) := zE_call (kd := 0) (na := 4) (nr := 0) (as := [.ref a, .int z0, .int z1, .int z2]) (rest := []) (Or.inl ⟨rfl, rfl⟩) dz117_22 (by decide +kernel : z_lk2 zCT (z_cls 117) 98 = some (108, 0, 812)) (fun z => by cases z) rfl rfl rfl (by decide +kernel) rfl (Or.inr (zE_rc ho))
theorem dz117_25 : decode (z_code 117) 25 = .ok (.ldc 73, 2) := by decide +kernel
theorem u117_25 : zEv sc 117 25 [l0, l1, l2, l3] [t0] h Q ↔ zEv sc 117 27 [l0, l1, l2, l3] [.int (-1000003), t0] h Q := zE_ldc (by decide +kernel : z_lkK zKT (z_cls 117) 73 = some ((-1000003), 828)) dz117_25
theorem dz117_27 : decode (z_code 117) 27 = .ok (.if_icmp .ne 8, 3) := by decide +kernel
theorem u117_27 : zEv sc 117 27 [l0, l1, l2, l3] [.int x2, .int x1] h Q ↔ (if ¬ x1 = x2 then zEv sc 117 35 [l0, l1, l2, l3] [] h Q else zEv sc 117 30 [l0, l1, l2, l3] [] h Q) := zE_icP (P := ¬ x1 = x2) inferInstance 35 dz117_27 rfl rfl
theorem dz117_30 : decode (z_code 117) 30 = .ok (.ldc 73, 2) := by decide +kernel
theorem u117_30 : zEv sc 117 30 [l0, l1, l2, l3] [] h Q ↔ zEv sc 117 32 [l0, l1, l2, l3] [.int (-1000003)] h Q := zE_ldc (by decide +kernel : z_lkK zKT (z_cls 117) 73 = some ((-1000003), 828)) dz117_30
theorem dz117_32 : decode (z_code 117) 32 = .ok (.goto 4, 3) := by decide +kernel
theorem u117_32 : zEv sc 117 32 [l0, l1, l2, l3] [t0] h Q ↔ zEv sc 117 36 [l0, l1, l2, l3] [t0] h Q := zE_go 36 dz117_32 rfl
theorem dz117_36 : decode (z_code 117) 36 = .ok (.ireturn, 1) := by decide +kernel
theorem u117_36 : zEv sc 117 36 [l0, l1, l2, l3] [.int x] h Q ↔ Q (some (.int x)) h := zE_ri dz117_36 (by decide +kernel)
theorem dz117_35 : decode (z_code 117) 35 = .ok (.iconst 0, 1) := by decide +kernel
theorem u117_35 : zEv sc 117 35 [l0, l1, l2, l3] [] h Q ↔ zEv sc 117 36 [l0, l1, l2, l3] [.int 0] h Q := zE_iconst dz117_35 (by decide +kernel)
/-! method 118: FieldMixturesModel.rounds(I)I -/
theorem dz118_0 : decode (z_code 118) 0 = .ok (.aload_n 0, 1) := by decide +kernel
theorem u118_0 : zEv sc 118 0 [.ref a, l1, l2, l3, l4] [] h Q ↔ zEv sc 118 1 [.ref a, l1, l2, l3, l4] [.ref a] h Q := zE_pure (q := (1, [.ref a, l1, l2, l3, l4], [.ref a])) dz118_0 rfl rfl rfl
theorem dz118_1 : decode (z_code 118) 1 = .ok (.iconst 0, 1) := by decide +kernel
theorem u118_1 : zEv sc 118 1 [l0, l1, l2, l3, l4] [t0] h Q ↔ zEv sc 118 2 [l0, l1, l2, l3, l4] [.int 0, t0] h Q := zE_iconst dz118_1 (by decide +kernel)
theorem dz118_2 : decode (z_code 118) 2 = .ok (.invokevirtual 58, 3) := by decide +kernel
theorem u118_2 (ho : zO a 10) : zEv sc 118 2 [l0, l1, l2, l3, l4] [.int z0, .ref a] (zst p iv) Q ↔ zEv sc 101 0 [.ref a, .int z0] [] (zst p iv) (fun r h9 => zEv sc 118 5 [l0, l1, l2, l3, l4] (r.toList ++ []) h9 Q) := zE_call (kd := 0) (na := 2) (nr := 0) (as := [.ref a, .int z0]) (rest := []) (Or.inl ⟨rfl, rfl⟩) dz118_2 (by decide +kernel : z_lk2 zCT (z_cls 118) 58 = some (101, 0, 776)) (fun z => by cases z) rfl rfl rfl (by decide +kernel) rfl (Or.inr (zE_rc ho))
theorem dz118_5 : decode (z_code 118) 5 = .ok (.ifCond .eq 11, 3) := by decide +kernel
theorem u118_5 : zEv sc 118 5 [l0, l1, l2, l3, l4] [.int x] h Q ↔ (if x = 0 then zEv sc 118 16 [l0, l1, l2, l3, l4] [] h Q else zEv sc 118 8 [l0, l1, l2, l3, l4] [] h Q) := zE_ifP (P := x = 0) inferInstance 16 dz118_5 rfl rfl
theorem dz118_8 : decode (z_code 118) 8 = .ok (.aload_n 0, 1) := by decide +kernel
theorem u118_8 : zEv sc 118 8 [.ref a, l1, l2, l3, l4] [] h Q ↔ zEv sc 118 9 [.ref a, l1, l2, l3, l4] [.ref a] h Q := zE_pure (q := (9, [.ref a, l1, l2, l3, l4], [.ref a])) dz118_8 rfl rfl rfl
theorem dz118_9 : decode (z_code 118) 9 = .ok (.iconst 1, 1) := by decide +kernel
theorem u118_9 : zEv sc 118 9 [l0, l1, l2, l3, l4] [t0] h Q ↔ zEv sc 118 10 [l0, l1, l2, l3, l4] [.int 1, t0] h Q := zE_iconst dz118_9 (by decide +kernel)
theorem dz118_10 : decode (z_code 118) 10 = .ok (.invokevirtual 58, 3) := by decide +kernel
theorem u118_10 (ho : zO a 10) : zEv sc 118 10 [l0, l1, l2, l3, l4] [.int z0, .ref a] (zst p iv) Q ↔ zEv sc 101 0 [.ref a, .int z0] [] (zst p iv) (fun r h9 => zEv sc 118 13 [l0, l1, l2, l3, l4] (r.toList ++ []) h9 Q) := zE_call (kd := 0) (na := 2) (nr := 0) (as := [.ref a, .int z0]) (rest := []) (Or.inl ⟨rfl, rfl⟩) dz118_10 (by decide +kernel : z_lk2 zCT (z_cls 118) 58 = some (101, 0, 776)) (fun z => by cases z) rfl rfl rfl (by decide +kernel) rfl (Or.inr (zE_rc ho))
theorem dz118_13 : decode (z_code 118) 13 = .ok (.ifCond .ne 6, 3) := by decide +kernel
theorem u118_13 : zEv sc 118 13 [l0, l1, l2, l3, l4] [.int x] h Q ↔ (if ¬ x = 0 then zEv sc 118 19 [l0, l1, l2, l3, l4] [] h Q else zEv sc 118 16 [l0, l1, l2, l3, l4] [] h Q) := zE_ifP (P := ¬ x = 0) inferInstance 19 dz118_13 rfl rfl
theorem dz118_19 : decode (z_code 118) 19 = .ok (.iconst 0, 1) := by decide +kernel
theorem u118_19 : zEv sc 118 19 [l0, l1, l2, l3, l4] [] h Q ↔ zEv sc 118 20 [l0, l1, l2, l3, l4] [.int 0] h Q := zE_iconst dz118_19 (by decide +kernel)
theorem dz118_20 : decode (z_code 118) 20 = .ok (.istore_n 2, 1) := by decide +kernel
theorem u118_20 : zEv sc 118 20 [l0, l1, l2, l3, l4] [.int x] h Q ↔ zEv sc 118 21 [l0, l1, .int x, l3, l4] [] h Q := zE_pure (q := (21, [l0, l1, .int x, l3, l4], [])) dz118_20 rfl rfl rfl
theorem dz118_21 : decode (z_code 118) 21 = .ok (.iload_n 2, 1) := by decide +kernel
theorem u118_21 : zEv sc 118 21 [l0, l1, .int x, l3, l4] [] h Q ↔ zEv sc 118 22 [l0, l1, .int x, l3, l4] [.int x] h Q := zE_pure (q := (22, [l0, l1, .int x, l3, l4], [.int x])) dz118_21 rfl rfl rfl
theorem dz118_22 : decode (z_code 118) 22 = .ok (.iload_n 1, 1) := by decide +kernel
theorem u118_22 : zEv sc 118 22 [l0, .int x, l2, l3, l4] [t0] h Q ↔ zEv sc 118 23 [l0, .int x, l2, l3, l4] [.int x, t0] h Q := zE_pure (q := (23, [l0, .int x, l2, l3, l4], [.int x, t0])) dz118_22 rfl rfl rfl
theorem dz118_23 : decode (z_code 118) 23 = .ok (.if_icmp .ge 44, 3) := by decide +kernel
theorem u118_23 : zEv sc 118 23 [l0, l1, l2, l3, l4] [.int x2, .int x1] h Q ↔ (if x2 ≤ x1 then zEv sc 118 67 [l0, l1, l2, l3, l4] [] h Q else zEv sc 118 26 [l0, l1, l2, l3, l4] [] h Q) := zE_icP (P := x2 ≤ x1) inferInstance 67 dz118_23 rfl rfl
theorem dz118_26 : decode (z_code 118) 26 = .ok (.aload_n 0, 1) := by decide +kernel
theorem u118_26 : zEv sc 118 26 [.ref a, l1, l2, l3, l4] [] h Q ↔ zEv sc 118 27 [.ref a, l1, l2, l3, l4] [.ref a] h Q := zE_pure (q := (27, [.ref a, l1, l2, l3, l4], [.ref a])) dz118_26 rfl rfl rfl
theorem dz118_27 : decode (z_code 118) 27 = .ok (.iconst 0, 1) := by decide +kernel
theorem u118_27 : zEv sc 118 27 [l0, l1, l2, l3, l4] [t0] h Q ↔ zEv sc 118 28 [l0, l1, l2, l3, l4] [.int 0, t0] h Q := zE_iconst dz118_27 (by decide +kernel)
theorem dz118_28 : decode (z_code 118) 28 = .ok (.invokevirtual 102, 3) := by decide +kernel
theorem u118_28 (ho : zO a 10) : zEv sc 118 28 [l0, l1, l2, l3, l4] [.int z0, .ref a] (zst p iv) Q ↔ zEv sc 114 0 [.ref a, .int z0, .null, .null, .null, .null] [] (zst p iv) (fun r h9 => zEv sc 118 31 [l0, l1, l2, l3, l4] (r.toList ++ []) h9 Q) := zE_call (kd := 0) (na := 2) (nr := 0) (as := [.ref a, .int z0]) (rest := []) (Or.inl ⟨rfl, rfl⟩) dz118_28 (by decide +kernel : z_lk2 zCT (z_cls 118) 102 = some (114, 0, 842)) (fun z => by cases z) rfl rfl rfl (by decide +kernel) rfl (Or.inr (zE_rc ho))
theorem dz118_31 : decode (z_code 118) 31 = .ok (.istore_n 3, 1) := by decide +kernel
theorem u118_31 : zEv sc 118 31 [l0, l1, l2, l3, l4] [.int x] h Q ↔ zEv sc 118 32 [l0, l1, l2, .int x, l4] [] h Q := zE_pure (q := (32, [l0, l1, l2, .int x, l4], [])) dz118_31 rfl rfl rfl
theorem dz118_32 : decode (z_code 118) 32 = .ok (.aload_n 0, 1) := by decide +kernel
theorem u118_32 : zEv sc 118 32 [.ref a, l1, l2, l3, l4] [] h Q ↔ zEv sc 118 33 [.ref a, l1, l2, l3, l4] [.ref a] h Q := zE_pure (q := (33, [.ref a, l1, l2, l3, l4], [.ref a])) dz118_32 rfl rfl rfl
theorem dz118_33 : decode (z_code 118) 33 = .ok (.iconst 1, 1) := by decide +kernel
theorem u118_33 : zEv sc 118 33 [l0, l1, l2, l3, l4] [t0] h Q ↔ zEv sc 118 34 [l0, l1, l2, l3, l4] [.int 1, t0] h Q := zE_iconst dz118_33 (by decide +kernel)
theorem dz118_34 : decode (z_code 118) 34 = .ok (.invokevirtual 102, 3) := by decide +kernel
theorem u118_34 (ho : zO a 10) : zEv sc 118 34 [l0, l1, l2, l3, l4] [.int z0, .ref a] (zst p iv) Q ↔ zEv sc 114 0 [.ref a, .int z0, .null, .null, .null, .null] [] (zst p iv) (fun r h9 => zEv sc 118 37 [l0, l1, l2, l3, l4] (r.toList ++ []) h9 Q) := zE_call (kd := 0) (na := 2) (nr := 0) (as := [.ref a, .int z0]) (rest := []) (Or.inl ⟨rfl, rfl⟩) dz118_34 (by decide +kernel : z_lk2 zCT (z_cls 118) 102 = some (114, 0, 842)) (fun z => by cases z) rfl rfl rfl (by decide +kernel) rfl (Or.inr (zE_rc ho))
theorem dz118_37 : decode (z_code 118) 37 = .ok (.istore 4, 2) := by decide +kernel
theorem u118_37 : zEv sc 118 37 [l0, l1, l2, l3, l4] [.int x] h Q ↔ zEv sc 118 39 [l0, l1, l2, l3, .int x] [] h Q := zE_pure (q := (39, [l0, l1, l2, l3, .int x], [])) dz118_37 rfl rfl rfl
theorem dz118_39 : decode (z_code 118) 39 = .ok (.aload_n 0, 1) := by decide +kernel
theorem u118_39 : zEv sc 118 39 [.ref a, l1, l2, l3, l4] [] h Q ↔ zEv sc 118 40 [.ref a, l1, l2, l3, l4] [.ref a] h Q := zE_pure (q := (40, [.ref a, l1, l2, l3, l4], [.ref a])) dz118_39 rfl rfl rfl
theorem dz118_40 : decode (z_code 118) 40 = .ok (.iconst 0, 1) := by decide +kernel
theorem u118_40 : zEv sc 118 40 [l0, l1, l2, l3, l4] [t0] h Q ↔ zEv sc 118 41 [l0, l1, l2, l3, l4] [.int 0, t0] h Q := zE_iconst dz118_40 (by decide +kernel)
theorem dz118_41 : decode (z_code 118) 41 = .ok (.iload_n 3, 1) := by decide +kernel
theorem u118_41 : zEv sc 118 41 [l0, l1, l2, .int x, l4] [t0, t1] h Q ↔ zEv sc 118 42 [l0, l1, l2, .int x, l4] [.int x, t0, t1] h Q := zE_pure (q := (42, [l0, l1, l2, .int x, l4], [.int x, t0, t1])) dz118_41 rfl rfl rfl
theorem dz118_42 : decode (z_code 118) 42 = .ok (.invokevirtual 105, 3) := by decide +kernel
theorem u118_42 (ho : zO a 10) : zEv sc 118 42 [l0, l1, l2, l3, l4] [.int z1, .int z0, .ref a] (zst p iv) Q ↔ zEv sc 117 0 [.ref a, .int z0, .int z1, .null] [] (zst p iv) (fun r h9 => zEv sc 118 45 [l0, l1, l2, l3, l4] (r.toList ++ []) h9 Q) := zE_call (kd := 0) (na := 3) (nr := 0) (as := [.ref a, .int z0, .int z1]) (rest := []) (Or.inl ⟨rfl, rfl⟩) dz118_42 (by decide +kernel : z_lk2 zCT (z_cls 118) 105 = some (117, 0, 862)) (fun z => by cases z) rfl rfl rfl (by decide +kernel) rfl (Or.inr (zE_rc ho))
theorem dz118_45 : decode (z_code 118) 45 = .ok (.ifCond .lt 13, 3) := by decide +kernel
theorem u118_45 : zEv sc 118 45 [l0, l1, l2, l3, l4] [.int x] h Q ↔ (if x < 0 then zEv sc 118 58 [l0, l1, l2, l3, l4] [] h Q else zEv sc 118 48 [l0, l1, l2, l3, l4] [] h Q) := zE_ifP (P := x < 0) inferInstance 58 dz118_45 rfl rfl
theorem dz118_48 : decode (z_code 118) 48 = .ok (.aload_n 0, 1) := by decide +kernel
theorem u118_48 : zEv sc 118 48 [.ref a, l1, l2, l3, l4] [] h Q ↔ zEv sc 118 49 [.ref a, l1, l2, l3, l4] [.ref a] h Q := zE_pure (q := (49, [.ref a, l1, l2, l3, l4], [.ref a])) dz118_48 rfl rfl rfl
theorem dz118_49 : decode (z_code 118) 49 = .ok (.iconst 1, 1) := by decide +kernel
theorem u118_49 : zEv sc 118 49 [l0, l1, l2, l3, l4] [t0] h Q ↔ zEv sc 118 50 [l0, l1, l2, l3, l4] [.int 1, t0] h Q := zE_iconst dz118_49 (by decide +kernel)
theorem dz118_50 : decode (z_code 118) 50 = .ok (.iload 4, 2) := by decide +kernel
theorem u118_50 : zEv sc 118 50 [l0, l1, l2, l3, .int x] [t0, t1] h Q ↔ zEv sc 118 52 [l0, l1, l2, l3, .int x] [.int x, t0, t1] h Q := zE_pure (q := (52, [l0, l1, l2, l3, .int x], [.int x, t0, t1])) dz118_50 rfl rfl rfl
theorem dz118_52 : decode (z_code 118) 52 = .ok (.invokevirtual 105, 3) := by decide +kernel
theorem u118_52 (ho : zO a 10) : zEv sc 118 52 [l0, l1, l2, l3, l4] [.int z1, .int z0, .ref a] (zst p iv) Q ↔ zEv sc 117 0 [.ref a, .int z0, .int z1, .null] [] (zst p iv) (fun r h9 => zEv sc 118 55 [l0, l1, l2, l3, l4] (r.toList ++ []) h9 Q) := zE_call (kd := 0) (na := 3) (nr := 0) (as := [.ref a, .int z0, .int z1]) (rest := []) (Or.inl ⟨rfl, rfl⟩) dz118_52 (by decide +kernel : z_lk2 zCT (z_cls 118) 105 = some (117, 0, 862)) (fun z => by cases z) rfl rfl rfl (by decide +kernel) rfl (Or.inr (zE_rc ho))
theorem dz118_55 : decode (z_code 118) 55 = .ok (.ifCond .ge 6, 3) := by decide +kernel
theorem u118_55 : zEv sc 118 55 [l0, l1, l2, l3, l4] [.int x] h Q ↔ (if 0 ≤ x then zEv sc 118 61 [l0, l1, l2, l3, l4] [] h Q else zEv sc 118 58 [l0, l1, l2, l3, l4] [] h Q) := zE_ifP (P := 0 ≤ x) inferInstance 61 dz118_55 rfl rfl
theorem dz118_61 : decode (z_code 118) 61 = .ok (.iinc 2 1, 3) := by decide +kernel
theorem u118_61 : zEv sc 118 61 [l0, l1, .int x, l3, l4] [] h Q ↔ zEv sc 118 64 [l0, l1, .int (x + 1), l3, l4] [] h Q := zE_iinc (ls2 := [l0, l1, .int (x + 1), l3, l4]) dz118_61 (by decide +kernel) rfl (by simp) rfl
theorem dz118_64 : decode (z_code 118) 64 = .ok (.goto (-43), 3) := by decide +kernel
theorem u118_64 : zEv sc 118 64 [l0, l1, l2, l3, l4] [] h Q ↔ zEv sc 118 21 [l0, l1, l2, l3, l4] [] h Q := zE_go 21 dz118_64 rfl
theorem dz118_58 : decode (z_code 118) 58 = .ok (.ldc 73, 2) := by decide +kernel
theorem u118_58 : zEv sc 118 58 [l0, l1, l2, l3, l4] [] h Q ↔ zEv sc 118 60 [l0, l1, l2, l3, l4] [.int (-1000003)] h Q := zE_ldc (by decide +kernel : z_lkK zKT (z_cls 118) 73 = some ((-1000003), 828)) dz118_58
theorem dz118_60 : decode (z_code 118) 60 = .ok (.ireturn, 1) := by decide +kernel
theorem u118_60 : zEv sc 118 60 [l0, l1, l2, l3, l4] [.int x] h Q ↔ Q (some (.int x)) h := zE_ri dz118_60 (by decide +kernel)
theorem dz118_67 : decode (z_code 118) 67 = .ok (.aload_n 0, 1) := by decide +kernel
theorem u118_67 : zEv sc 118 67 [.ref a, l1, l2, l3, l4] [] h Q ↔ zEv sc 118 68 [.ref a, l1, l2, l3, l4] [.ref a] h Q := zE_pure (q := (68, [.ref a, l1, l2, l3, l4], [.ref a])) dz118_67 rfl rfl rfl
theorem dz118_68 : decode (z_code 118) 68 = .ok (.iconst 0, 1) := by decide +kernel
theorem u118_68 : zEv sc 118 68 [l0, l1, l2, l3, l4] [t0] h Q ↔ zEv sc 118 69 [l0, l1, l2, l3, l4] [.int 0, t0] h Q := zE_iconst dz118_68 (by decide +kernel)
theorem dz118_69 : decode (z_code 118) 69 = .ok (.invokevirtual 58, 3) := by decide +kernel
theorem u118_69 (ho : zO a 10) : zEv sc 118 69 [l0, l1, l2, l3, l4] [.int z0, .ref a] (zst p iv) Q ↔ zEv sc 101 0 [.ref a, .int z0] [] (zst p iv) (fun r h9 => zEv sc 118 72 [l0, l1, l2, l3, l4] (r.toList ++ []) h9 Q) := zE_call (kd := 0) (na := 2) (nr := 0) (as := [.ref a, .int z0]) (rest := []) (Or.inl ⟨rfl, rfl⟩) dz118_69 (by decide +kernel : z_lk2 zCT (z_cls 118) 58 = some (101, 0, 776)) (fun z => by cases z) rfl rfl rfl (by decide +kernel) rfl (Or.inr (zE_rc ho))
theorem dz118_72 : decode (z_code 118) 72 = .ok (.aload_n 0, 1) := by decide +kernel
theorem u118_72 : zEv sc 118 72 [.ref a, l1, l2, l3, l4] [t0] h Q ↔ zEv sc 118 73 [.ref a, l1, l2, l3, l4] [.ref a, t0] h Q := zE_pure (q := (73, [.ref a, l1, l2, l3, l4], [.ref a, t0])) dz118_72 rfl rfl rfl
theorem dz118_73 : decode (z_code 118) 73 = .ok (.iconst 1, 1) := by decide +kernel
theorem u118_73 : zEv sc 118 73 [l0, l1, l2, l3, l4] [t0, t1] h Q ↔ zEv sc 118 74 [l0, l1, l2, l3, l4] [.int 1, t0, t1] h Q := zE_iconst dz118_73 (by decide +kernel)
theorem dz118_74 : decode (z_code 118) 74 = .ok (.invokevirtual 58, 3) := by decide +kernel
theorem u118_74 (ho : zO a 10) : zEv sc 118 74 [l0, l1, l2, l3, l4] [.int z0, .ref a, t0] (zst p iv) Q ↔ zEv sc 101 0 [.ref a, .int z0] [] (zst p iv) (fun r h9 => zEv sc 118 77 [l0, l1, l2, l3, l4] (r.toList ++ [t0]) h9 Q) := zE_call (kd := 0) (na := 2) (nr := 1) (as := [.ref a, .int z0]) (rest := [t0]) (Or.inl ⟨rfl, rfl⟩) dz118_74 (by decide +kernel : z_lk2 zCT (z_cls 118) 58 = some (101, 0, 776)) (fun z => by cases z) rfl rfl rfl (by decide +kernel) rfl (Or.inr (zE_rc ho))
theorem dz118_77 : decode (z_code 118) 77 = .ok (.iadd, 1) := by decide +kernel
theorem u118_77 : zEv sc 118 77 [l0, l1, l2, l3, l4] [.int x2, .int x1] h Q ↔ zEv sc 118 78 [l0, l1, l2, l3, l4] [.int (x1 + x2)] h Q := zE_pure (q := (78, [l0, l1, l2, l3, l4], [.int (x1 + x2)])) dz118_77 rfl rfl rfl
theorem dz118_78 : decode (z_code 118) 78 = .ok (.ireturn, 1) := by decide +kernel
theorem u118_78 : zEv sc 118 78 [l0, l1, l2, l3, l4] [.int x] h Q ↔ Q (some (.int x)) h := zE_ri dz118_78 (by decide +kernel)
theorem dz118_16 : decode (z_code 118) 16 = .ok (.ldc 101, 2) := by decide +kernel
theorem u118_16 : zEv sc 118 16 [l0, l1, l2, l3, l4] [] h Q ↔ zEv sc 118 18 [l0, l1, l2, l3, l4] [.int (-1000002)] h Q := zE_ldc (by decide +kernel : z_lkK zKT (z_cls 118) 101 = some ((-1000002), 833)) dz118_16
theorem dz118_18 : decode (z_code 118) 18 = .ok (.ireturn, 1) := by decide +kernel
theorem u118_18 : zEv sc 118 18 [l0, l1, l2, l3, l4] [.int x] h Q ↔ Q (some (.int x)) h := zE_ri dz118_18 (by decide +kernel)
/-! method 119: FieldMixturesModel.fields(I)I -/
theorem dz119_0 : decode (z_code 119) 0 = .ok (.aload_n 0, 1) := by decide +kernel
theorem u119_0 : zEv sc 119 0 [.ref a, l1] [] h Q ↔ zEv sc 119 1 [.ref a, l1] [.ref a] h Q := zE_pure (q := (1, [.ref a, l1], [.ref a])) dz119_0 rfl rfl rfl
theorem dz119_1 : decode (z_code 119) 1 = .ok (.invokevirtual 108, 3) := by decide +kernel
theorem u119_1 (ho : zO a 10) : zEv sc 119 1 [l0, l1] [.ref a] (zst p iv) Q ↔ zEv sc 90 0 [.ref a, .null] [] (zst p iv) (fun r h9 => zEv sc 119 4 [l0, l1] (r.toList ++ []) h9 Q) := zE_call (kd := 0) (na := 1) (nr := 0) (as := [.ref a]) (rest := []) (Or.inl ⟨rfl, rfl⟩) dz119_1 (by decide +kernel : z_lk2 zCT (z_cls 119) 108 = some (90, 0, 730)) (fun z => by cases z) rfl rfl rfl (by decide +kernel) rfl (Or.inr (zE_rc ho))
theorem dz119_4 : decode (z_code 119) 4 = .ok (.aload_n 0, 1) := by decide +kernel
theorem u119_4 : zEv sc 119 4 [.ref a, l1] [] h Q ↔ zEv sc 119 5 [.ref a, l1] [.ref a] h Q := zE_pure (q := (5, [.ref a, l1], [.ref a])) dz119_4 rfl rfl rfl
theorem dz119_5 : decode (z_code 119) 5 = .ok (.iload_n 1, 1) := by decide +kernel
theorem u119_5 : zEv sc 119 5 [l0, .int x] [t0] h Q ↔ zEv sc 119 6 [l0, .int x] [.int x, t0] h Q := zE_pure (q := (6, [l0, .int x], [.int x, t0])) dz119_5 rfl rfl rfl
theorem dz119_6 : decode (z_code 119) 6 = .ok (.iconst 2, 1) := by decide +kernel
theorem u119_6 : zEv sc 119 6 [l0, l1] [t0, t1] h Q ↔ zEv sc 119 7 [l0, l1] [.int 2, t0, t1] h Q := zE_iconst dz119_6 (by decide +kernel)
theorem dz119_7 : decode (z_code 119) 7 = .ok (.iconst 4, 1) := by decide +kernel
theorem u119_7 : zEv sc 119 7 [l0, l1] [t0, t1, t2] h Q ↔ zEv sc 119 8 [l0, l1] [.int 4, t0, t1, t2] h Q := zE_iconst dz119_7 (by decide +kernel)
theorem dz119_8 : decode (z_code 119) 8 = .ok (.invokestatic 39, 3) := by decide +kernel
theorem u119_8 : zEv sc 119 8 [l0, l1] [.int z2, .int z1, .int z0, t0] h Q ↔ zEv sc 89 0 [.int z0, .int z1, .int z2] [] h (fun r h9 => zEv sc 119 11 [l0, l1] (r.toList ++ [t0]) h9 Q) := zE_call (kd := 1) (na := 3) (nr := 1) (as := [.int z0, .int z1, .int z2]) (rest := [t0]) (Or.inr ⟨rfl, rfl⟩) dz119_8 (by decide +kernel : z_lk2 zCT (z_cls 119) 39 = some (89, 0, 734)) (fun _ => by decide +kernel) rfl rfl rfl (by decide +kernel) rfl (Or.inl rfl)
theorem dz119_11 : decode (z_code 119) 11 = .ok (.ifCond .eq 11, 3) := by decide +kernel
theorem u119_11 : zEv sc 119 11 [l0, l1] [.int x, t0] h Q ↔ (if x = 0 then zEv sc 119 22 [l0, l1] [t0] h Q else zEv sc 119 14 [l0, l1] [t0] h Q) := zE_ifP (P := x = 0) inferInstance 22 dz119_11 rfl rfl
theorem dz119_14 : decode (z_code 119) 14 = .ok (.aload_n 0, 1) := by decide +kernel
theorem u119_14 : zEv sc 119 14 [.ref a, l1] [t0] h Q ↔ zEv sc 119 15 [.ref a, l1] [.ref a, t0] h Q := zE_pure (q := (15, [.ref a, l1], [.ref a, t0])) dz119_14 rfl rfl rfl
theorem dz119_15 : decode (z_code 119) 15 = .ok (.iload_n 1, 1) := by decide +kernel
theorem u119_15 : zEv sc 119 15 [l0, .int x] [t0, t1] h Q ↔ zEv sc 119 16 [l0, .int x] [.int x, t0, t1] h Q := zE_pure (q := (16, [l0, .int x], [.int x, t0, t1])) dz119_15 rfl rfl rfl
theorem dz119_16 : decode (z_code 119) 16 = .ok (.invokevirtual 111, 3) := by decide +kernel
theorem u119_16 (ho : zO a 10) : zEv sc 119 16 [l0, l1] [.int z0, .ref a, t0] (zst p iv) Q ↔ zEv sc 115 0 [.ref a, .int z0, .null] [] (zst p iv) (fun r h9 => zEv sc 119 19 [l0, l1] (r.toList ++ [t0]) h9 Q) := zE_call (kd := 0) (na := 2) (nr := 1) (as := [.ref a, .int z0]) (rest := [t0]) (Or.inl ⟨rfl, rfl⟩) dz119_16 (by decide +kernel : z_lk2 zCT (z_cls 119) 111 = some (115, 0, 737)) (fun z => by cases z) rfl rfl rfl (by decide +kernel) rfl (Or.inr (zE_rc ho))
theorem dz119_19 : decode (z_code 119) 19 = .ok (.goto 5, 3) := by decide +kernel
theorem u119_19 : zEv sc 119 19 [l0, l1] [t0, t1] h Q ↔ zEv sc 119 24 [l0, l1] [t0, t1] h Q := zE_go 24 dz119_19 rfl
theorem dz119_24 : decode (z_code 119) 24 = .ok (.invokevirtual 114, 3) := by decide +kernel
theorem u119_24 (ho : zO a 10) : zEv sc 119 24 [l0, l1] [.int z0, .ref a] (zst p iv) Q ↔ zEv sc 92 0 [.ref a, .int z0, .null] [] (zst p iv) (fun r h9 => zEv sc 119 27 [l0, l1] (r.toList ++ []) h9 Q) := zE_call (kd := 0) (na := 2) (nr := 0) (as := [.ref a, .int z0]) (rest := []) (Or.inl ⟨rfl, rfl⟩) dz119_24 (by decide +kernel : z_lk2 zCT (z_cls 119) 114 = some (92, 0, 745)) (fun z => by cases z) rfl rfl rfl (by decide +kernel) rfl (Or.inr (zE_rc ho))
theorem dz119_27 : decode (z_code 119) 27 = .ok (.ireturn, 1) := by decide +kernel
theorem u119_27 : zEv sc 119 27 [l0, l1] [.int x] h Q ↔ Q (some (.int x)) h := zE_ri dz119_27 (by decide +kernel)
theorem dz119_22 : decode (z_code 119) 22 = .ok (.ldc 31, 2) := by decide +kernel
theorem u119_22 : zEv sc 119 22 [l0, l1] [t0] h Q ↔ zEv sc 119 24 [l0, l1] [.int (-1000001), t0] h Q := zE_ldc (by decide +kernel : z_lkK zKT (z_cls 119) 31 = some ((-1000001), 744)) dz119_22
/-! method 120: FieldMixturesModel.value(II)I -/
theorem dz120_0 : decode (z_code 120) 0 = .ok (.aload_n 0, 1) := by decide +kernel
theorem u120_0 : zEv sc 120 0 [.ref a, l1, l2] [] h Q ↔ zEv sc 120 1 [.ref a, l1, l2] [.ref a] h Q := zE_pure (q := (1, [.ref a, l1, l2], [.ref a])) dz120_0 rfl rfl rfl
theorem dz120_1 : decode (z_code 120) 1 = .ok (.invokevirtual 108, 3) := by decide +kernel
theorem u120_1 (ho : zO a 10) : zEv sc 120 1 [l0, l1, l2] [.ref a] (zst p iv) Q ↔ zEv sc 90 0 [.ref a, .null] [] (zst p iv) (fun r h9 => zEv sc 120 4 [l0, l1, l2] (r.toList ++ []) h9 Q) := zE_call (kd := 0) (na := 1) (nr := 0) (as := [.ref a]) (rest := []) (Or.inl ⟨rfl, rfl⟩) dz120_1 (by decide +kernel : z_lk2 zCT (z_cls 120) 108 = some (90, 0, 730)) (fun z => by cases z) rfl rfl rfl (by decide +kernel) rfl (Or.inr (zE_rc ho))
theorem dz120_4 : decode (z_code 120) 4 = .ok (.aload_n 0, 1) := by decide +kernel
theorem u120_4 : zEv sc 120 4 [.ref a, l1, l2] [] h Q ↔ zEv sc 120 5 [.ref a, l1, l2] [.ref a] h Q := zE_pure (q := (5, [.ref a, l1, l2], [.ref a])) dz120_4 rfl rfl rfl
theorem dz120_5 : decode (z_code 120) 5 = .ok (.aload_n 0, 1) := by decide +kernel
theorem u120_5 : zEv sc 120 5 [.ref a, l1, l2] [t0] h Q ↔ zEv sc 120 6 [.ref a, l1, l2] [.ref a, t0] h Q := zE_pure (q := (6, [.ref a, l1, l2], [.ref a, t0])) dz120_5 rfl rfl rfl
theorem dz120_6 : decode (z_code 120) 6 = .ok (.iload_n 1, 1) := by decide +kernel
theorem u120_6 : zEv sc 120 6 [l0, .int x, l2] [t0, t1] h Q ↔ zEv sc 120 7 [l0, .int x, l2] [.int x, t0, t1] h Q := zE_pure (q := (7, [l0, .int x, l2], [.int x, t0, t1])) dz120_6 rfl rfl rfl
theorem dz120_7 : decode (z_code 120) 7 = .ok (.invokevirtual 117, 3) := by decide +kernel
theorem u120_7 (ho : zO a 10) : zEv sc 120 7 [l0, l1, l2] [.int z0, .ref a, t0] (zst p iv) Q ↔ zEv sc 94 0 [.ref a, .int z0] [] (zst p iv) (fun r h9 => zEv sc 120 10 [l0, l1, l2] (r.toList ++ [t0]) h9 Q) := zE_call (kd := 0) (na := 2) (nr := 1) (as := [.ref a, .int z0]) (rest := [t0]) (Or.inl ⟨rfl, rfl⟩) dz120_7 (by decide +kernel : z_lk2 zCT (z_cls 120) 117 = some (94, 0, 757)) (fun z => by cases z) rfl rfl rfl (by decide +kernel) rfl (Or.inr (zE_rc ho))
theorem dz120_10 : decode (z_code 120) 10 = .ok (.ifCond .eq 24, 3) := by decide +kernel
theorem u120_10 : zEv sc 120 10 [l0, l1, l2] [.int x, t0] h Q ↔ (if x = 0 then zEv sc 120 34 [l0, l1, l2] [t0] h Q else zEv sc 120 13 [l0, l1, l2] [t0] h Q) := zE_ifP (P := x = 0) inferInstance 34 dz120_10 rfl rfl
theorem dz120_13 : decode (z_code 120) 13 = .ok (.iload_n 2, 1) := by decide +kernel
theorem u120_13 : zEv sc 120 13 [l0, l1, .int x] [t0] h Q ↔ zEv sc 120 14 [l0, l1, .int x] [.int x, t0] h Q := zE_pure (q := (14, [l0, l1, .int x], [.int x, t0])) dz120_13 rfl rfl rfl
theorem dz120_14 : decode (z_code 120) 14 = .ok (.iconst 1, 1) := by decide +kernel
theorem u120_14 : zEv sc 120 14 [l0, l1, l2] [t0, t1] h Q ↔ zEv sc 120 15 [l0, l1, l2] [.int 1, t0, t1] h Q := zE_iconst dz120_14 (by decide +kernel)
theorem dz120_15 : decode (z_code 120) 15 = .ok (.bipush 9, 2) := by decide +kernel
theorem u120_15 : zEv sc 120 15 [l0, l1, l2] [t0, t1, t2] h Q ↔ zEv sc 120 17 [l0, l1, l2] [.int 9, t0, t1, t2] h Q := zE_bipush dz120_15 (by decide +kernel)
theorem dz120_17 : decode (z_code 120) 17 = .ok (.invokestatic 39, 3) := by decide +kernel
theorem u120_17 : zEv sc 120 17 [l0, l1, l2] [.int z2, .int z1, .int z0, t0] h Q ↔ zEv sc 89 0 [.int z0, .int z1, .int z2] [] h (fun r h9 => zEv sc 120 20 [l0, l1, l2] (r.toList ++ [t0]) h9 Q) := zE_call (kd := 1) (na := 3) (nr := 1) (as := [.int z0, .int z1, .int z2]) (rest := [t0]) (Or.inr ⟨rfl, rfl⟩) dz120_17 (by decide +kernel : z_lk2 zCT (z_cls 120) 39 = some (89, 0, 734)) (fun _ => by decide +kernel) rfl rfl rfl (by decide +kernel) rfl (Or.inl rfl)
theorem dz120_20 : decode (z_code 120) 20 = .ok (.ifCond .eq 14, 3) := by decide +kernel
theorem u120_20 : zEv sc 120 20 [l0, l1, l2] [.int x, t0] h Q ↔ (if x = 0 then zEv sc 120 34 [l0, l1, l2] [t0] h Q else zEv sc 120 23 [l0, l1, l2] [t0] h Q) := zE_ifP (P := x = 0) inferInstance 34 dz120_20 rfl rfl
theorem dz120_23 : decode (z_code 120) 23 = .ok (.aload_n 0, 1) := by decide +kernel
theorem u120_23 : zEv sc 120 23 [.ref a, l1, l2] [t0] h Q ↔ zEv sc 120 24 [.ref a, l1, l2] [.ref a, t0] h Q := zE_pure (q := (24, [.ref a, l1, l2], [.ref a, t0])) dz120_23 rfl rfl rfl
theorem dz120_24 : decode (z_code 120) 24 = .ok (.iconst 2, 1) := by decide +kernel
theorem u120_24 : zEv sc 120 24 [l0, l1, l2] [t0, t1] h Q ↔ zEv sc 120 25 [l0, l1, l2] [.int 2, t0, t1] h Q := zE_iconst dz120_24 (by decide +kernel)
theorem dz120_25 : decode (z_code 120) 25 = .ok (.iload_n 1, 1) := by decide +kernel
theorem u120_25 : zEv sc 120 25 [l0, .int x, l2] [t0, t1, t2] h Q ↔ zEv sc 120 26 [l0, .int x, l2] [.int x, t0, t1, t2] h Q := zE_pure (q := (26, [l0, .int x, l2], [.int x, t0, t1, t2])) dz120_25 rfl rfl rfl
theorem dz120_26 : decode (z_code 120) 26 = .ok (.iadd, 1) := by decide +kernel
theorem u120_26 : zEv sc 120 26 [l0, l1, l2] [.int x2, .int x1, t0, t1] h Q ↔ zEv sc 120 27 [l0, l1, l2] [.int (x1 + x2), t0, t1] h Q := zE_pure (q := (27, [l0, l1, l2], [.int (x1 + x2), t0, t1])) dz120_26 rfl rfl rfl
theorem dz120_27 : decode (z_code 120) 27 = .ok (.iload_n 2, 1) := by decide +kernel
theorem u120_27 : zEv sc 120 27 [l0, l1, .int x] [t0, t1, t2] h Q ↔ zEv sc 120 28 [l0, l1, .int x] [.int x, t0, t1, t2] h Q := zE_pure (q := (28, [l0, l1, .int x], [.int x, t0, t1, t2])) dz120_27 rfl rfl rfl
theorem dz120_28 : decode (z_code 120) 28 = .ok (.invokevirtual 121, 3) := by decide +kernel
theorem u120_28 (ho : zO a 10) : zEv sc 120 28 [l0, l1, l2] [.int z1, .int z0, .ref a, t0] (zst p iv) Q ↔ zEv sc 116 0 [.ref a, .int z0, .int z1, .null] [] (zst p iv) (fun r h9 => zEv sc 120 31 [l0, l1, l2] (r.toList ++ [t0]) h9 Q) := zE_call (kd := 0) (na := 3) (nr := 1) (as := [.ref a, .int z0, .int z1]) (rest := [t0]) (Or.inl ⟨rfl, rfl⟩) dz120_28 (by decide +kernel : z_lk2 zCT (z_cls 120) 121 = some (116, 0, 761)) (fun z => by cases z) rfl rfl rfl (by decide +kernel) rfl (Or.inr (zE_rc ho))
theorem dz120_31 : decode (z_code 120) 31 = .ok (.goto 5, 3) := by decide +kernel
theorem u120_31 : zEv sc 120 31 [l0, l1, l2] [t0, t1] h Q ↔ zEv sc 120 36 [l0, l1, l2] [t0, t1] h Q := zE_go 36 dz120_31 rfl
theorem dz120_36 : decode (z_code 120) 36 = .ok (.invokevirtual 114, 3) := by decide +kernel
theorem u120_36 (ho : zO a 10) : zEv sc 120 36 [l0, l1, l2] [.int z0, .ref a] (zst p iv) Q ↔ zEv sc 92 0 [.ref a, .int z0, .null] [] (zst p iv) (fun r h9 => zEv sc 120 39 [l0, l1, l2] (r.toList ++ []) h9 Q) := zE_call (kd := 0) (na := 2) (nr := 0) (as := [.ref a, .int z0]) (rest := []) (Or.inl ⟨rfl, rfl⟩) dz120_36 (by decide +kernel : z_lk2 zCT (z_cls 120) 114 = some (92, 0, 745)) (fun z => by cases z) rfl rfl rfl (by decide +kernel) rfl (Or.inr (zE_rc ho))
theorem dz120_39 : decode (z_code 120) 39 = .ok (.ireturn, 1) := by decide +kernel
theorem u120_39 : zEv sc 120 39 [l0, l1, l2] [.int x] h Q ↔ Q (some (.int x)) h := zE_ri dz120_39 (by decide +kernel)
theorem dz120_34 : decode (z_code 120) 34 = .ok (.ldc 31, 2) := by decide +kernel
theorem u120_34 : zEv sc 120 34 [l0, l1, l2] [t0] h Q ↔ zEv sc 120 36 [l0, l1, l2] [.int (-1000001), t0] h Q := zE_ldc (by decide +kernel : z_lkK zKT (z_cls 120) 31 = some ((-1000001), 744)) dz120_34
/-! method 121: FieldMixturesModel.resources(II)I -/
theorem dz121_0 : decode (z_code 121) 0 = .ok (.aload_n 0, 1) := by decide +kernel
theorem u121_0 : zEv sc 121 0 [.ref a, l1, l2] [] h Q ↔ zEv sc 121 1 [.ref a, l1, l2] [.ref a] h Q := zE_pure (q := (1, [.ref a, l1, l2], [.ref a])) dz121_0 rfl rfl rfl
theorem dz121_1 : decode (z_code 121) 1 = .ok (.invokevirtual 108, 3) := by decide +kernel
theorem u121_1 (ho : zO a 10) : zEv sc 121 1 [l0, l1, l2] [.ref a] (zst p iv) Q ↔ zEv sc 90 0 [.ref a, .null] [] (zst p iv) (fun r h9 => zEv sc 121 4 [l0, l1, l2] (r.toList ++ []) h9 Q) := zE_call (kd := 0) (na := 1) (nr := 0) (as := [.ref a]) (rest := []) (Or.inl ⟨rfl, rfl⟩) dz121_1 (by decide +kernel : z_lk2 zCT (z_cls 121) 108 = some (90, 0, 730)) (fun z => by cases z) rfl rfl rfl (by decide +kernel) rfl (Or.inr (zE_rc ho))
theorem dz121_4 : decode (z_code 121) 4 = .ok (.iload_n 1, 1) := by decide +kernel
theorem u121_4 : zEv sc 121 4 [l0, .int x, l2] [] h Q ↔ zEv sc 121 5 [l0, .int x, l2] [.int x] h Q := zE_pure (q := (5, [l0, .int x, l2], [.int x])) dz121_4 rfl rfl rfl
theorem dz121_5 : decode (z_code 121) 5 = .ok (.invokestatic 124, 3) := by decide +kernel
theorem u121_5 : zEv sc 121 5 [l0, l1, l2] [.int z0] h Q ↔ zEv sc 93 0 [.int z0] [] h (fun r h9 => zEv sc 121 8 [l0, l1, l2] (r.toList ++ []) h9 Q) := zE_call (kd := 1) (na := 1) (nr := 0) (as := [.int z0]) (rest := []) (Or.inr ⟨rfl, rfl⟩) dz121_5 (by decide +kernel : z_lk2 zCT (z_cls 121) 124 = some (93, 0, 769)) (fun _ => by decide +kernel) rfl rfl rfl (by decide +kernel) rfl (Or.inl rfl)
theorem dz121_8 : decode (z_code 121) 8 = .ok (.ifCond .eq 13, 3) := by decide +kernel
theorem u121_8 : zEv sc 121 8 [l0, l1, l2] [.int x] h Q ↔ (if x = 0 then zEv sc 121 21 [l0, l1, l2] [] h Q else zEv sc 121 11 [l0, l1, l2] [] h Q) := zE_ifP (P := x = 0) inferInstance 21 dz121_8 rfl rfl
theorem dz121_11 : decode (z_code 121) 11 = .ok (.iload_n 2, 1) := by decide +kernel
theorem u121_11 : zEv sc 121 11 [l0, l1, .int x] [] h Q ↔ zEv sc 121 12 [l0, l1, .int x] [.int x] h Q := zE_pure (q := (12, [l0, l1, .int x], [.int x])) dz121_11 rfl rfl rfl
theorem dz121_12 : decode (z_code 121) 12 = .ok (.iconst 0, 1) := by decide +kernel
theorem u121_12 : zEv sc 121 12 [l0, l1, l2] [t0] h Q ↔ zEv sc 121 13 [l0, l1, l2] [.int 0, t0] h Q := zE_iconst dz121_12 (by decide +kernel)
theorem dz121_13 : decode (z_code 121) 13 = .ok (.bipush 8, 2) := by decide +kernel
theorem u121_13 : zEv sc 121 13 [l0, l1, l2] [t0, t1] h Q ↔ zEv sc 121 15 [l0, l1, l2] [.int 8, t0, t1] h Q := zE_bipush dz121_13 (by decide +kernel)
theorem dz121_15 : decode (z_code 121) 15 = .ok (.invokestatic 39, 3) := by decide +kernel
theorem u121_15 : zEv sc 121 15 [l0, l1, l2] [.int z2, .int z1, .int z0] h Q ↔ zEv sc 89 0 [.int z0, .int z1, .int z2] [] h (fun r h9 => zEv sc 121 18 [l0, l1, l2] (r.toList ++ []) h9 Q) := zE_call (kd := 1) (na := 3) (nr := 0) (as := [.int z0, .int z1, .int z2]) (rest := []) (Or.inr ⟨rfl, rfl⟩) dz121_15 (by decide +kernel : z_lk2 zCT (z_cls 121) 39 = some (89, 0, 734)) (fun _ => by decide +kernel) rfl rfl rfl (by decide +kernel) rfl (Or.inl rfl)
theorem dz121_18 : decode (z_code 121) 18 = .ok (.ifCond .ne 6, 3) := by decide +kernel
theorem u121_18 : zEv sc 121 18 [l0, l1, l2] [.int x] h Q ↔ (if ¬ x = 0 then zEv sc 121 24 [l0, l1, l2] [] h Q else zEv sc 121 21 [l0, l1, l2] [] h Q) := zE_ifP (P := ¬ x = 0) inferInstance 24 dz121_18 rfl rfl
theorem dz121_24 : decode (z_code 121) 24 = .ok (.aload_n 0, 1) := by decide +kernel
theorem u121_24 : zEv sc 121 24 [.ref a, l1, l2] [] h Q ↔ zEv sc 121 25 [.ref a, l1, l2] [.ref a] h Q := zE_pure (q := (25, [.ref a, l1, l2], [.ref a])) dz121_24 rfl rfl rfl
theorem dz121_25 : decode (z_code 121) 25 = .ok (.getfield 7, 3) := by decide +kernel
theorem u121_25 (ho : zO a 10) : zEv sc 121 25 [l0, l1, l2] [.ref a] (zst p iv) Q ↔ zRef (zRV p a 0) (fun j => zEv sc 121 28 [l0, l1, l2] [.ref j] (zst p iv) Q) := zE_gfR dz121_25 (by decide +kernel : z_lk3 zFT (z_cls 121) 7 = some (10, 0, 0, 677)) (by decide +kernel) ho
theorem dz121_28 : decode (z_code 121) 28 = .ok (.bipush 6, 2) := by decide +kernel
theorem u121_28 : zEv sc 121 28 [l0, l1, l2] [t0] h Q ↔ zEv sc 121 30 [l0, l1, l2] [.int 6, t0] h Q := zE_bipush dz121_28 (by decide +kernel)
theorem dz121_30 : decode (z_code 121) 30 = .ok (.iload_n 1, 1) := by decide +kernel
theorem u121_30 : zEv sc 121 30 [l0, .int x, l2] [t0, t1] h Q ↔ zEv sc 121 31 [l0, .int x, l2] [.int x, t0, t1] h Q := zE_pure (q := (31, [l0, .int x, l2], [.int x, t0, t1])) dz121_30 rfl rfl rfl
theorem dz121_31 : decode (z_code 121) 31 = .ok (.iadd, 1) := by decide +kernel
theorem u121_31 : zEv sc 121 31 [l0, l1, l2] [.int x2, .int x1, t0] h Q ↔ zEv sc 121 32 [l0, l1, l2] [.int (x1 + x2), t0] h Q := zE_pure (q := (32, [l0, l1, l2], [.int (x1 + x2), t0])) dz121_31 rfl rfl rfl
theorem dz121_32 : decode (z_code 121) 32 = .ok (.iload_n 2, 1) := by decide +kernel
theorem u121_32 : zEv sc 121 32 [l0, l1, .int x] [t0, t1] h Q ↔ zEv sc 121 33 [l0, l1, .int x] [.int x, t0, t1] h Q := zE_pure (q := (33, [l0, l1, .int x], [.int x, t0, t1])) dz121_32 rfl rfl rfl
theorem dz121_33 : decode (z_code 121) 33 = .ok (.iastore, 1) := by decide +kernel
theorem u121_33 (ho : zO a 100) : zEv sc 121 33 [l0, l1, l2] [.int x2, .int x1, .ref a] (zst p iv) Q ↔ (vp_in x1 (zLn a) ∧ zEv sc 121 34 [l0, l1, l2] [] (zst p (w2 iv a x1.toNatClampNeg x2)) Q) := zE_ast (Or.inl ⟨rfl, rfl, rfl⟩) dz121_33 ho
theorem dz121_34 : decode (z_code 121) 34 = .ok (.aload_n 0, 1) := by decide +kernel
theorem u121_34 : zEv sc 121 34 [.ref a, l1, l2] [] h Q ↔ zEv sc 121 35 [.ref a, l1, l2] [.ref a] h Q := zE_pure (q := (35, [.ref a, l1, l2], [.ref a])) dz121_34 rfl rfl rfl
theorem dz121_35 : decode (z_code 121) 35 = .ok (.aload_n 0, 1) := by decide +kernel
theorem u121_35 : zEv sc 121 35 [.ref a, l1, l2] [t0] h Q ↔ zEv sc 121 36 [.ref a, l1, l2] [.ref a, t0] h Q := zE_pure (q := (36, [.ref a, l1, l2], [.ref a, t0])) dz121_35 rfl rfl rfl
theorem dz121_36 : decode (z_code 121) 36 = .ok (.iload_n 1, 1) := by decide +kernel
theorem u121_36 : zEv sc 121 36 [l0, .int x, l2] [t0, t1] h Q ↔ zEv sc 121 37 [l0, .int x, l2] [.int x, t0, t1] h Q := zE_pure (q := (37, [l0, .int x, l2], [.int x, t0, t1])) dz121_36 rfl rfl rfl
theorem dz121_37 : decode (z_code 121) 37 = .ok (.invokevirtual 127, 3) := by decide +kernel
theorem u121_37 (ho : zO a 10) : zEv sc 121 37 [l0, l1, l2] [.int z0, .ref a, t0] (zst p iv) Q ↔ zEv sc 109 0 [.ref a, .int z0, .null] [] (zst p iv) (fun r h9 => zEv sc 121 40 [l0, l1, l2] (r.toList ++ [t0]) h9 Q) := zE_call (kd := 0) (na := 2) (nr := 1) (as := [.ref a, .int z0]) (rest := [t0]) (Or.inl ⟨rfl, rfl⟩) dz121_37 (by decide +kernel : z_lk2 zCT (z_cls 121) 127 = some (109, 0, 772)) (fun z => by cases z) rfl rfl rfl (by decide +kernel) rfl (Or.inr (zE_rc ho))
theorem dz121_40 : decode (z_code 121) 40 = .ok (.invokevirtual 114, 3) := by decide +kernel
theorem u121_40 (ho : zO a 10) : zEv sc 121 40 [l0, l1, l2] [.int z0, .ref a] (zst p iv) Q ↔ zEv sc 92 0 [.ref a, .int z0, .null] [] (zst p iv) (fun r h9 => zEv sc 121 43 [l0, l1, l2] (r.toList ++ []) h9 Q) := zE_call (kd := 0) (na := 2) (nr := 0) (as := [.ref a, .int z0]) (rest := []) (Or.inl ⟨rfl, rfl⟩) dz121_40 (by decide +kernel : z_lk2 zCT (z_cls 121) 114 = some (92, 0, 745)) (fun z => by cases z) rfl rfl rfl (by decide +kernel) rfl (Or.inr (zE_rc ho))
theorem dz121_43 : decode (z_code 121) 43 = .ok (.ireturn, 1) := by decide +kernel
theorem u121_43 : zEv sc 121 43 [l0, l1, l2] [.int x] h Q ↔ Q (some (.int x)) h := zE_ri dz121_43 (by decide +kernel)
theorem dz121_21 : decode (z_code 121) 21 = .ok (.ldc 31, 2) := by decide +kernel
theorem u121_21 : zEv sc 121 21 [l0, l1, l2] [] h Q ↔ zEv sc 121 23 [l0, l1, l2] [.int (-1000001)] h Q := zE_ldc (by decide +kernel : z_lkK zKT (z_cls 121) 31 = some ((-1000001), 744)) dz121_21
theorem dz121_23 : decode (z_code 121) 23 = .ok (.ireturn, 1) := by decide +kernel
theorem u121_23 : zEv sc 121 23 [l0, l1, l2] [.int x] h Q ↔ Q (some (.int x)) h := zE_ri dz121_23 (by decide +kernel)
/-! method 122: FieldMixturesModel.bound(III)I -/
theorem dz122_0 : decode (z_code 122) 0 = .ok (.aload_n 0, 1) := by decide +kernel
theorem u122_0 : zEv sc 122 0 [.ref a, l1, l2, l3] [] h Q ↔ zEv sc 122 1 [.ref a, l1, l2, l3] [.ref a] h Q := zE_pure (q := (1, [.ref a, l1, l2, l3], [.ref a])) dz122_0 rfl rfl rfl
theorem dz122_1 : decode (z_code 122) 1 = .ok (.invokevirtual 108, 3) := by decide +kernel
theorem u122_1 (ho : zO a 10) : zEv sc 122 1 [l0, l1, l2, l3] [.ref a] (zst p iv) Q ↔ zEv sc 90 0 [.ref a, .null] [] (zst p iv) (fun r h9 => zEv sc 122 4 [l0, l1, l2, l3] (r.toList ++ []) h9 Q) := zE_call (kd := 0) (na := 1) (nr := 0) (as := [.ref a]) (rest := []) (Or.inl ⟨rfl, rfl⟩) dz122_1 (by decide +kernel : z_lk2 zCT (z_cls 122) 108 = some (90, 0, 730)) (fun z => by cases z) rfl rfl rfl (by decide +kernel) rfl (Or.inr (zE_rc ho))
theorem dz122_4 : decode (z_code 122) 4 = .ok (.iload_n 1, 1) := by decide +kernel
theorem u122_4 : zEv sc 122 4 [l0, .int x, l2, l3] [] h Q ↔ zEv sc 122 5 [l0, .int x, l2, l3] [.int x] h Q := zE_pure (q := (5, [l0, .int x, l2, l3], [.int x])) dz122_4 rfl rfl rfl
theorem dz122_5 : decode (z_code 122) 5 = .ok (.invokestatic 124, 3) := by decide +kernel
theorem u122_5 : zEv sc 122 5 [l0, l1, l2, l3] [.int z0] h Q ↔ zEv sc 93 0 [.int z0] [] h (fun r h9 => zEv sc 122 8 [l0, l1, l2, l3] (r.toList ++ []) h9 Q) := zE_call (kd := 1) (na := 1) (nr := 0) (as := [.int z0]) (rest := []) (Or.inr ⟨rfl, rfl⟩) dz122_5 (by decide +kernel : z_lk2 zCT (z_cls 122) 124 = some (93, 0, 769)) (fun _ => by decide +kernel) rfl rfl rfl (by decide +kernel) rfl (Or.inl rfl)
theorem dz122_8 : decode (z_code 122) 8 = .ok (.ifCond .eq 21, 3) := by decide +kernel
theorem u122_8 : zEv sc 122 8 [l0, l1, l2, l3] [.int x] h Q ↔ (if x = 0 then zEv sc 122 29 [l0, l1, l2, l3] [] h Q else zEv sc 122 11 [l0, l1, l2, l3] [] h Q) := zE_ifP (P := x = 0) inferInstance 29 dz122_8 rfl rfl
theorem dz122_11 : decode (z_code 122) 11 = .ok (.aload_n 0, 1) := by decide +kernel
theorem u122_11 : zEv sc 122 11 [.ref a, l1, l2, l3] [] h Q ↔ zEv sc 122 12 [.ref a, l1, l2, l3] [.ref a] h Q := zE_pure (q := (12, [.ref a, l1, l2, l3], [.ref a])) dz122_11 rfl rfl rfl
theorem dz122_12 : decode (z_code 122) 12 = .ok (.iload_n 2, 1) := by decide +kernel
theorem u122_12 : zEv sc 122 12 [l0, l1, .int x, l3] [t0] h Q ↔ zEv sc 122 13 [l0, l1, .int x, l3] [.int x, t0] h Q := zE_pure (q := (13, [l0, l1, .int x, l3], [.int x, t0])) dz122_12 rfl rfl rfl
theorem dz122_13 : decode (z_code 122) 13 = .ok (.invokevirtual 117, 3) := by decide +kernel
theorem u122_13 (ho : zO a 10) : zEv sc 122 13 [l0, l1, l2, l3] [.int z0, .ref a] (zst p iv) Q ↔ zEv sc 94 0 [.ref a, .int z0] [] (zst p iv) (fun r h9 => zEv sc 122 16 [l0, l1, l2, l3] (r.toList ++ []) h9 Q) := zE_call (kd := 0) (na := 2) (nr := 0) (as := [.ref a, .int z0]) (rest := []) (Or.inl ⟨rfl, rfl⟩) dz122_13 (by decide +kernel : z_lk2 zCT (z_cls 122) 117 = some (94, 0, 757)) (fun z => by cases z) rfl rfl rfl (by decide +kernel) rfl (Or.inr (zE_rc ho))
theorem dz122_16 : decode (z_code 122) 16 = .ok (.ifCond .eq 13, 3) := by decide +kernel
theorem u122_16 : zEv sc 122 16 [l0, l1, l2, l3] [.int x] h Q ↔ (if x = 0 then zEv sc 122 29 [l0, l1, l2, l3] [] h Q else zEv sc 122 19 [l0, l1, l2, l3] [] h Q) := zE_ifP (P := x = 0) inferInstance 29 dz122_16 rfl rfl
theorem dz122_19 : decode (z_code 122) 19 = .ok (.iload_n 3, 1) := by decide +kernel
theorem u122_19 : zEv sc 122 19 [l0, l1, l2, .int x] [] h Q ↔ zEv sc 122 20 [l0, l1, l2, .int x] [.int x] h Q := zE_pure (q := (20, [l0, l1, l2, .int x], [.int x])) dz122_19 rfl rfl rfl
theorem dz122_20 : decode (z_code 122) 20 = .ok (.iconst 0, 1) := by decide +kernel
theorem u122_20 : zEv sc 122 20 [l0, l1, l2, l3] [t0] h Q ↔ zEv sc 122 21 [l0, l1, l2, l3] [.int 0, t0] h Q := zE_iconst dz122_20 (by decide +kernel)
theorem dz122_21 : decode (z_code 122) 21 = .ok (.bipush 8, 2) := by decide +kernel
theorem u122_21 : zEv sc 122 21 [l0, l1, l2, l3] [t0, t1] h Q ↔ zEv sc 122 23 [l0, l1, l2, l3] [.int 8, t0, t1] h Q := zE_bipush dz122_21 (by decide +kernel)
theorem dz122_23 : decode (z_code 122) 23 = .ok (.invokestatic 39, 3) := by decide +kernel
theorem u122_23 : zEv sc 122 23 [l0, l1, l2, l3] [.int z2, .int z1, .int z0] h Q ↔ zEv sc 89 0 [.int z0, .int z1, .int z2] [] h (fun r h9 => zEv sc 122 26 [l0, l1, l2, l3] (r.toList ++ []) h9 Q) := zE_call (kd := 1) (na := 3) (nr := 0) (as := [.int z0, .int z1, .int z2]) (rest := []) (Or.inr ⟨rfl, rfl⟩) dz122_23 (by decide +kernel : z_lk2 zCT (z_cls 122) 39 = some (89, 0, 734)) (fun _ => by decide +kernel) rfl rfl rfl (by decide +kernel) rfl (Or.inl rfl)
theorem dz122_26 : decode (z_code 122) 26 = .ok (.ifCond .ne 6, 3) := by decide +kernel
theorem u122_26 : zEv sc 122 26 [l0, l1, l2, l3] [.int x] h Q ↔ (if ¬ x = 0 then zEv sc 122 32 [l0, l1, l2, l3] [] h Q else zEv sc 122 29 [l0, l1, l2, l3] [] h Q) := zE_ifP (P := ¬ x = 0) inferInstance 32 dz122_26 rfl rfl
theorem dz122_32 : decode (z_code 122) 32 = .ok (.aload_n 0, 1) := by decide +kernel
theorem u122_32 : zEv sc 122 32 [.ref a, l1, l2, l3] [] h Q ↔ zEv sc 122 33 [.ref a, l1, l2, l3] [.ref a] h Q := zE_pure (q := (33, [.ref a, l1, l2, l3], [.ref a])) dz122_32 rfl rfl rfl
theorem dz122_33 : decode (z_code 122) 33 = .ok (.getfield 7, 3) := by decide +kernel
theorem u122_33 (ho : zO a 10) : zEv sc 122 33 [l0, l1, l2, l3] [.ref a] (zst p iv) Q ↔ zRef (zRV p a 0) (fun j => zEv sc 122 36 [l0, l1, l2, l3] [.ref j] (zst p iv) Q) := zE_gfR dz122_33 (by decide +kernel : z_lk3 zFT (z_cls 122) 7 = some (10, 0, 0, 677)) (by decide +kernel) ho
theorem dz122_36 : decode (z_code 122) 36 = .ok (.bipush 8, 2) := by decide +kernel
theorem u122_36 : zEv sc 122 36 [l0, l1, l2, l3] [t0] h Q ↔ zEv sc 122 38 [l0, l1, l2, l3] [.int 8, t0] h Q := zE_bipush dz122_36 (by decide +kernel)
theorem dz122_38 : decode (z_code 122) 38 = .ok (.iconst 4, 1) := by decide +kernel
theorem u122_38 : zEv sc 122 38 [l0, l1, l2, l3] [t0, t1] h Q ↔ zEv sc 122 39 [l0, l1, l2, l3] [.int 4, t0, t1] h Q := zE_iconst dz122_38 (by decide +kernel)
theorem dz122_39 : decode (z_code 122) 39 = .ok (.iload_n 1, 1) := by decide +kernel
theorem u122_39 : zEv sc 122 39 [l0, .int x, l2, l3] [t0, t1, t2] h Q ↔ zEv sc 122 40 [l0, .int x, l2, l3] [.int x, t0, t1, t2] h Q := zE_pure (q := (40, [l0, .int x, l2, l3], [.int x, t0, t1, t2])) dz122_39 rfl rfl rfl
theorem dz122_40 : decode (z_code 122) 40 = .ok (.imul, 1) := by decide +kernel
theorem u122_40 : zEv sc 122 40 [l0, l1, l2, l3] [.int x2, .int x1, t0, t1] h Q ↔ zEv sc 122 41 [l0, l1, l2, l3] [.int (x1 * x2), t0, t1] h Q := zE_pure (q := (41, [l0, l1, l2, l3], [.int (x1 * x2), t0, t1])) dz122_40 rfl rfl rfl
theorem dz122_41 : decode (z_code 122) 41 = .ok (.iadd, 1) := by decide +kernel
theorem u122_41 : zEv sc 122 41 [l0, l1, l2, l3] [.int x2, .int x1, t0] h Q ↔ zEv sc 122 42 [l0, l1, l2, l3] [.int (x1 + x2), t0] h Q := zE_pure (q := (42, [l0, l1, l2, l3], [.int (x1 + x2), t0])) dz122_41 rfl rfl rfl
theorem dz122_42 : decode (z_code 122) 42 = .ok (.iload_n 2, 1) := by decide +kernel
theorem u122_42 : zEv sc 122 42 [l0, l1, .int x, l3] [t0, t1] h Q ↔ zEv sc 122 43 [l0, l1, .int x, l3] [.int x, t0, t1] h Q := zE_pure (q := (43, [l0, l1, .int x, l3], [.int x, t0, t1])) dz122_42 rfl rfl rfl
theorem dz122_43 : decode (z_code 122) 43 = .ok (.iadd, 1) := by decide +kernel
theorem u122_43 : zEv sc 122 43 [l0, l1, l2, l3] [.int x2, .int x1, t0] h Q ↔ zEv sc 122 44 [l0, l1, l2, l3] [.int (x1 + x2), t0] h Q := zE_pure (q := (44, [l0, l1, l2, l3], [.int (x1 + x2), t0])) dz122_43 rfl rfl rfl
theorem dz122_44 : decode (z_code 122) 44 = .ok (.iload_n 3, 1) := by decide +kernel
theorem u122_44 : zEv sc 122 44 [l0, l1, l2, .int x] [t0, t1] h Q ↔ zEv sc 122 45 [l0, l1, l2, .int x] [.int x, t0, t1] h Q := zE_pure (q := (45, [l0, l1, l2, .int x], [.int x, t0, t1])) dz122_44 rfl rfl rfl
theorem dz122_45 : decode (z_code 122) 45 = .ok (.iastore, 1) := by decide +kernel
theorem u122_45 (ho : zO a 100) : zEv sc 122 45 [l0, l1, l2, l3] [.int x2, .int x1, .ref a] (zst p iv) Q ↔ (vp_in x1 (zLn a) ∧ zEv sc 122 46 [l0, l1, l2, l3] [] (zst p (w2 iv a x1.toNatClampNeg x2)) Q) := zE_ast (Or.inl ⟨rfl, rfl, rfl⟩) dz122_45 ho
theorem dz122_46 : decode (z_code 122) 46 = .ok (.aload_n 0, 1) := by decide +kernel
theorem u122_46 : zEv sc 122 46 [.ref a, l1, l2, l3] [] h Q ↔ zEv sc 122 47 [.ref a, l1, l2, l3] [.ref a] h Q := zE_pure (q := (47, [.ref a, l1, l2, l3], [.ref a])) dz122_46 rfl rfl rfl
theorem dz122_47 : decode (z_code 122) 47 = .ok (.aload_n 0, 1) := by decide +kernel
theorem u122_47 : zEv sc 122 47 [.ref a, l1, l2, l3] [t0] h Q ↔ zEv sc 122 48 [.ref a, l1, l2, l3] [.ref a, t0] h Q := zE_pure (q := (48, [.ref a, l1, l2, l3], [.ref a, t0])) dz122_47 rfl rfl rfl
theorem dz122_48 : decode (z_code 122) 48 = .ok (.iload_n 1, 1) := by decide +kernel
theorem u122_48 : zEv sc 122 48 [l0, .int x, l2, l3] [t0, t1] h Q ↔ zEv sc 122 49 [l0, .int x, l2, l3] [.int x, t0, t1] h Q := zE_pure (q := (49, [l0, .int x, l2, l3], [.int x, t0, t1])) dz122_48 rfl rfl rfl
theorem dz122_49 : decode (z_code 122) 49 = .ok (.invokevirtual 127, 3) := by decide +kernel
theorem u122_49 (ho : zO a 10) : zEv sc 122 49 [l0, l1, l2, l3] [.int z0, .ref a, t0] (zst p iv) Q ↔ zEv sc 109 0 [.ref a, .int z0, .null] [] (zst p iv) (fun r h9 => zEv sc 122 52 [l0, l1, l2, l3] (r.toList ++ [t0]) h9 Q) := zE_call (kd := 0) (na := 2) (nr := 1) (as := [.ref a, .int z0]) (rest := [t0]) (Or.inl ⟨rfl, rfl⟩) dz122_49 (by decide +kernel : z_lk2 zCT (z_cls 122) 127 = some (109, 0, 772)) (fun z => by cases z) rfl rfl rfl (by decide +kernel) rfl (Or.inr (zE_rc ho))
theorem dz122_52 : decode (z_code 122) 52 = .ok (.invokevirtual 114, 3) := by decide +kernel
theorem u122_52 (ho : zO a 10) : zEv sc 122 52 [l0, l1, l2, l3] [.int z0, .ref a] (zst p iv) Q ↔ zEv sc 92 0 [.ref a, .int z0, .null] [] (zst p iv) (fun r h9 => zEv sc 122 55 [l0, l1, l2, l3] (r.toList ++ []) h9 Q) := zE_call (kd := 0) (na := 2) (nr := 0) (as := [.ref a, .int z0]) (rest := []) (Or.inl ⟨rfl, rfl⟩) dz122_52 (by decide +kernel : z_lk2 zCT (z_cls 122) 114 = some (92, 0, 745)) (fun z => by cases z) rfl rfl rfl (by decide +kernel) rfl (Or.inr (zE_rc ho))
theorem dz122_55 : decode (z_code 122) 55 = .ok (.ireturn, 1) := by decide +kernel
theorem u122_55 : zEv sc 122 55 [l0, l1, l2, l3] [.int x] h Q ↔ Q (some (.int x)) h := zE_ri dz122_55 (by decide +kernel)
theorem dz122_29 : decode (z_code 122) 29 = .ok (.ldc 31, 2) := by decide +kernel
theorem u122_29 : zEv sc 122 29 [l0, l1, l2, l3] [] h Q ↔ zEv sc 122 31 [l0, l1, l2, l3] [.int (-1000001)] h Q := zE_ldc (by decide +kernel : z_lkK zKT (z_cls 122) 31 = some ((-1000001), 744)) dz122_29
theorem dz122_31 : decode (z_code 122) 31 = .ok (.ireturn, 1) := by decide +kernel
theorem u122_31 : zEv sc 122 31 [l0, l1, l2, l3] [.int x] h Q ↔ Q (some (.int x)) h := zE_ri dz122_31 (by decide +kernel)
/-! method 123: FieldMixturesModel.tie(I)I -/
theorem dz123_0 : decode (z_code 123) 0 = .ok (.aload_n 0, 1) := by decide +kernel
theorem u123_0 : zEv sc 123 0 [.ref a, l1] [] h Q ↔ zEv sc 123 1 [.ref a, l1] [.ref a] h Q := zE_pure (q := (1, [.ref a, l1], [.ref a])) dz123_0 rfl rfl rfl
theorem dz123_1 : decode (z_code 123) 1 = .ok (.invokevirtual 108, 3) := by decide +kernel
theorem u123_1 (ho : zO a 10) : zEv sc 123 1 [l0, l1] [.ref a] (zst p iv) Q ↔ zEv sc 90 0 [.ref a, .null] [] (zst p iv) (fun r h9 => zEv sc 123 4 [l0, l1] (r.toList ++ []) h9 Q) := zE_call (kd := 0) (na := 1) (nr := 0) (as := [.ref a]) (rest := []) (Or.inl ⟨rfl, rfl⟩) dz123_1 (by decide +kernel : z_lk2 zCT (z_cls 123) 108 = some (90, 0, 730)) (fun z => by cases z) rfl rfl rfl (by decide +kernel) rfl (Or.inr (zE_rc ho))
theorem dz123_4 : decode (z_code 123) 4 = .ok (.aload_n 0, 1) := by decide +kernel
theorem u123_4 : zEv sc 123 4 [.ref a, l1] [] h Q ↔ zEv sc 123 5 [.ref a, l1] [.ref a] h Q := zE_pure (q := (5, [.ref a, l1], [.ref a])) dz123_4 rfl rfl rfl
theorem dz123_5 : decode (z_code 123) 5 = .ok (.iload_n 1, 1) := by decide +kernel
theorem u123_5 : zEv sc 123 5 [l0, .int x] [t0] h Q ↔ zEv sc 123 6 [l0, .int x] [.int x, t0] h Q := zE_pure (q := (6, [l0, .int x], [.int x, t0])) dz123_5 rfl rfl rfl
theorem dz123_6 : decode (z_code 123) 6 = .ok (.iconst 0, 1) := by decide +kernel
theorem u123_6 : zEv sc 123 6 [l0, l1] [t0, t1] h Q ↔ zEv sc 123 7 [l0, l1] [.int 0, t0, t1] h Q := zE_iconst dz123_6 (by decide +kernel)
theorem dz123_7 : decode (z_code 123) 7 = .ok (.iconst 2, 1) := by decide +kernel
theorem u123_7 : zEv sc 123 7 [l0, l1] [t0, t1, t2] h Q ↔ zEv sc 123 8 [l0, l1] [.int 2, t0, t1, t2] h Q := zE_iconst dz123_7 (by decide +kernel)
theorem dz123_8 : decode (z_code 123) 8 = .ok (.invokestatic 39, 3) := by decide +kernel
theorem u123_8 : zEv sc 123 8 [l0, l1] [.int z2, .int z1, .int z0, t0] h Q ↔ zEv sc 89 0 [.int z0, .int z1, .int z2] [] h (fun r h9 => zEv sc 123 11 [l0, l1] (r.toList ++ [t0]) h9 Q) := zE_call (kd := 1) (na := 3) (nr := 1) (as := [.int z0, .int z1, .int z2]) (rest := [t0]) (Or.inr ⟨rfl, rfl⟩) dz123_8 (by decide +kernel : z_lk2 zCT (z_cls 123) 39 = some (89, 0, 734)) (fun _ => by decide +kernel) rfl rfl rfl (by decide +kernel) rfl (Or.inl rfl)
theorem dz123_11 : decode (z_code 123) 11 = .ok (.ifCond .eq 12, 3) := by decide +kernel
theorem u123_11 : zEv sc 123 11 [l0, l1] [.int x, t0] h Q ↔ (if x = 0 then zEv sc 123 23 [l0, l1] [t0] h Q else zEv sc 123 14 [l0, l1] [t0] h Q) := zE_ifP (P := x = 0) inferInstance 23 dz123_11 rfl rfl
theorem dz123_14 : decode (z_code 123) 14 = .ok (.aload_n 0, 1) := by decide +kernel
theorem u123_14 : zEv sc 123 14 [.ref a, l1] [t0] h Q ↔ zEv sc 123 15 [.ref a, l1] [.ref a, t0] h Q := zE_pure (q := (15, [.ref a, l1], [.ref a, t0])) dz123_14 rfl rfl rfl
theorem dz123_15 : decode (z_code 123) 15 = .ok (.iconst 1, 1) := by decide +kernel
theorem u123_15 : zEv sc 123 15 [l0, l1] [t0, t1] h Q ↔ zEv sc 123 16 [l0, l1] [.int 1, t0, t1] h Q := zE_iconst dz123_15 (by decide +kernel)
theorem dz123_16 : decode (z_code 123) 16 = .ok (.iload_n 1, 1) := by decide +kernel
theorem u123_16 : zEv sc 123 16 [l0, .int x] [t0, t1, t2] h Q ↔ zEv sc 123 17 [l0, .int x] [.int x, t0, t1, t2] h Q := zE_pure (q := (17, [l0, .int x], [.int x, t0, t1, t2])) dz123_16 rfl rfl rfl
theorem dz123_17 : decode (z_code 123) 17 = .ok (.invokevirtual 121, 3) := by decide +kernel
theorem u123_17 (ho : zO a 10) : zEv sc 123 17 [l0, l1] [.int z1, .int z0, .ref a, t0] (zst p iv) Q ↔ zEv sc 116 0 [.ref a, .int z0, .int z1, .null] [] (zst p iv) (fun r h9 => zEv sc 123 20 [l0, l1] (r.toList ++ [t0]) h9 Q) := zE_call (kd := 0) (na := 3) (nr := 1) (as := [.ref a, .int z0, .int z1]) (rest := [t0]) (Or.inl ⟨rfl, rfl⟩) dz123_17 (by decide +kernel : z_lk2 zCT (z_cls 123) 121 = some (116, 0, 761)) (fun z => by cases z) rfl rfl rfl (by decide +kernel) rfl (Or.inr (zE_rc ho))
theorem dz123_20 : decode (z_code 123) 20 = .ok (.goto 5, 3) := by decide +kernel
theorem u123_20 : zEv sc 123 20 [l0, l1] [t0, t1] h Q ↔ zEv sc 123 25 [l0, l1] [t0, t1] h Q := zE_go 25 dz123_20 rfl
theorem dz123_25 : decode (z_code 123) 25 = .ok (.invokevirtual 114, 3) := by decide +kernel
theorem u123_25 (ho : zO a 10) : zEv sc 123 25 [l0, l1] [.int z0, .ref a] (zst p iv) Q ↔ zEv sc 92 0 [.ref a, .int z0, .null] [] (zst p iv) (fun r h9 => zEv sc 123 28 [l0, l1] (r.toList ++ []) h9 Q) := zE_call (kd := 0) (na := 2) (nr := 0) (as := [.ref a, .int z0]) (rest := []) (Or.inl ⟨rfl, rfl⟩) dz123_25 (by decide +kernel : z_lk2 zCT (z_cls 123) 114 = some (92, 0, 745)) (fun z => by cases z) rfl rfl rfl (by decide +kernel) rfl (Or.inr (zE_rc ho))
theorem dz123_28 : decode (z_code 123) 28 = .ok (.ireturn, 1) := by decide +kernel
theorem u123_28 : zEv sc 123 28 [l0, l1] [.int x] h Q ↔ Q (some (.int x)) h := zE_ri dz123_28 (by decide +kernel)
theorem dz123_23 : decode (z_code 123) 23 = .ok (.ldc 31, 2) := by decide +kernel
theorem u123_23 : zEv sc 123 23 [l0, l1] [t0] h Q ↔ zEv sc 123 25 [l0, l1] [.int (-1000001), t0] h Q := zE_ldc (by decide +kernel : z_lkK zKT (z_cls 123) 31 = some ((-1000001), 744)) dz123_23
/-! method 124: FieldMixturesModel.isOwn(II)Z -/
theorem dz124_0 : decode (z_code 124) 0 = .ok (.iload_n 1, 1) := by decide +kernel
theorem u124_0 : zEv sc 124 0 [l0, .int x, l2] [] h Q ↔ zEv sc 124 1 [l0, .int x, l2] [.int x] h Q := zE_pure (q := (1, [l0, .int x, l2], [.int x])) dz124_0 rfl rfl rfl
theorem dz124_1 : decode (z_code 124) 1 = .ok (.invokestatic 124, 3) := by decide +kernel
theorem u124_1 : zEv sc 124 1 [l0, l1, l2] [.int z0] h Q ↔ zEv sc 93 0 [.int z0] [] h (fun r h9 => zEv sc 124 4 [l0, l1, l2] (r.toList ++ []) h9 Q) := zE_call (kd := 1) (na := 1) (nr := 0) (as := [.int z0]) (rest := []) (Or.inr ⟨rfl, rfl⟩) dz124_1 (by decide +kernel : z_lk2 zCT (z_cls 124) 124 = some (93, 0, 769)) (fun _ => by decide +kernel) rfl rfl rfl (by decide +kernel) rfl (Or.inl rfl)
theorem dz124_4 : decode (z_code 124) 4 = .ok (.ifCond .eq 16, 3) := by decide +kernel
theorem u124_4 : zEv sc 124 4 [l0, l1, l2] [.int x] h Q ↔ (if x = 0 then zEv sc 124 20 [l0, l1, l2] [] h Q else zEv sc 124 7 [l0, l1, l2] [] h Q) := zE_ifP (P := x = 0) inferInstance 20 dz124_4 rfl rfl
theorem dz124_7 : decode (z_code 124) 7 = .ok (.aload_n 0, 1) := by decide +kernel
theorem u124_7 : zEv sc 124 7 [.ref a, l1, l2] [] h Q ↔ zEv sc 124 8 [.ref a, l1, l2] [.ref a] h Q := zE_pure (q := (8, [.ref a, l1, l2], [.ref a])) dz124_7 rfl rfl rfl
theorem dz124_8 : decode (z_code 124) 8 = .ok (.iload_n 1, 1) := by decide +kernel
theorem u124_8 : zEv sc 124 8 [l0, .int x, l2] [t0] h Q ↔ zEv sc 124 9 [l0, .int x, l2] [.int x, t0] h Q := zE_pure (q := (9, [l0, .int x, l2], [.int x, t0])) dz124_8 rfl rfl rfl
theorem dz124_9 : decode (z_code 124) 9 = .ok (.iload_n 2, 1) := by decide +kernel
theorem u124_9 : zEv sc 124 9 [l0, l1, .int x] [t0, t1] h Q ↔ zEv sc 124 10 [l0, l1, .int x] [.int x, t0, t1] h Q := zE_pure (q := (10, [l0, l1, .int x], [.int x, t0, t1])) dz124_9 rfl rfl rfl
theorem dz124_10 : decode (z_code 124) 10 = .ok (.invokevirtual 47, 3) := by decide +kernel
theorem u124_10 (ho : zO a 10) : zEv sc 124 10 [l0, l1, l2] [.int z1, .int z0, .ref a] (zst p iv) Q ↔ zEv sc 96 0 [.ref a, .int z0, .int z1, .null, .null, .null, .null, .null] [] (zst p iv) (fun r h9 => zEv sc 124 13 [l0, l1, l2] (r.toList ++ []) h9 Q) := zE_call (kd := 0) (na := 3) (nr := 0) (as := [.ref a, .int z0, .int z1]) (rest := []) (Or.inl ⟨rfl, rfl⟩) dz124_10 (by decide +kernel : z_lk2 zCT (z_cls 124) 47 = some (96, 0, 784)) (fun z => by cases z) rfl rfl rfl (by decide +kernel) rfl (Or.inr (zE_rc ho))
theorem dz124_13 : decode (z_code 124) 13 = .ok (.ifCond .eq 7, 3) := by decide +kernel
theorem u124_13 : zEv sc 124 13 [l0, l1, l2] [.int x] h Q ↔ (if x = 0 then zEv sc 124 20 [l0, l1, l2] [] h Q else zEv sc 124 16 [l0, l1, l2] [] h Q) := zE_ifP (P := x = 0) inferInstance 20 dz124_13 rfl rfl
theorem dz124_16 : decode (z_code 124) 16 = .ok (.iconst 1, 1) := by decide +kernel
theorem u124_16 : zEv sc 124 16 [l0, l1, l2] [] h Q ↔ zEv sc 124 17 [l0, l1, l2] [.int 1] h Q := zE_iconst dz124_16 (by decide +kernel)
theorem dz124_17 : decode (z_code 124) 17 = .ok (.goto 4, 3) := by decide +kernel
theorem u124_17 : zEv sc 124 17 [l0, l1, l2] [t0] h Q ↔ zEv sc 124 21 [l0, l1, l2] [t0] h Q := zE_go 21 dz124_17 rfl
theorem dz124_21 : decode (z_code 124) 21 = .ok (.ireturn, 1) := by decide +kernel
theorem u124_21 : zEv sc 124 21 [l0, l1, l2] [.int x] h Q ↔ ((x = 0 ∨ x = 1) ∧ Q (some (.int x)) h) := zE_rz dz124_21 (by decide +kernel)
theorem dz124_20 : decode (z_code 124) 20 = .ok (.iconst 0, 1) := by decide +kernel
theorem u124_20 : zEv sc 124 20 [l0, l1, l2] [] h Q ↔ zEv sc 124 21 [l0, l1, l2] [.int 0] h Q := zE_iconst dz124_20 (by decide +kernel)
/-! method 125: FieldMixturesModel.put(III)I -/
theorem dz125_0 : decode (z_code 125) 0 = .ok (.aload_n 0, 1) := by decide +kernel
theorem u125_0 : zEv sc 125 0 [.ref a, l1, l2, l3] [] h Q ↔ zEv sc 125 1 [.ref a, l1, l2, l3] [.ref a] h Q := zE_pure (q := (1, [.ref a, l1, l2, l3], [.ref a])) dz125_0 rfl rfl rfl
theorem dz125_1 : decode (z_code 125) 1 = .ok (.invokevirtual 108, 3) := by decide +kernel
theorem u125_1 (ho : zO a 10) : zEv sc 125 1 [l0, l1, l2, l3] [.ref a] (zst p iv) Q ↔ zEv sc 90 0 [.ref a, .null] [] (zst p iv) (fun r h9 => zEv sc 125 4 [l0, l1, l2, l3] (r.toList ++ []) h9 Q) := zE_call (kd := 0) (na := 1) (nr := 0) (as := [.ref a]) (rest := []) (Or.inl ⟨rfl, rfl⟩) dz125_1 (by decide +kernel : z_lk2 zCT (z_cls 125) 108 = some (90, 0, 730)) (fun z => by cases z) rfl rfl rfl (by decide +kernel) rfl (Or.inr (zE_rc ho))
theorem dz125_4 : decode (z_code 125) 4 = .ok (.aload_n 0, 1) := by decide +kernel
theorem u125_4 : zEv sc 125 4 [.ref a, l1, l2, l3] [] h Q ↔ zEv sc 125 5 [.ref a, l1, l2, l3] [.ref a] h Q := zE_pure (q := (5, [.ref a, l1, l2, l3], [.ref a])) dz125_4 rfl rfl rfl
theorem dz125_5 : decode (z_code 125) 5 = .ok (.aload_n 0, 1) := by decide +kernel
theorem u125_5 : zEv sc 125 5 [.ref a, l1, l2, l3] [t0] h Q ↔ zEv sc 125 6 [.ref a, l1, l2, l3] [.ref a, t0] h Q := zE_pure (q := (6, [.ref a, l1, l2, l3], [.ref a, t0])) dz125_5 rfl rfl rfl
theorem dz125_6 : decode (z_code 125) 6 = .ok (.iload_n 1, 1) := by decide +kernel
theorem u125_6 : zEv sc 125 6 [l0, .int x, l2, l3] [t0, t1] h Q ↔ zEv sc 125 7 [l0, .int x, l2, l3] [.int x, t0, t1] h Q := zE_pure (q := (7, [l0, .int x, l2, l3], [.int x, t0, t1])) dz125_6 rfl rfl rfl
theorem dz125_7 : decode (z_code 125) 7 = .ok (.iload_n 2, 1) := by decide +kernel
theorem u125_7 : zEv sc 125 7 [l0, l1, .int x, l3] [t0, t1, t2] h Q ↔ zEv sc 125 8 [l0, l1, .int x, l3] [.int x, t0, t1, t2] h Q := zE_pure (q := (8, [l0, l1, .int x, l3], [.int x, t0, t1, t2])) dz125_7 rfl rfl rfl
theorem dz125_8 : decode (z_code 125) 8 = .ok (.invokevirtual 130, 3) := by decide +kernel
theorem u125_8 (ho : zO a 10) : zEv sc 125 8 [l0, l1, l2, l3] [.int z1, .int z0, .ref a, t0] (zst p iv) Q ↔ zEv sc 124 0 [.ref a, .int z0, .int z1] [] (zst p iv) (fun r h9 => zEv sc 125 11 [l0, l1, l2, l3] (r.toList ++ [t0]) h9 Q) := zE_call (kd := 0) (na := 3) (nr := 1) (as := [.ref a, .int z0, .int z1]) (rest := [t0]) (Or.inl ⟨rfl, rfl⟩) dz125_8 (by decide +kernel : z_lk2 zCT (z_cls 125) 130 = some (124, 0, 808)) (fun z => by cases z) rfl rfl rfl (by decide +kernel) rfl (Or.inr (zE_rc ho))
theorem dz125_11 : decode (z_code 125) 11 = .ok (.ifCond .eq 23, 3) := by decide +kernel
theorem u125_11 : zEv sc 125 11 [l0, l1, l2, l3] [.int x, t0] h Q ↔ (if x = 0 then zEv sc 125 34 [l0, l1, l2, l3] [t0] h Q else zEv sc 125 14 [l0, l1, l2, l3] [t0] h Q) := zE_ifP (P := x = 0) inferInstance 34 dz125_11 rfl rfl
theorem dz125_14 : decode (z_code 125) 14 = .ok (.iload_n 3, 1) := by decide +kernel
theorem u125_14 : zEv sc 125 14 [l0, l1, l2, .int x] [t0] h Q ↔ zEv sc 125 15 [l0, l1, l2, .int x] [.int x, t0] h Q := zE_pure (q := (15, [l0, l1, l2, .int x], [.int x, t0])) dz125_14 rfl rfl rfl
theorem dz125_15 : decode (z_code 125) 15 = .ok (.iconst 1, 1) := by decide +kernel
theorem u125_15 : zEv sc 125 15 [l0, l1, l2, l3] [t0, t1] h Q ↔ zEv sc 125 16 [l0, l1, l2, l3] [.int 1, t0, t1] h Q := zE_iconst dz125_15 (by decide +kernel)
theorem dz125_16 : decode (z_code 125) 16 = .ok (.bipush 99, 2) := by decide +kernel
theorem u125_16 : zEv sc 125 16 [l0, l1, l2, l3] [t0, t1, t2] h Q ↔ zEv sc 125 18 [l0, l1, l2, l3] [.int 99, t0, t1, t2] h Q := zE_bipush dz125_16 (by decide +kernel)
theorem dz125_18 : decode (z_code 125) 18 = .ok (.invokestatic 39, 3) := by decide +kernel
theorem u125_18 : zEv sc 125 18 [l0, l1, l2, l3] [.int z2, .int z1, .int z0, t0] h Q ↔ zEv sc 89 0 [.int z0, .int z1, .int z2] [] h (fun r h9 => zEv sc 125 21 [l0, l1, l2, l3] (r.toList ++ [t0]) h9 Q) := zE_call (kd := 1) (na := 3) (nr := 1) (as := [.int z0, .int z1, .int z2]) (rest := [t0]) (Or.inr ⟨rfl, rfl⟩) dz125_18 (by decide +kernel : z_lk2 zCT (z_cls 125) 39 = some (89, 0, 734)) (fun _ => by decide +kernel) rfl rfl rfl (by decide +kernel) rfl (Or.inl rfl)
theorem dz125_21 : decode (z_code 125) 21 = .ok (.ifCond .eq 13, 3) := by decide +kernel
theorem u125_21 : zEv sc 125 21 [l0, l1, l2, l3] [.int x, t0] h Q ↔ (if x = 0 then zEv sc 125 34 [l0, l1, l2, l3] [t0] h Q else zEv sc 125 24 [l0, l1, l2, l3] [t0] h Q) := zE_ifP (P := x = 0) inferInstance 34 dz125_21 rfl rfl
theorem dz125_24 : decode (z_code 125) 24 = .ok (.aload_n 0, 1) := by decide +kernel
theorem u125_24 : zEv sc 125 24 [.ref a, l1, l2, l3] [t0] h Q ↔ zEv sc 125 25 [.ref a, l1, l2, l3] [.ref a, t0] h Q := zE_pure (q := (25, [.ref a, l1, l2, l3], [.ref a, t0])) dz125_24 rfl rfl rfl
theorem dz125_25 : decode (z_code 125) 25 = .ok (.iload_n 1, 1) := by decide +kernel
theorem u125_25 : zEv sc 125 25 [l0, .int x, l2, l3] [t0, t1] h Q ↔ zEv sc 125 26 [l0, .int x, l2, l3] [.int x, t0, t1] h Q := zE_pure (q := (26, [l0, .int x, l2, l3], [.int x, t0, t1])) dz125_25 rfl rfl rfl
theorem dz125_26 : decode (z_code 125) 26 = .ok (.iload_n 2, 1) := by decide +kernel
theorem u125_26 : zEv sc 125 26 [l0, l1, .int x, l3] [t0, t1, t2] h Q ↔ zEv sc 125 27 [l0, l1, .int x, l3] [.int x, t0, t1, t2] h Q := zE_pure (q := (27, [l0, l1, .int x, l3], [.int x, t0, t1, t2])) dz125_26 rfl rfl rfl
theorem dz125_27 : decode (z_code 125) 27 = .ok (.iload_n 3, 1) := by decide +kernel
theorem u125_27 : zEv sc 125 27 [l0, l1, l2, .int x] [t0, t1, t2, t3] h Q ↔ zEv sc 125 28 [l0, l1, l2, .int x] [.int x, t0, t1, t2, t3] h Q := zE_pure (q := (28, [l0, l1, l2, .int x], [.int x, t0, t1, t2, t3])) dz125_27 rfl rfl rfl
theorem dz125_28 : decode (z_code 125) 28 = .ok (.invokevirtual 98, 3) := by decide +kernel
theorem u125_28 (ho : zO a 10) : zEv sc 125 28 [l0, l1, l2, l3] [.int z2, .int z1, .int z0, .ref a, t0] (zst p iv) Q ↔ zEv sc 108 0 [.ref a, .int z0, .int z1, .int z2, .null, .null, .null, .null] [] (zst p iv) (fun r h9 => zEv sc 125 31 [l0, l1, l2, l3] (r.toList ++ [t0]) h9 Q) := zE_call (kd := 0) (na := 4) (nr := 1) (as := [.ref a, .int z0, .int z1, .int z2]) (rest := [t0]) (Or.inl ⟨rfl, rfl⟩) dz125_28 (by decide +kernel : z_lk2 zCT (z_cls 125) 98 = some (108, 0, 812)) (fun z => by cases z) rfl rfl rfl (by decide +kernel) rfl (Or.inr (zE_rc ho))
theorem dz125_31 : decode (z_code 125) 31 = .ok (.goto 5, 3) := by decide +kernel
theorem u125_31 : zEv sc 125 31 [l0, l1, l2, l3] [t0, t1] h Q ↔ zEv sc 125 36 [l0, l1, l2, l3] [t0, t1] h Q := zE_go 36 dz125_31 rfl
theorem dz125_36 : decode (z_code 125) 36 = .ok (.invokevirtual 114, 3) := by decide +kernel
theorem u125_36 (ho : zO a 10) : zEv sc 125 36 [l0, l1, l2, l3] [.int z0, .ref a] (zst p iv) Q ↔ zEv sc 92 0 [.ref a, .int z0, .null] [] (zst p iv) (fun r h9 => zEv sc 125 39 [l0, l1, l2, l3] (r.toList ++ []) h9 Q) := zE_call (kd := 0) (na := 2) (nr := 0) (as := [.ref a, .int z0]) (rest := []) (Or.inl ⟨rfl, rfl⟩) dz125_36 (by decide +kernel : z_lk2 zCT (z_cls 125) 114 = some (92, 0, 745)) (fun z => by cases z) rfl rfl rfl (by decide +kernel) rfl (Or.inr (zE_rc ho))
theorem dz125_39 : decode (z_code 125) 39 = .ok (.ireturn, 1) := by decide +kernel
theorem u125_39 : zEv sc 125 39 [l0, l1, l2, l3] [.int x] h Q ↔ Q (some (.int x)) h := zE_ri dz125_39 (by decide +kernel)
theorem dz125_34 : decode (z_code 125) 34 = .ok (.ldc 31, 2) := by decide +kernel
theorem u125_34 : zEv sc 125 34 [l0, l1, l2, l3] [t0] h Q ↔ zEv sc 125 36 [l0, l1, l2, l3] [.int (-1000001), t0] h Q := zE_ldc (by decide +kernel : z_lkK zKT (z_cls 125) 31 = some ((-1000001), 744)) dz125_34
/-! method 126: FieldMixturesModel.take(II)I -/
theorem dz126_0 : decode (z_code 126) 0 = .ok (.aload_n 0, 1) := by decide +kernel
theorem u126_0 : zEv sc 126 0 [.ref a, l1, l2, l3] [] h Q ↔ zEv sc 126 1 [.ref a, l1, l2, l3] [.ref a] h Q := zE_pure (q := (1, [.ref a, l1, l2, l3], [.ref a])) dz126_0 rfl rfl rfl
theorem dz126_1 : decode (z_code 126) 1 = .ok (.invokevirtual 108, 3) := by decide +kernel
theorem u126_1 (ho : zO a 10) : zEv sc 126 1 [l0, l1, l2, l3] [.ref a] (zst p iv) Q ↔ zEv sc 90 0 [.ref a, .null] [] (zst p iv) (fun r h9 => zEv sc 126 4 [l0, l1, l2, l3] (r.toList ++ []) h9 Q) := zE_call (kd := 0) (na := 1) (nr := 0) (as := [.ref a]) (rest := []) (Or.inl ⟨rfl, rfl⟩) dz126_1 (by decide +kernel : z_lk2 zCT (z_cls 126) 108 = some (90, 0, 730)) (fun z => by cases z) rfl rfl rfl (by decide +kernel) rfl (Or.inr (zE_rc ho))
theorem dz126_4 : decode (z_code 126) 4 = .ok (.aload_n 0, 1) := by decide +kernel
theorem u126_4 : zEv sc 126 4 [.ref a, l1, l2, l3] [] h Q ↔ zEv sc 126 5 [.ref a, l1, l2, l3] [.ref a] h Q := zE_pure (q := (5, [.ref a, l1, l2, l3], [.ref a])) dz126_4 rfl rfl rfl
theorem dz126_5 : decode (z_code 126) 5 = .ok (.iload_n 1, 1) := by decide +kernel
theorem u126_5 : zEv sc 126 5 [l0, .int x, l2, l3] [t0] h Q ↔ zEv sc 126 6 [l0, .int x, l2, l3] [.int x, t0] h Q := zE_pure (q := (6, [l0, .int x, l2, l3], [.int x, t0])) dz126_5 rfl rfl rfl
theorem dz126_6 : decode (z_code 126) 6 = .ok (.iload_n 2, 1) := by decide +kernel
theorem u126_6 : zEv sc 126 6 [l0, l1, .int x, l3] [t0, t1] h Q ↔ zEv sc 126 7 [l0, l1, .int x, l3] [.int x, t0, t1] h Q := zE_pure (q := (7, [l0, l1, .int x, l3], [.int x, t0, t1])) dz126_6 rfl rfl rfl
theorem dz126_7 : decode (z_code 126) 7 = .ok (.invokevirtual 130, 3) := by decide +kernel
theorem u126_7 (ho : zO a 10) : zEv sc 126 7 [l0, l1, l2, l3] [.int z1, .int z0, .ref a] (zst p iv) Q ↔ zEv sc 124 0 [.ref a, .int z0, .int z1] [] (zst p iv) (fun r h9 => zEv sc 126 10 [l0, l1, l2, l3] (r.toList ++ []) h9 Q) := zE_call (kd := 0) (na := 3) (nr := 0) (as := [.ref a, .int z0, .int z1]) (rest := []) (Or.inl ⟨rfl, rfl⟩) dz126_7 (by decide +kernel : z_lk2 zCT (z_cls 126) 130 = some (124, 0, 808)) (fun z => by cases z) rfl rfl rfl (by decide +kernel) rfl (Or.inr (zE_rc ho))
theorem dz126_10 : decode (z_code 126) 10 = .ok (.ifCond .ne 6, 3) := by decide +kernel
theorem u126_10 : zEv sc 126 10 [l0, l1, l2, l3] [.int x] h Q ↔ (if ¬ x = 0 then zEv sc 126 16 [l0, l1, l2, l3] [] h Q else zEv sc 126 13 [l0, l1, l2, l3] [] h Q) := zE_ifP (P := ¬ x = 0) inferInstance 16 dz126_10 rfl rfl
theorem dz126_13 : decode (z_code 126) 13 = .ok (.ldc 31, 2) := by decide +kernel
theorem u126_13 : zEv sc 126 13 [l0, l1, l2, l3] [] h Q ↔ zEv sc 126 15 [l0, l1, l2, l3] [.int (-1000001)] h Q := zE_ldc (by decide +kernel : z_lkK zKT (z_cls 126) 31 = some ((-1000001), 744)) dz126_13
theorem dz126_15 : decode (z_code 126) 15 = .ok (.ireturn, 1) := by decide +kernel
theorem u126_15 : zEv sc 126 15 [l0, l1, l2, l3] [.int x] h Q ↔ Q (some (.int x)) h := zE_ri dz126_15 (by decide +kernel)
theorem dz126_16 : decode (z_code 126) 16 = .ok (.aload_n 0, 1) := by decide +kernel
theorem u126_16 : zEv sc 126 16 [.ref a, l1, l2, l3] [] h Q ↔ zEv sc 126 17 [.ref a, l1, l2, l3] [.ref a] h Q := zE_pure (q := (17, [.ref a, l1, l2, l3], [.ref a])) dz126_16 rfl rfl rfl
theorem dz126_17 : decode (z_code 126) 17 = .ok (.iload_n 1, 1) := by decide +kernel
theorem u126_17 : zEv sc 126 17 [l0, .int x, l2, l3] [t0] h Q ↔ zEv sc 126 18 [l0, .int x, l2, l3] [.int x, t0] h Q := zE_pure (q := (18, [l0, .int x, l2, l3], [.int x, t0])) dz126_17 rfl rfl rfl
theorem dz126_18 : decode (z_code 126) 18 = .ok (.iload_n 2, 1) := by decide +kernel
theorem u126_18 : zEv sc 126 18 [l0, l1, .int x, l3] [t0, t1] h Q ↔ zEv sc 126 19 [l0, l1, .int x, l3] [.int x, t0, t1] h Q := zE_pure (q := (19, [l0, l1, .int x, l3], [.int x, t0, t1])) dz126_18 rfl rfl rfl
theorem dz126_19 : decode (z_code 126) 19 = .ok (.invokevirtual 70, 3) := by decide +kernel
theorem u126_19 (ho : zO a 10) : zEv sc 126 19 [l0, l1, l2, l3] [.int z1, .int z0, .ref a] (zst p iv) Q ↔ zEv sc 106 0 [.ref a, .int z0, .int z1, .null] [] (zst p iv) (fun r h9 => zEv sc 126 22 [l0, l1, l2, l3] (r.toList ++ []) h9 Q) := zE_call (kd := 0) (na := 3) (nr := 0) (as := [.ref a, .int z0, .int z1]) (rest := []) (Or.inl ⟨rfl, rfl⟩) dz126_19 (by decide +kernel : z_lk2 zCT (z_cls 126) 70 = some (106, 0, 816)) (fun z => by cases z) rfl rfl rfl (by decide +kernel) rfl (Or.inr (zE_rc ho))
theorem dz126_22 : decode (z_code 126) 22 = .ok (.istore_n 3, 1) := by decide +kernel
theorem u126_22 : zEv sc 126 22 [l0, l1, l2, l3] [.int x] h Q ↔ zEv sc 126 23 [l0, l1, l2, .int x] [] h Q := zE_pure (q := (23, [l0, l1, l2, .int x], [])) dz126_22 rfl rfl rfl
theorem dz126_23 : decode (z_code 126) 23 = .ok (.iload_n 3, 1) := by decide +kernel
theorem u126_23 : zEv sc 126 23 [l0, l1, l2, .int x] [] h Q ↔ zEv sc 126 24 [l0, l1, l2, .int x] [.int x] h Q := zE_pure (q := (24, [l0, l1, l2, .int x], [.int x])) dz126_23 rfl rfl rfl
theorem dz126_24 : decode (z_code 126) 24 = .ok (.ifCond .ne 6, 3) := by decide +kernel
theorem u126_24 : zEv sc 126 24 [l0, l1, l2, l3] [.int x] h Q ↔ (if ¬ x = 0 then zEv sc 126 30 [l0, l1, l2, l3] [] h Q else zEv sc 126 27 [l0, l1, l2, l3] [] h Q) := zE_ifP (P := ¬ x = 0) inferInstance 30 dz126_24 rfl rfl
theorem dz126_27 : decode (z_code 126) 27 = .ok (.ldc 101, 2) := by decide +kernel
theorem u126_27 : zEv sc 126 27 [l0, l1, l2, l3] [] h Q ↔ zEv sc 126 29 [l0, l1, l2, l3] [.int (-1000002)] h Q := zE_ldc (by decide +kernel : z_lkK zKT (z_cls 126) 101 = some ((-1000002), 833)) dz126_27
theorem dz126_29 : decode (z_code 126) 29 = .ok (.ireturn, 1) := by decide +kernel
theorem u126_29 : zEv sc 126 29 [l0, l1, l2, l3] [.int x] h Q ↔ Q (some (.int x)) h := zE_ri dz126_29 (by decide +kernel)
theorem dz126_30 : decode (z_code 126) 30 = .ok (.aload_n 0, 1) := by decide +kernel
theorem u126_30 : zEv sc 126 30 [.ref a, l1, l2, l3] [] h Q ↔ zEv sc 126 31 [.ref a, l1, l2, l3] [.ref a] h Q := zE_pure (q := (31, [.ref a, l1, l2, l3], [.ref a])) dz126_30 rfl rfl rfl
theorem dz126_31 : decode (z_code 126) 31 = .ok (.iload_n 1, 1) := by decide +kernel
theorem u126_31 : zEv sc 126 31 [l0, .int x, l2, l3] [t0] h Q ↔ zEv sc 126 32 [l0, .int x, l2, l3] [.int x, t0] h Q := zE_pure (q := (32, [l0, .int x, l2, l3], [.int x, t0])) dz126_31 rfl rfl rfl
theorem dz126_32 : decode (z_code 126) 32 = .ok (.aload_n 0, 1) := by decide +kernel
theorem u126_32 : zEv sc 126 32 [.ref a, l1, l2, l3] [t0, t1] h Q ↔ zEv sc 126 33 [.ref a, l1, l2, l3] [.ref a, t0, t1] h Q := zE_pure (q := (33, [.ref a, l1, l2, l3], [.ref a, t0, t1])) dz126_32 rfl rfl rfl
theorem dz126_33 : decode (z_code 126) 33 = .ok (.iload_n 1, 1) := by decide +kernel
theorem u126_33 : zEv sc 126 33 [l0, .int x, l2, l3] [t0, t1, t2] h Q ↔ zEv sc 126 34 [l0, .int x, l2, l3] [.int x, t0, t1, t2] h Q := zE_pure (q := (34, [l0, .int x, l2, l3], [.int x, t0, t1, t2])) dz126_33 rfl rfl rfl
theorem dz126_34 : decode (z_code 126) 34 = .ok (.iload_n 2, 1) := by decide +kernel
theorem u126_34 : zEv sc 126 34 [l0, l1, .int x, l3] [t0, t1, t2, t3] h Q ↔ zEv sc 126 35 [l0, l1, .int x, l3] [.int x, t0, t1, t2, t3] h Q := zE_pure (q := (35, [l0, l1, .int x, l3], [.int x, t0, t1, t2, t3])) dz126_34 rfl rfl rfl
theorem dz126_35 : decode (z_code 126) 35 = .ok (.invokevirtual 67, 3) := by decide +kernel
theorem u126_35 (ho : zO a 10) : zEv sc 126 35 [l0, l1, l2, l3] [.int z1, .int z0, .ref a, t0, t1] (zst p iv) Q ↔ zEv sc 105 0 [.ref a, .int z0, .int z1, .null] [] (zst p iv) (fun r h9 => zEv sc 126 38 [l0, l1, l2, l3] (r.toList ++ [t0, t1]) h9 Q) := zE_call (kd := 0) (na := 3) (nr := 2) (as := [.ref a, .int z0, .int z1]) (rest := [t0, t1]) (Or.inl ⟨rfl, rfl⟩) dz126_35 (by decide +kernel : z_lk2 zCT (z_cls 126) 67 = some (105, 0, 820)) (fun z => by cases z) rfl rfl rfl (by decide +kernel) rfl (Or.inr (zE_rc ho))
theorem dz126_38 : decode (z_code 126) 38 = .ok (.invokevirtual 74, 3) := by decide +kernel
theorem u126_38 (ho : zO a 10) : zEv sc 126 38 [l0, l1, l2, l3] [.int z1, .int z0, .ref a] (zst p iv) Q ↔ zEv sc 107 0 [.ref a, .int z0, .int z1, .null, .null] [] (zst p iv) (fun r h9 => zEv sc 126 41 [l0, l1, l2, l3] (r.toList ++ []) h9 Q) := zE_call (kd := 0) (na := 3) (nr := 0) (as := [.ref a, .int z0, .int z1]) (rest := []) (Or.inl ⟨rfl, rfl⟩) dz126_38 (by decide +kernel : z_lk2 zCT (z_cls 126) 74 = some (107, 0, 792)) (fun z => by cases z) rfl rfl rfl (by decide +kernel) rfl (Or.inr (zE_rc ho))
theorem dz126_41 : decode (z_code 126) 41 = .ok (.aload_n 0, 1) := by decide +kernel
theorem u126_41 : zEv sc 126 41 [.ref a, l1, l2, l3] [] h Q ↔ zEv sc 126 42 [.ref a, l1, l2, l3] [.ref a] h Q := zE_pure (q := (42, [.ref a, l1, l2, l3], [.ref a])) dz126_41 rfl rfl rfl
theorem dz126_42 : decode (z_code 126) 42 = .ok (.iload_n 3, 1) := by decide +kernel
theorem u126_42 : zEv sc 126 42 [l0, l1, l2, .int x] [t0] h Q ↔ zEv sc 126 43 [l0, l1, l2, .int x] [.int x, t0] h Q := zE_pure (q := (43, [l0, l1, l2, .int x], [.int x, t0])) dz126_42 rfl rfl rfl
theorem dz126_43 : decode (z_code 126) 43 = .ok (.invokevirtual 114, 3) := by decide +kernel
theorem u126_43 (ho : zO a 10) : zEv sc 126 43 [l0, l1, l2, l3] [.int z0, .ref a] (zst p iv) Q ↔ zEv sc 92 0 [.ref a, .int z0, .null] [] (zst p iv) (fun r h9 => zEv sc 126 46 [l0, l1, l2, l3] (r.toList ++ []) h9 Q) := zE_call (kd := 0) (na := 2) (nr := 0) (as := [.ref a, .int z0]) (rest := []) (Or.inl ⟨rfl, rfl⟩) dz126_43 (by decide +kernel : z_lk2 zCT (z_cls 126) 114 = some (92, 0, 745)) (fun z => by cases z) rfl rfl rfl (by decide +kernel) rfl (Or.inr (zE_rc ho))
theorem dz126_46 : decode (z_code 126) 46 = .ok (.ireturn, 1) := by decide +kernel
theorem u126_46 : zEv sc 126 46 [l0, l1, l2, l3] [.int x] h Q ↔ Q (some (.int x)) h := zE_ri dz126_46 (by decide +kernel)
/-! method 127: FieldMixturesModel.round(I)I -/
theorem dz127_0 : decode (z_code 127) 0 = .ok (.aload_n 0, 1) := by decide +kernel
theorem u127_0 : zEv sc 127 0 [.ref a, l1] [] h Q ↔ zEv sc 127 1 [.ref a, l1] [.ref a] h Q := zE_pure (q := (1, [.ref a, l1], [.ref a])) dz127_0 rfl rfl rfl
theorem dz127_1 : decode (z_code 127) 1 = .ok (.invokevirtual 108, 3) := by decide +kernel
theorem u127_1 (ho : zO a 10) : zEv sc 127 1 [l0, l1] [.ref a] (zst p iv) Q ↔ zEv sc 90 0 [.ref a, .null] [] (zst p iv) (fun r h9 => zEv sc 127 4 [l0, l1] (r.toList ++ []) h9 Q) := zE_call (kd := 0) (na := 1) (nr := 0) (as := [.ref a]) (rest := []) (Or.inl ⟨rfl, rfl⟩) dz127_1 (by decide +kernel : z_lk2 zCT (z_cls 127) 108 = some (90, 0, 730)) (fun z => by cases z) rfl rfl rfl (by decide +kernel) rfl (Or.inr (zE_rc ho))
theorem dz127_4 : decode (z_code 127) 4 = .ok (.aload_n 0, 1) := by decide +kernel
theorem u127_4 : zEv sc 127 4 [.ref a, l1] [] h Q ↔ zEv sc 127 5 [.ref a, l1] [.ref a] h Q := zE_pure (q := (5, [.ref a, l1], [.ref a])) dz127_4 rfl rfl rfl
theorem dz127_5 : decode (z_code 127) 5 = .ok (.iload_n 1, 1) := by decide +kernel
theorem u127_5 : zEv sc 127 5 [l0, .int x] [t0] h Q ↔ zEv sc 127 6 [l0, .int x] [.int x, t0] h Q := zE_pure (q := (6, [l0, .int x], [.int x, t0])) dz127_5 rfl rfl rfl
theorem dz127_6 : decode (z_code 127) 6 = .ok (.iconst 1, 1) := by decide +kernel
theorem u127_6 : zEv sc 127 6 [l0, l1] [t0, t1] h Q ↔ zEv sc 127 7 [l0, l1] [.int 1, t0, t1] h Q := zE_iconst dz127_6 (by decide +kernel)
theorem dz127_7 : decode (z_code 127) 7 = .ok (.bipush 20, 2) := by decide +kernel
theorem u127_7 : zEv sc 127 7 [l0, l1] [t0, t1, t2] h Q ↔ zEv sc 127 9 [l0, l1] [.int 20, t0, t1, t2] h Q := zE_bipush dz127_7 (by decide +kernel)
theorem dz127_9 : decode (z_code 127) 9 = .ok (.invokestatic 39, 3) := by decide +kernel
theorem u127_9 : zEv sc 127 9 [l0, l1] [.int z2, .int z1, .int z0, t0] h Q ↔ zEv sc 89 0 [.int z0, .int z1, .int z2] [] h (fun r h9 => zEv sc 127 12 [l0, l1] (r.toList ++ [t0]) h9 Q) := zE_call (kd := 1) (na := 3) (nr := 1) (as := [.int z0, .int z1, .int z2]) (rest := [t0]) (Or.inr ⟨rfl, rfl⟩) dz127_9 (by decide +kernel : z_lk2 zCT (z_cls 127) 39 = some (89, 0, 734)) (fun _ => by decide +kernel) rfl rfl rfl (by decide +kernel) rfl (Or.inl rfl)
theorem dz127_12 : decode (z_code 127) 12 = .ok (.ifCond .eq 11, 3) := by decide +kernel
theorem u127_12 : zEv sc 127 12 [l0, l1] [.int x, t0] h Q ↔ (if x = 0 then zEv sc 127 23 [l0, l1] [t0] h Q else zEv sc 127 15 [l0, l1] [t0] h Q) := zE_ifP (P := x = 0) inferInstance 23 dz127_12 rfl rfl
theorem dz127_15 : decode (z_code 127) 15 = .ok (.aload_n 0, 1) := by decide +kernel
theorem u127_15 : zEv sc 127 15 [.ref a, l1] [t0] h Q ↔ zEv sc 127 16 [.ref a, l1] [.ref a, t0] h Q := zE_pure (q := (16, [.ref a, l1], [.ref a, t0])) dz127_15 rfl rfl rfl
theorem dz127_16 : decode (z_code 127) 16 = .ok (.iload_n 1, 1) := by decide +kernel
theorem u127_16 : zEv sc 127 16 [l0, .int x] [t0, t1] h Q ↔ zEv sc 127 17 [l0, .int x] [.int x, t0, t1] h Q := zE_pure (q := (17, [l0, .int x], [.int x, t0, t1])) dz127_16 rfl rfl rfl
theorem dz127_17 : decode (z_code 127) 17 = .ok (.invokevirtual 133, 3) := by decide +kernel
theorem u127_17 (ho : zO a 10) : zEv sc 127 17 [l0, l1] [.int z0, .ref a, t0] (zst p iv) Q ↔ zEv sc 118 0 [.ref a, .int z0, .null, .null, .null] [] (zst p iv) (fun r h9 => zEv sc 127 20 [l0, l1] (r.toList ++ [t0]) h9 Q) := zE_call (kd := 0) (na := 2) (nr := 1) (as := [.ref a, .int z0]) (rest := [t0]) (Or.inl ⟨rfl, rfl⟩) dz127_17 (by decide +kernel : z_lk2 zCT (z_cls 127) 133 = some (118, 0, 838)) (fun z => by cases z) rfl rfl rfl (by decide +kernel) rfl (Or.inr (zE_rc ho))
theorem dz127_20 : decode (z_code 127) 20 = .ok (.goto 5, 3) := by decide +kernel
theorem u127_20 : zEv sc 127 20 [l0, l1] [t0, t1] h Q ↔ zEv sc 127 25 [l0, l1] [t0, t1] h Q := zE_go 25 dz127_20 rfl
theorem dz127_25 : decode (z_code 127) 25 = .ok (.invokevirtual 114, 3) := by decide +kernel
theorem u127_25 (ho : zO a 10) : zEv sc 127 25 [l0, l1] [.int z0, .ref a] (zst p iv) Q ↔ zEv sc 92 0 [.ref a, .int z0, .null] [] (zst p iv) (fun r h9 => zEv sc 127 28 [l0, l1] (r.toList ++ []) h9 Q) := zE_call (kd := 0) (na := 2) (nr := 0) (as := [.ref a, .int z0]) (rest := []) (Or.inl ⟨rfl, rfl⟩) dz127_25 (by decide +kernel : z_lk2 zCT (z_cls 127) 114 = some (92, 0, 745)) (fun z => by cases z) rfl rfl rfl (by decide +kernel) rfl (Or.inr (zE_rc ho))
theorem dz127_28 : decode (z_code 127) 28 = .ok (.ireturn, 1) := by decide +kernel
theorem u127_28 : zEv sc 127 28 [l0, l1] [.int x] h Q ↔ Q (some (.int x)) h := zE_ri dz127_28 (by decide +kernel)
theorem dz127_23 : decode (z_code 127) 23 = .ok (.ldc 31, 2) := by decide +kernel
theorem u127_23 : zEv sc 127 23 [l0, l1] [t0] h Q ↔ zEv sc 127 25 [l0, l1] [.int (-1000001), t0] h Q := zE_ldc (by decide +kernel : z_lkK zKT (z_cls 127) 31 = some ((-1000001), 744)) dz127_23
/-! method 128: FieldMixturesModel.allocations(II)I -/
theorem dz128_0 : decode (z_code 128) 0 = .ok (.iload_n 1, 1) := by decide +kernel
theorem u128_0 : zEv sc 128 0 [l0, .int x, l2] [] h Q ↔ zEv sc 128 1 [l0, .int x, l2] [.int x] h Q := zE_pure (q := (1, [l0, .int x, l2], [.int x])) dz128_0 rfl rfl rfl
theorem dz128_1 : decode (z_code 128) 1 = .ok (.invokestatic 124, 3) := by decide +kernel
theorem u128_1 : zEv sc 128 1 [l0, l1, l2] [.int z0] h Q ↔ zEv sc 93 0 [.int z0] [] h (fun r h9 => zEv sc 128 4 [l0, l1, l2] (r.toList ++ []) h9 Q) := zE_call (kd := 1) (na := 1) (nr := 0) (as := [.int z0]) (rest := []) (Or.inr ⟨rfl, rfl⟩) dz128_1 (by decide +kernel : z_lk2 zCT (z_cls 128) 124 = some (93, 0, 769)) (fun _ => by decide +kernel) rfl rfl rfl (by decide +kernel) rfl (Or.inl rfl)
theorem dz128_4 : decode (z_code 128) 4 = .ok (.ifCond .eq 8, 3) := by decide +kernel
theorem u128_4 : zEv sc 128 4 [l0, l1, l2] [.int x] h Q ↔ (if x = 0 then zEv sc 128 12 [l0, l1, l2] [] h Q else zEv sc 128 7 [l0, l1, l2] [] h Q) := zE_ifP (P := x = 0) inferInstance 12 dz128_4 rfl rfl
theorem dz128_7 : decode (z_code 128) 7 = .ok (.iload_n 2, 1) := by decide +kernel
theorem u128_7 : zEv sc 128 7 [l0, l1, .int x] [] h Q ↔ zEv sc 128 8 [l0, l1, .int x] [.int x] h Q := zE_pure (q := (8, [l0, l1, .int x], [.int x])) dz128_7 rfl rfl rfl
theorem dz128_8 : decode (z_code 128) 8 = .ok (.iconst (-1), 1) := by decide +kernel
theorem u128_8 : zEv sc 128 8 [l0, l1, l2] [t0] h Q ↔ zEv sc 128 9 [l0, l1, l2] [.int (-1), t0] h Q := zE_iconst dz128_8 (by decide +kernel)
theorem dz128_9 : decode (z_code 128) 9 = .ok (.if_icmp .ge 6, 3) := by decide +kernel
theorem u128_9 : zEv sc 128 9 [l0, l1, l2] [.int x2, .int x1] h Q ↔ (if x2 ≤ x1 then zEv sc 128 15 [l0, l1, l2] [] h Q else zEv sc 128 12 [l0, l1, l2] [] h Q) := zE_icP (P := x2 ≤ x1) inferInstance 15 dz128_9 rfl rfl
theorem dz128_15 : decode (z_code 128) 15 = .ok (.aload_n 0, 1) := by decide +kernel
theorem u128_15 : zEv sc 128 15 [.ref a, l1, l2] [] h Q ↔ zEv sc 128 16 [.ref a, l1, l2] [.ref a] h Q := zE_pure (q := (16, [.ref a, l1, l2], [.ref a])) dz128_15 rfl rfl rfl
theorem dz128_16 : decode (z_code 128) 16 = .ok (.iload_n 1, 1) := by decide +kernel
theorem u128_16 : zEv sc 128 16 [l0, .int x, l2] [t0] h Q ↔ zEv sc 128 17 [l0, .int x, l2] [.int x, t0] h Q := zE_pure (q := (17, [l0, .int x, l2], [.int x, t0])) dz128_16 rfl rfl rfl
theorem dz128_17 : decode (z_code 128) 17 = .ok (.invokevirtual 89, 3) := by decide +kernel
theorem u128_17 (ho : zO a 10) : zEv sc 128 17 [l0, l1, l2] [.int z0, .ref a] (zst p iv) Q ↔ zEv sc 97 0 [.ref a, .int z0, .null, .null] [] (zst p iv) (fun r h9 => zEv sc 128 20 [l0, l1, l2] (r.toList ++ []) h9 Q) := zE_call (kd := 0) (na := 2) (nr := 0) (as := [.ref a, .int z0]) (rest := []) (Or.inl ⟨rfl, rfl⟩) dz128_17 (by decide +kernel : z_lk2 zCT (z_cls 128) 89 = some (97, 0, 846)) (fun z => by cases z) rfl rfl rfl (by decide +kernel) rfl (Or.inr (zE_rc ho))
theorem dz128_20 : decode (z_code 128) 20 = .ok (.iload_n 2, 1) := by decide +kernel
theorem u128_20 : zEv sc 128 20 [l0, l1, .int x] [] h Q ↔ zEv sc 128 21 [l0, l1, .int x] [.int x] h Q := zE_pure (q := (21, [l0, l1, .int x], [.int x])) dz128_20 rfl rfl rfl
theorem dz128_21 : decode (z_code 128) 21 = .ok (.ifCond .ge 12, 3) := by decide +kernel
theorem u128_21 : zEv sc 128 21 [l0, l1, l2] [.int x] h Q ↔ (if 0 ≤ x then zEv sc 128 33 [l0, l1, l2] [] h Q else zEv sc 128 24 [l0, l1, l2] [] h Q) := zE_ifP (P := 0 ≤ x) inferInstance 33 dz128_21 rfl rfl
theorem dz128_24 : decode (z_code 128) 24 = .ok (.aload_n 0, 1) := by decide +kernel
theorem u128_24 : zEv sc 128 24 [.ref a, l1, l2] [] h Q ↔ zEv sc 128 25 [.ref a, l1, l2] [.ref a] h Q := zE_pure (q := (25, [.ref a, l1, l2], [.ref a])) dz128_24 rfl rfl rfl
theorem dz128_25 : decode (z_code 128) 25 = .ok (.getfield 25, 3) := by decide +kernel
theorem u128_25 (ho : zO a 10) : zEv sc 128 25 [l0, l1, l2] [.ref a] (zst p iv) Q ↔ zRef (zRV p a 7) (fun j => zEv sc 128 28 [l0, l1, l2] [.ref j] (zst p iv) Q) := zE_gfR dz128_25 (by decide +kernel : z_lk3 zFT (z_cls 128) 25 = some (10, 7, 0, 684)) (by decide +kernel) ho
theorem dz128_28 : decode (z_code 128) 28 = .ok (.iload_n 1, 1) := by decide +kernel
theorem u128_28 : zEv sc 128 28 [l0, .int x, l2] [t0] h Q ↔ zEv sc 128 29 [l0, .int x, l2] [.int x, t0] h Q := zE_pure (q := (29, [l0, .int x, l2], [.int x, t0])) dz128_28 rfl rfl rfl
theorem dz128_29 : decode (z_code 128) 29 = .ok (.iaload, 1) := by decide +kernel
theorem u128_29 (ho : zO a 100) : zEv sc 128 29 [l0, l1, l2] [.int x, .ref a] (zst p iv) Q ↔ (vp_in x (zLn a) ∧ zEv sc 128 30 [l0, l1, l2] [.int (iv a x.toNatClampNeg)] (zst p iv) Q) := zE_ald (Or.inl ⟨rfl, rfl⟩) dz128_29 ho
theorem dz128_30 : decode (z_code 128) 30 = .ok (.goto 30, 3) := by decide +kernel
theorem u128_30 : zEv sc 128 30 [l0, l1, l2] [t0] h Q ↔ zEv sc 128 60 [l0, l1, l2] [t0] h Q := zE_go 60 dz128_30 rfl
theorem dz128_60 : decode (z_code 128) 60 = .ok (.ireturn, 1) := by decide +kernel
theorem u128_60 : zEv sc 128 60 [l0, l1, l2] [.int x] h Q ↔ Q (some (.int x)) h := zE_ri dz128_60 (by decide +kernel)
theorem dz128_33 : decode (z_code 128) 33 = .ok (.iload_n 2, 1) := by decide +kernel
theorem u128_33 : zEv sc 128 33 [l0, l1, .int x] [] h Q ↔ zEv sc 128 34 [l0, l1, .int x] [.int x] h Q := zE_pure (q := (34, [l0, l1, .int x], [.int x])) dz128_33 rfl rfl rfl
theorem dz128_34 : decode (z_code 128) 34 = .ok (.aload_n 0, 1) := by decide +kernel
theorem u128_34 : zEv sc 128 34 [.ref a, l1, l2] [t0] h Q ↔ zEv sc 128 35 [.ref a, l1, l2] [.ref a, t0] h Q := zE_pure (q := (35, [.ref a, l1, l2], [.ref a, t0])) dz128_34 rfl rfl rfl
theorem dz128_35 : decode (z_code 128) 35 = .ok (.getfield 25, 3) := by decide +kernel
theorem u128_35 (ho : zO a 10) : zEv sc 128 35 [l0, l1, l2] [.ref a, t0] (zst p iv) Q ↔ zRef (zRV p a 7) (fun j => zEv sc 128 38 [l0, l1, l2] [.ref j, t0] (zst p iv) Q) := zE_gfR dz128_35 (by decide +kernel : z_lk3 zFT (z_cls 128) 25 = some (10, 7, 0, 684)) (by decide +kernel) ho
theorem dz128_38 : decode (z_code 128) 38 = .ok (.iload_n 1, 1) := by decide +kernel
theorem u128_38 : zEv sc 128 38 [l0, .int x, l2] [t0, t1] h Q ↔ zEv sc 128 39 [l0, .int x, l2] [.int x, t0, t1] h Q := zE_pure (q := (39, [l0, .int x, l2], [.int x, t0, t1])) dz128_38 rfl rfl rfl
theorem dz128_39 : decode (z_code 128) 39 = .ok (.iaload, 1) := by decide +kernel
theorem u128_39 (ho : zO a 100) : zEv sc 128 39 [l0, l1, l2] [.int x, .ref a, t0] (zst p iv) Q ↔ (vp_in x (zLn a) ∧ zEv sc 128 40 [l0, l1, l2] [.int (iv a x.toNatClampNeg), t0] (zst p iv) Q) := zE_ald (Or.inl ⟨rfl, rfl⟩) dz128_39 ho
theorem dz128_40 : decode (z_code 128) 40 = .ok (.if_icmp .ge 18, 3) := by decide +kernel
theorem u128_40 : zEv sc 128 40 [l0, l1, l2] [.int x2, .int x1] h Q ↔ (if x2 ≤ x1 then zEv sc 128 58 [l0, l1, l2] [] h Q else zEv sc 128 43 [l0, l1, l2] [] h Q) := zE_icP (P := x2 ≤ x1) inferInstance 58 dz128_40 rfl rfl
theorem dz128_43 : decode (z_code 128) 43 = .ok (.aload_n 0, 1) := by decide +kernel
theorem u128_43 : zEv sc 128 43 [.ref a, l1, l2] [] h Q ↔ zEv sc 128 44 [.ref a, l1, l2] [.ref a] h Q := zE_pure (q := (44, [.ref a, l1, l2], [.ref a])) dz128_43 rfl rfl rfl
theorem dz128_44 : decode (z_code 128) 44 = .ok (.getfield 22, 3) := by decide +kernel
theorem u128_44 (ho : zO a 10) : zEv sc 128 44 [l0, l1, l2] [.ref a] (zst p iv) Q ↔ zRef (zRV p a 6) (fun j => zEv sc 128 47 [l0, l1, l2] [.ref j] (zst p iv) Q) := zE_gfR dz128_44 (by decide +kernel : z_lk3 zFT (z_cls 128) 22 = some (10, 6, 0, 683)) (by decide +kernel) ho
theorem dz128_47 : decode (z_code 128) 47 = .ok (.sipush 170, 3) := by decide +kernel
theorem u128_47 : zEv sc 128 47 [l0, l1, l2] [t0] h Q ↔ zEv sc 128 50 [l0, l1, l2] [.int 170, t0] h Q := zE_sipush dz128_47 (by decide +kernel)
theorem dz128_50 : decode (z_code 128) 50 = .ok (.iload_n 1, 1) := by decide +kernel
theorem u128_50 : zEv sc 128 50 [l0, .int x, l2] [t0, t1] h Q ↔ zEv sc 128 51 [l0, .int x, l2] [.int x, t0, t1] h Q := zE_pure (q := (51, [l0, .int x, l2], [.int x, t0, t1])) dz128_50 rfl rfl rfl
theorem dz128_51 : decode (z_code 128) 51 = .ok (.imul, 1) := by decide +kernel
theorem u128_51 : zEv sc 128 51 [l0, l1, l2] [.int x2, .int x1, t0] h Q ↔ zEv sc 128 52 [l0, l1, l2] [.int (x1 * x2), t0] h Q := zE_pure (q := (52, [l0, l1, l2], [.int (x1 * x2), t0])) dz128_51 rfl rfl rfl
theorem dz128_52 : decode (z_code 128) 52 = .ok (.iload_n 2, 1) := by decide +kernel
theorem u128_52 : zEv sc 128 52 [l0, l1, .int x] [t0, t1] h Q ↔ zEv sc 128 53 [l0, l1, .int x] [.int x, t0, t1] h Q := zE_pure (q := (53, [l0, l1, .int x], [.int x, t0, t1])) dz128_52 rfl rfl rfl
theorem dz128_53 : decode (z_code 128) 53 = .ok (.iadd, 1) := by decide +kernel
theorem u128_53 : zEv sc 128 53 [l0, l1, l2] [.int x2, .int x1, t0] h Q ↔ zEv sc 128 54 [l0, l1, l2] [.int (x1 + x2), t0] h Q := zE_pure (q := (54, [l0, l1, l2], [.int (x1 + x2), t0])) dz128_53 rfl rfl rfl
theorem dz128_54 : decode (z_code 128) 54 = .ok (.iaload, 1) := by decide +kernel
theorem u128_54 (ho : zO a 100) : zEv sc 128 54 [l0, l1, l2] [.int x, .ref a] (zst p iv) Q ↔ (vp_in x (zLn a) ∧ zEv sc 128 55 [l0, l1, l2] [.int (iv a x.toNatClampNeg)] (zst p iv) Q) := zE_ald (Or.inl ⟨rfl, rfl⟩) dz128_54 ho
theorem dz128_55 : decode (z_code 128) 55 = .ok (.goto 5, 3) := by decide +kernel
theorem u128_55 : zEv sc 128 55 [l0, l1, l2] [t0] h Q ↔ zEv sc 128 60 [l0, l1, l2] [t0] h Q := zE_go 60 dz128_55 rfl
theorem dz128_58 : decode (z_code 128) 58 = .ok (.ldc 136, 2) := by decide +kernel
theorem u128_58 : zEv sc 128 58 [l0, l1, l2] [] h Q ↔ zEv sc 128 60 [l0, l1, l2] [.int (-1000004)] h Q := zE_ldc (by decide +kernel : z_lkK zKT (z_cls 128) 136 = some ((-1000004), 870)) dz128_58
theorem dz128_12 : decode (z_code 128) 12 = .ok (.ldc 31, 2) := by decide +kernel
theorem u128_12 : zEv sc 128 12 [l0, l1, l2] [] h Q ↔ zEv sc 128 14 [l0, l1, l2] [.int (-1000001)] h Q := zE_ldc (by decide +kernel : z_lkK zKT (z_cls 128) 31 = some ((-1000001), 744)) dz128_12
theorem dz128_14 : decode (z_code 128) 14 = .ok (.ireturn, 1) := by decide +kernel
theorem u128_14 : zEv sc 128 14 [l0, l1, l2] [.int x] h Q ↔ Q (some (.int x)) h := zE_ri dz128_14 (by decide +kernel)
/-! method 129: FieldMixturesModel.gains(II)I -/
theorem dz129_0 : decode (z_code 129) 0 = .ok (.aload_n 0, 1) := by decide +kernel
theorem u129_0 : zEv sc 129 0 [.ref a, l1, l2] [] h Q ↔ zEv sc 129 1 [.ref a, l1, l2] [.ref a] h Q := zE_pure (q := (1, [.ref a, l1, l2], [.ref a])) dz129_0 rfl rfl rfl
theorem dz129_1 : decode (z_code 129) 1 = .ok (.iconst 0, 1) := by decide +kernel
theorem u129_1 : zEv sc 129 1 [l0, l1, l2] [t0] h Q ↔ zEv sc 129 2 [l0, l1, l2] [.int 0, t0] h Q := zE_iconst dz129_1 (by decide +kernel)
theorem dz129_2 : decode (z_code 129) 2 = .ok (.iload_n 1, 1) := by decide +kernel
theorem u129_2 : zEv sc 129 2 [l0, .int x, l2] [t0, t1] h Q ↔ zEv sc 129 3 [l0, .int x, l2] [.int x, t0, t1] h Q := zE_pure (q := (3, [l0, .int x, l2], [.int x, t0, t1])) dz129_2 rfl rfl rfl
theorem dz129_3 : decode (z_code 129) 3 = .ok (.invokevirtual 47, 3) := by decide +kernel
theorem u129_3 (ho : zO a 10) : zEv sc 129 3 [l0, l1, l2] [.int z1, .int z0, .ref a] (zst p iv) Q ↔ zEv sc 96 0 [.ref a, .int z0, .int z1, .null, .null, .null, .null, .null] [] (zst p iv) (fun r h9 => zEv sc 129 6 [l0, l1, l2] (r.toList ++ []) h9 Q) := zE_call (kd := 0) (na := 3) (nr := 0) (as := [.ref a, .int z0, .int z1]) (rest := []) (Or.inl ⟨rfl, rfl⟩) dz129_3 (by decide +kernel : z_lk2 zCT (z_cls 129) 47 = some (96, 0, 784)) (fun z => by cases z) rfl rfl rfl (by decide +kernel) rfl (Or.inr (zE_rc ho))
theorem dz129_6 : decode (z_code 129) 6 = .ok (.ifCond .eq 25, 3) := by decide +kernel
theorem u129_6 : zEv sc 129 6 [l0, l1, l2] [.int x] h Q ↔ (if x = 0 then zEv sc 129 31 [l0, l1, l2] [] h Q else zEv sc 129 9 [l0, l1, l2] [] h Q) := zE_ifP (P := x = 0) inferInstance 31 dz129_6 rfl rfl
theorem dz129_9 : decode (z_code 129) 9 = .ok (.aload_n 0, 1) := by decide +kernel
theorem u129_9 : zEv sc 129 9 [.ref a, l1, l2] [] h Q ↔ zEv sc 129 10 [.ref a, l1, l2] [.ref a] h Q := zE_pure (q := (10, [.ref a, l1, l2], [.ref a])) dz129_9 rfl rfl rfl
theorem dz129_10 : decode (z_code 129) 10 = .ok (.iconst 1, 1) := by decide +kernel
theorem u129_10 : zEv sc 129 10 [l0, l1, l2] [t0] h Q ↔ zEv sc 129 11 [l0, l1, l2] [.int 1, t0] h Q := zE_iconst dz129_10 (by decide +kernel)
theorem dz129_11 : decode (z_code 129) 11 = .ok (.iload_n 2, 1) := by decide +kernel
theorem u129_11 : zEv sc 129 11 [l0, l1, .int x] [t0, t1] h Q ↔ zEv sc 129 12 [l0, l1, .int x] [.int x, t0, t1] h Q := zE_pure (q := (12, [l0, l1, .int x], [.int x, t0, t1])) dz129_11 rfl rfl rfl
theorem dz129_12 : decode (z_code 129) 12 = .ok (.invokevirtual 47, 3) := by decide +kernel
theorem u129_12 (ho : zO a 10) : zEv sc 129 12 [l0, l1, l2] [.int z1, .int z0, .ref a] (zst p iv) Q ↔ zEv sc 96 0 [.ref a, .int z0, .int z1, .null, .null, .null, .null, .null] [] (zst p iv) (fun r h9 => zEv sc 129 15 [l0, l1, l2] (r.toList ++ []) h9 Q) := zE_call (kd := 0) (na := 3) (nr := 0) (as := [.ref a, .int z0, .int z1]) (rest := []) (Or.inl ⟨rfl, rfl⟩) dz129_12 (by decide +kernel : z_lk2 zCT (z_cls 129) 47 = some (96, 0, 784)) (fun z => by cases z) rfl rfl rfl (by decide +kernel) rfl (Or.inr (zE_rc ho))
theorem dz129_15 : decode (z_code 129) 15 = .ok (.ifCond .eq 16, 3) := by decide +kernel
theorem u129_15 : zEv sc 129 15 [l0, l1, l2] [.int x] h Q ↔ (if x = 0 then zEv sc 129 31 [l0, l1, l2] [] h Q else zEv sc 129 18 [l0, l1, l2] [] h Q) := zE_ifP (P := x = 0) inferInstance 31 dz129_15 rfl rfl
theorem dz129_18 : decode (z_code 129) 18 = .ok (.aload_n 0, 1) := by decide +kernel
theorem u129_18 : zEv sc 129 18 [.ref a, l1, l2] [] h Q ↔ zEv sc 129 19 [.ref a, l1, l2] [.ref a] h Q := zE_pure (q := (19, [.ref a, l1, l2], [.ref a])) dz129_18 rfl rfl rfl
theorem dz129_19 : decode (z_code 129) 19 = .ok (.iload_n 1, 1) := by decide +kernel
theorem u129_19 : zEv sc 129 19 [l0, .int x, l2] [t0] h Q ↔ zEv sc 129 20 [l0, .int x, l2] [.int x, t0] h Q := zE_pure (q := (20, [l0, .int x, l2], [.int x, t0])) dz129_19 rfl rfl rfl
theorem dz129_20 : decode (z_code 129) 20 = .ok (.iload_n 2, 1) := by decide +kernel
theorem u129_20 : zEv sc 129 20 [l0, l1, .int x] [t0, t1] h Q ↔ zEv sc 129 21 [l0, l1, .int x] [.int x, t0, t1] h Q := zE_pure (q := (21, [l0, l1, .int x], [.int x, t0, t1])) dz129_20 rfl rfl rfl
theorem dz129_21 : decode (z_code 129) 21 = .ok (.invokevirtual 51, 3) := by decide +kernel
theorem u129_21 (ho : zO a 10) : zEv sc 129 21 [l0, l1, l2] [.int z1, .int z0, .ref a] (zst p iv) Q ↔ zEv sc 98 0 [.ref a, .int z0, .int z1, .null, .null, .null, .null] [] (zst p iv) (fun r h9 => zEv sc 129 24 [l0, l1, l2] (r.toList ++ []) h9 Q) := zE_call (kd := 0) (na := 3) (nr := 0) (as := [.ref a, .int z0, .int z1]) (rest := []) (Or.inl ⟨rfl, rfl⟩) dz129_21 (by decide +kernel : z_lk2 zCT (z_cls 129) 51 = some (98, 0, 858)) (fun z => by cases z) rfl rfl rfl (by decide +kernel) rfl (Or.inr (zE_rc ho))
theorem dz129_24 : decode (z_code 129) 24 = .ok (.sipush 1000, 3) := by decide +kernel
theorem u129_24 : zEv sc 129 24 [l0, l1, l2] [t0] h Q ↔ zEv sc 129 27 [l0, l1, l2] [.int 1000, t0] h Q := zE_sipush dz129_24 (by decide +kernel)
theorem dz129_27 : decode (z_code 129) 27 = .ok (.iadd, 1) := by decide +kernel
theorem u129_27 : zEv sc 129 27 [l0, l1, l2] [.int x2, .int x1] h Q ↔ zEv sc 129 28 [l0, l1, l2] [.int (x1 + x2)] h Q := zE_pure (q := (28, [l0, l1, l2], [.int (x1 + x2)])) dz129_27 rfl rfl rfl
theorem dz129_28 : decode (z_code 129) 28 = .ok (.goto 5, 3) := by decide +kernel
theorem u129_28 : zEv sc 129 28 [l0, l1, l2] [t0] h Q ↔ zEv sc 129 33 [l0, l1, l2] [t0] h Q := zE_go 33 dz129_28 rfl
theorem dz129_33 : decode (z_code 129) 33 = .ok (.ireturn, 1) := by decide +kernel
theorem u129_33 : zEv sc 129 33 [l0, l1, l2] [.int x] h Q ↔ Q (some (.int x)) h := zE_ri dz129_33 (by decide +kernel)
theorem dz129_31 : decode (z_code 129) 31 = .ok (.ldc 31, 2) := by decide +kernel
theorem u129_31 : zEv sc 129 31 [l0, l1, l2] [] h Q ↔ zEv sc 129 33 [l0, l1, l2] [.int (-1000001)] h Q := zE_ldc (by decide +kernel : z_lkK zKT (z_cls 129) 31 = some ((-1000001), 744)) dz129_31
/-! method 130: FieldMixturesModel.isBetter(III)Z -/
theorem dz130_0 : decode (z_code 130) 0 = .ok (.iconst 1, 1) := by decide +kernel
theorem u130_0 : zEv sc 130 0 [l0, l1, l2, l3, l4, l5, l6, l7, l8] [] h Q ↔ zEv sc 130 1 [l0, l1, l2, l3, l4, l5, l6, l7, l8] [.int 1] h Q := zE_iconst dz130_0 (by decide +kernel)
theorem dz130_1 : decode (z_code 130) 1 = .ok (.istore 4, 2) := by decide +kernel
theorem u130_1 : zEv sc 130 1 [l0, l1, l2, l3, l4, l5, l6, l7, l8] [.int x] h Q ↔ zEv sc 130 3 [l0, l1, l2, l3, .int x, l5, l6, l7, l8] [] h Q := zE_pure (q := (3, [l0, l1, l2, l3, .int x, l5, l6, l7, l8], [])) dz130_1 rfl rfl rfl
theorem dz130_3 : decode (z_code 130) 3 = .ok (.iconst 0, 1) := by decide +kernel
theorem u130_3 : zEv sc 130 3 [l0, l1, l2, l3, l4, l5, l6, l7, l8] [] h Q ↔ zEv sc 130 4 [l0, l1, l2, l3, l4, l5, l6, l7, l8] [.int 0] h Q := zE_iconst dz130_3 (by decide +kernel)
theorem dz130_4 : decode (z_code 130) 4 = .ok (.istore 5, 2) := by decide +kernel
theorem u130_4 : zEv sc 130 4 [l0, l1, l2, l3, l4, l5, l6, l7, l8] [.int x] h Q ↔ zEv sc 130 6 [l0, l1, l2, l3, l4, .int x, l6, l7, l8] [] h Q := zE_pure (q := (6, [l0, l1, l2, l3, l4, .int x, l6, l7, l8], [])) dz130_4 rfl rfl rfl
theorem dz130_6 : decode (z_code 130) 6 = .ok (.iconst 0, 1) := by decide +kernel
theorem u130_6 : zEv sc 130 6 [l0, l1, l2, l3, l4, l5, l6, l7, l8] [] h Q ↔ zEv sc 130 7 [l0, l1, l2, l3, l4, l5, l6, l7, l8] [.int 0] h Q := zE_iconst dz130_6 (by decide +kernel)
theorem dz130_7 : decode (z_code 130) 7 = .ok (.istore 6, 2) := by decide +kernel
theorem u130_7 : zEv sc 130 7 [l0, l1, l2, l3, l4, l5, l6, l7, l8] [.int x] h Q ↔ zEv sc 130 9 [l0, l1, l2, l3, l4, l5, .int x, l7, l8] [] h Q := zE_pure (q := (9, [l0, l1, l2, l3, l4, l5, .int x, l7, l8], [])) dz130_7 rfl rfl rfl
theorem dz130_9 : decode (z_code 130) 9 = .ok (.iload 6, 2) := by decide +kernel
theorem u130_9 : zEv sc 130 9 [l0, l1, l2, l3, l4, l5, .int x, l7, l8] [] h Q ↔ zEv sc 130 11 [l0, l1, l2, l3, l4, l5, .int x, l7, l8] [.int x] h Q := zE_pure (q := (11, [l0, l1, l2, l3, l4, l5, .int x, l7, l8], [.int x])) dz130_9 rfl rfl rfl
theorem dz130_11 : decode (z_code 130) 11 = .ok (.aload_n 0, 1) := by decide +kernel
theorem u130_11 : zEv sc 130 11 [.ref a, l1, l2, l3, l4, l5, l6, l7, l8] [t0] h Q ↔ zEv sc 130 12 [.ref a, l1, l2, l3, l4, l5, l6, l7, l8] [.ref a, t0] h Q := zE_pure (q := (12, [.ref a, l1, l2, l3, l4, l5, l6, l7, l8], [.ref a, t0])) dz130_11 rfl rfl rfl
theorem dz130_12 : decode (z_code 130) 12 = .ok (.getfield 25, 3) := by decide +kernel
theorem u130_12 (ho : zO a 10) : zEv sc 130 12 [l0, l1, l2, l3, l4, l5, l6, l7, l8] [.ref a, t0] (zst p iv) Q ↔ zRef (zRV p a 7) (fun j => zEv sc 130 15 [l0, l1, l2, l3, l4, l5, l6, l7, l8] [.ref j, t0] (zst p iv) Q) := zE_gfR dz130_12 (by decide +kernel : z_lk3 zFT (z_cls 130) 25 = some (10, 7, 0, 684)) (by decide +kernel) ho
theorem dz130_15 : decode (z_code 130) 15 = .ok (.iconst 1, 1) := by decide +kernel
theorem u130_15 : zEv sc 130 15 [l0, l1, l2, l3, l4, l5, l6, l7, l8] [t0, t1] h Q ↔ zEv sc 130 16 [l0, l1, l2, l3, l4, l5, l6, l7, l8] [.int 1, t0, t1] h Q := zE_iconst dz130_15 (by decide +kernel)
theorem dz130_16 : decode (z_code 130) 16 = .ok (.iload_n 1, 1) := by decide +kernel
theorem u130_16 : zEv sc 130 16 [l0, .int x, l2, l3, l4, l5, l6, l7, l8] [t0, t1, t2] h Q ↔ zEv sc 130 17 [l0, .int x, l2, l3, l4, l5, l6, l7, l8] [.int x, t0, t1, t2] h Q := zE_pure (q := (17, [l0, .int x, l2, l3, l4, l5, l6, l7, l8], [.int x, t0, t1, t2])) dz130_16 rfl rfl rfl
theorem dz130_17 : decode (z_code 130) 17 = .ok (.isub, 1) := by decide +kernel
theorem u130_17 : zEv sc 130 17 [l0, l1, l2, l3, l4, l5, l6, l7, l8] [.int x2, .int x1, t0, t1] h Q ↔ zEv sc 130 18 [l0, l1, l2, l3, l4, l5, l6, l7, l8] [.int (x1 - x2), t0, t1] h Q := zE_pure (q := (18, [l0, l1, l2, l3, l4, l5, l6, l7, l8], [.int (x1 - x2), t0, t1])) dz130_17 rfl rfl rfl
theorem dz130_18 : decode (z_code 130) 18 = .ok (.iaload, 1) := by decide +kernel
theorem u130_18 (ho : zO a 100) : zEv sc 130 18 [l0, l1, l2, l3, l4, l5, l6, l7, l8] [.int x, .ref a, t0] (zst p iv) Q ↔ (vp_in x (zLn a) ∧ zEv sc 130 19 [l0, l1, l2, l3, l4, l5, l6, l7, l8] [.int (iv a x.toNatClampNeg), t0] (zst p iv) Q) := zE_ald (Or.inl ⟨rfl, rfl⟩) dz130_18 ho
theorem dz130_19 : decode (z_code 130) 19 = .ok (.if_icmp .ge 79, 3) := by decide +kernel
theorem u130_19 : zEv sc 130 19 [l0, l1, l2, l3, l4, l5, l6, l7, l8] [.int x2, .int x1] h Q ↔ (if x2 ≤ x1 then zEv sc 130 98 [l0, l1, l2, l3, l4, l5, l6, l7, l8] [] h Q else zEv sc 130 22 [l0, l1, l2, l3, l4, l5, l6, l7, l8] [] h Q) := zE_icP (P := x2 ≤ x1) inferInstance 98 dz130_19 rfl rfl
theorem dz130_22 : decode (z_code 130) 22 = .ok (.iload 4, 2) := by decide +kernel
theorem u130_22 : zEv sc 130 22 [l0, l1, l2, l3, .int x, l5, l6, l7, l8] [] h Q ↔ zEv sc 130 24 [l0, l1, l2, l3, .int x, l5, l6, l7, l8] [.int x] h Q := zE_pure (q := (24, [l0, l1, l2, l3, .int x, l5, l6, l7, l8], [.int x])) dz130_22 rfl rfl rfl
theorem dz130_24 : decode (z_code 130) 24 = .ok (.ifCond .eq 74, 3) := by decide +kernel
theorem u130_24 : zEv sc 130 24 [l0, l1, l2, l3, l4, l5, l6, l7, l8] [.int x] h Q ↔ (if x = 0 then zEv sc 130 98 [l0, l1, l2, l3, l4, l5, l6, l7, l8] [] h Q else zEv sc 130 27 [l0, l1, l2, l3, l4, l5, l6, l7, l8] [] h Q) := zE_ifP (P := x = 0) inferInstance 98 dz130_24 rfl rfl
theorem dz130_27 : decode (z_code 130) 27 = .ok (.aload_n 0, 1) := by decide +kernel
theorem u130_27 : zEv sc 130 27 [.ref a, l1, l2, l3, l4, l5, l6, l7, l8] [] h Q ↔ zEv sc 130 28 [.ref a, l1, l2, l3, l4, l5, l6, l7, l8] [.ref a] h Q := zE_pure (q := (28, [.ref a, l1, l2, l3, l4, l5, l6, l7, l8], [.ref a])) dz130_27 rfl rfl rfl
theorem dz130_28 : decode (z_code 130) 28 = .ok (.getfield 22, 3) := by decide +kernel
theorem u130_28 (ho : zO a 10) : zEv sc 130 28 [l0, l1, l2, l3, l4, l5, l6, l7, l8] [.ref a] (zst p iv) Q ↔ zRef (zRV p a 6) (fun j => zEv sc 130 31 [l0, l1, l2, l3, l4, l5, l6, l7, l8] [.ref j] (zst p iv) Q) := zE_gfR dz130_28 (by decide +kernel : z_lk3 zFT (z_cls 130) 22 = some (10, 6, 0, 683)) (by decide +kernel) ho
theorem dz130_31 : decode (z_code 130) 31 = .ok (.sipush 170, 3) := by decide +kernel
theorem u130_31 : zEv sc 130 31 [l0, l1, l2, l3, l4, l5, l6, l7, l8] [t0] h Q ↔ zEv sc 130 34 [l0, l1, l2, l3, l4, l5, l6, l7, l8] [.int 170, t0] h Q := zE_sipush dz130_31 (by decide +kernel)
theorem dz130_34 : decode (z_code 130) 34 = .ok (.iconst 1, 1) := by decide +kernel
theorem u130_34 : zEv sc 130 34 [l0, l1, l2, l3, l4, l5, l6, l7, l8] [t0, t1] h Q ↔ zEv sc 130 35 [l0, l1, l2, l3, l4, l5, l6, l7, l8] [.int 1, t0, t1] h Q := zE_iconst dz130_34 (by decide +kernel)
theorem dz130_35 : decode (z_code 130) 35 = .ok (.iload_n 1, 1) := by decide +kernel
theorem u130_35 : zEv sc 130 35 [l0, .int x, l2, l3, l4, l5, l6, l7, l8] [t0, t1, t2] h Q ↔ zEv sc 130 36 [l0, .int x, l2, l3, l4, l5, l6, l7, l8] [.int x, t0, t1, t2] h Q := zE_pure (q := (36, [l0, .int x, l2, l3, l4, l5, l6, l7, l8], [.int x, t0, t1, t2])) dz130_35 rfl rfl rfl
theorem dz130_36 : decode (z_code 130) 36 = .ok (.isub, 1) := by decide +kernel
theorem u130_36 : zEv sc 130 36 [l0, l1, l2, l3, l4, l5, l6, l7, l8] [.int x2, .int x1, t0, t1] h Q ↔ zEv sc 130 37 [l0, l1, l2, l3, l4, l5, l6, l7, l8] [.int (x1 - x2), t0, t1] h Q := zE_pure (q := (37, [l0, l1, l2, l3, l4, l5, l6, l7, l8], [.int (x1 - x2), t0, t1])) dz130_36 rfl rfl rfl
theorem dz130_37 : decode (z_code 130) 37 = .ok (.imul, 1) := by decide +kernel
theorem u130_37 : zEv sc 130 37 [l0, l1, l2, l3, l4, l5, l6, l7, l8] [.int x2, .int x1, t0] h Q ↔ zEv sc 130 38 [l0, l1, l2, l3, l4, l5, l6, l7, l8] [.int (x1 * x2), t0] h Q := zE_pure (q := (38, [l0, l1, l2, l3, l4, l5, l6, l7, l8], [.int (x1 * x2), t0])) dz130_37 rfl rfl rfl
theorem dz130_38 : decode (z_code 130) 38 = .ok (.iload 6, 2) := by decide +kernel
theorem u130_38 : zEv sc 130 38 [l0, l1, l2, l3, l4, l5, .int x, l7, l8] [t0, t1] h Q ↔ zEv sc 130 40 [l0, l1, l2, l3, l4, l5, .int x, l7, l8] [.int x, t0, t1] h Q := zE_pure (q := (40, [l0, l1, l2, l3, l4, l5, .int x, l7, l8], [.int x, t0, t1])) dz130_38 rfl rfl rfl
theorem dz130_40 : decode (z_code 130) 40 = .ok (.iadd, 1) := by decide +kernel
theorem u130_40 : zEv sc 130 40 [l0, l1, l2, l3, l4, l5, l6, l7, l8] [.int x2, .int x1, t0] h Q ↔ zEv sc 130 41 [l0, l1, l2, l3, l4, l5, l6, l7, l8] [.int (x1 + x2), t0] h Q := zE_pure (q := (41, [l0, l1, l2, l3, l4, l5, l6, l7, l8], [.int (x1 + x2), t0])) dz130_40 rfl rfl rfl
theorem dz130_41 : decode (z_code 130) 41 = .ok (.iaload, 1) := by decide +kernel
theorem u130_41 (ho : zO a 100) : zEv sc 130 41 [l0, l1, l2, l3, l4, l5, l6, l7, l8] [.int x, .ref a] (zst p iv) Q ↔ (vp_in x (zLn a) ∧ zEv sc 130 42 [l0, l1, l2, l3, l4, l5, l6, l7, l8] [.int (iv a x.toNatClampNeg)] (zst p iv) Q) := zE_ald (Or.inl ⟨rfl, rfl⟩) dz130_41 ho
theorem dz130_42 : decode (z_code 130) 42 = .ok (.istore 7, 2) := by decide +kernel
theorem u130_42 : zEv sc 130 42 [l0, l1, l2, l3, l4, l5, l6, l7, l8] [.int x] h Q ↔ zEv sc 130 44 [l0, l1, l2, l3, l4, l5, l6, .int x, l8] [] h Q := zE_pure (q := (44, [l0, l1, l2, l3, l4, l5, l6, .int x, l8], [])) dz130_42 rfl rfl rfl
theorem dz130_44 : decode (z_code 130) 44 = .ok (.aload_n 0, 1) := by decide +kernel
theorem u130_44 : zEv sc 130 44 [.ref a, l1, l2, l3, l4, l5, l6, l7, l8] [] h Q ↔ zEv sc 130 45 [.ref a, l1, l2, l3, l4, l5, l6, l7, l8] [.ref a] h Q := zE_pure (q := (45, [.ref a, l1, l2, l3, l4, l5, l6, l7, l8], [.ref a])) dz130_44 rfl rfl rfl
theorem dz130_45 : decode (z_code 130) 45 = .ok (.iload_n 1, 1) := by decide +kernel
theorem u130_45 : zEv sc 130 45 [l0, .int x, l2, l3, l4, l5, l6, l7, l8] [t0] h Q ↔ zEv sc 130 46 [l0, .int x, l2, l3, l4, l5, l6, l7, l8] [.int x, t0] h Q := zE_pure (q := (46, [l0, .int x, l2, l3, l4, l5, l6, l7, l8], [.int x, t0])) dz130_45 rfl rfl rfl
theorem dz130_46 : decode (z_code 130) 46 = .ok (.iload_n 2, 1) := by decide +kernel
theorem u130_46 : zEv sc 130 46 [l0, l1, .int x, l3, l4, l5, l6, l7, l8] [t0, t1] h Q ↔ zEv sc 130 47 [l0, l1, .int x, l3, l4, l5, l6, l7, l8] [.int x, t0, t1] h Q := zE_pure (q := (47, [l0, l1, .int x, l3, l4, l5, l6, l7, l8], [.int x, t0, t1])) dz130_46 rfl rfl rfl
theorem dz130_47 : decode (z_code 130) 47 = .ok (.iload 7, 2) := by decide +kernel
theorem u130_47 : zEv sc 130 47 [l0, l1, l2, l3, l4, l5, l6, .int x, l8] [t0, t1, t2] h Q ↔ zEv sc 130 49 [l0, l1, l2, l3, l4, l5, l6, .int x, l8] [.int x, t0, t1, t2] h Q := zE_pure (q := (49, [l0, l1, l2, l3, l4, l5, l6, .int x, l8], [.int x, t0, t1, t2])) dz130_47 rfl rfl rfl
theorem dz130_49 : decode (z_code 130) 49 = .ok (.invokevirtual 78, 3) := by decide +kernel
theorem u130_49 (ho : zO a 10) : zEv sc 130 49 [l0, l1, l2, l3, l4, l5, l6, l7, l8] [.int z2, .int z1, .int z0, .ref a] (zst p iv) Q ↔ zEv sc 99 0 [.ref a, .int z0, .int z1, .int z2] [] (zst p iv) (fun r h9 => zEv sc 130 52 [l0, l1, l2, l3, l4, l5, l6, l7, l8] (r.toList ++ []) h9 Q) := zE_call (kd := 0) (na := 4) (nr := 0) (as := [.ref a, .int z0, .int z1, .int z2]) (rest := []) (Or.inl ⟨rfl, rfl⟩) dz130_49 (by decide +kernel : z_lk2 zCT (z_cls 130) 78 = some (99, 0, 854)) (fun z => by cases z) rfl rfl rfl (by decide +kernel) rfl (Or.inr (zE_rc ho))
theorem dz130_52 : decode (z_code 130) 52 = .ok (.aload_n 0, 1) := by decide +kernel
theorem u130_52 : zEv sc 130 52 [.ref a, l1, l2, l3, l4, l5, l6, l7, l8] [t0] h Q ↔ zEv sc 130 53 [.ref a, l1, l2, l3, l4, l5, l6, l7, l8] [.ref a, t0] h Q := zE_pure (q := (53, [.ref a, l1, l2, l3, l4, l5, l6, l7, l8], [.ref a, t0])) dz130_52 rfl rfl rfl
theorem dz130_53 : decode (z_code 130) 53 = .ok (.iload_n 1, 1) := by decide +kernel
theorem u130_53 : zEv sc 130 53 [l0, .int x, l2, l3, l4, l5, l6, l7, l8] [t0, t1] h Q ↔ zEv sc 130 54 [l0, .int x, l2, l3, l4, l5, l6, l7, l8] [.int x, t0, t1] h Q := zE_pure (q := (54, [l0, .int x, l2, l3, l4, l5, l6, l7, l8], [.int x, t0, t1])) dz130_53 rfl rfl rfl
theorem dz130_54 : decode (z_code 130) 54 = .ok (.iload_n 3, 1) := by decide +kernel
theorem u130_54 : zEv sc 130 54 [l0, l1, l2, .int x, l4, l5, l6, l7, l8] [t0, t1, t2] h Q ↔ zEv sc 130 55 [l0, l1, l2, .int x, l4, l5, l6, l7, l8] [.int x, t0, t1, t2] h Q := zE_pure (q := (55, [l0, l1, l2, .int x, l4, l5, l6, l7, l8], [.int x, t0, t1, t2])) dz130_54 rfl rfl rfl
theorem dz130_55 : decode (z_code 130) 55 = .ok (.iload 7, 2) := by decide +kernel
theorem u130_55 : zEv sc 130 55 [l0, l1, l2, l3, l4, l5, l6, .int x, l8] [t0, t1, t2, t3] h Q ↔ zEv sc 130 57 [l0, l1, l2, l3, l4, l5, l6, .int x, l8] [.int x, t0, t1, t2, t3] h Q := zE_pure (q := (57, [l0, l1, l2, l3, l4, l5, l6, .int x, l8], [.int x, t0, t1, t2, t3])) dz130_55 rfl rfl rfl
theorem dz130_57 : decode (z_code 130) 57 = .ok (.invokevirtual 78, 3) := by decide +kernel
theorem u130_57 (ho : zO a 10) : zEv sc 130 57 [l0, l1, l2, l3, l4, l5, l6, l7, l8] [.int z2, .int z1, .int z0, .ref a, t0] (zst p iv) Q ↔ zEv sc 99 0 [.ref a, .int z0, .int z1, .int z2] [] (zst p iv) (fun r h9 => zEv sc 130 60 [l0, l1, l2, l3, l4, l5, l6, l7, l8] (r.toList ++ [t0]) h9 Q) := zE_call (kd := 0) (na := 4) (nr := 1) (as := [.ref a, .int z0, .int z1, .int z2]) (rest := [t0]) (Or.inl ⟨rfl, rfl⟩) dz130_57 (by decide +kernel : z_lk2 zCT (z_cls 130) 78 = some (99, 0, 854)) (fun z => by cases z) rfl rfl rfl (by decide +kernel) rfl (Or.inr (zE_rc ho))
theorem dz130_60 : decode (z_code 130) 60 = .ok (.isub, 1) := by decide +kernel
theorem u130_60 : zEv sc 130 60 [l0, l1, l2, l3, l4, l5, l6, l7, l8] [.int x2, .int x1] h Q ↔ zEv sc 130 61 [l0, l1, l2, l3, l4, l5, l6, l7, l8] [.int (x1 - x2)] h Q := zE_pure (q := (61, [l0, l1, l2, l3, l4, l5, l6, l7, l8], [.int (x1 - x2)])) dz130_60 rfl rfl rfl
theorem dz130_61 : decode (z_code 130) 61 = .ok (.istore 8, 2) := by decide +kernel
theorem u130_61 : zEv sc 130 61 [l0, l1, l2, l3, l4, l5, l6, l7, l8] [.int x] h Q ↔ zEv sc 130 63 [l0, l1, l2, l3, l4, l5, l6, l7, .int x] [] h Q := zE_pure (q := (63, [l0, l1, l2, l3, l4, l5, l6, l7, .int x], [])) dz130_61 rfl rfl rfl
theorem dz130_63 : decode (z_code 130) 63 = .ok (.iload 8, 2) := by decide +kernel
theorem u130_63 : zEv sc 130 63 [l0, l1, l2, l3, l4, l5, l6, l7, .int x] [] h Q ↔ zEv sc 130 65 [l0, l1, l2, l3, l4, l5, l6, l7, .int x] [.int x] h Q := zE_pure (q := (65, [l0, l1, l2, l3, l4, l5, l6, l7, .int x], [.int x])) dz130_63 rfl rfl rfl
theorem dz130_65 : decode (z_code 130) 65 = .ok (.ifCond .lt 7, 3) := by decide +kernel
theorem u130_65 : zEv sc 130 65 [l0, l1, l2, l3, l4, l5, l6, l7, l8] [.int x] h Q ↔ (if x < 0 then zEv sc 130 72 [l0, l1, l2, l3, l4, l5, l6, l7, l8] [] h Q else zEv sc 130 68 [l0, l1, l2, l3, l4, l5, l6, l7, l8] [] h Q) := zE_ifP (P := x < 0) inferInstance 72 dz130_65 rfl rfl
theorem dz130_68 : decode (z_code 130) 68 = .ok (.iconst 1, 1) := by decide +kernel
theorem u130_68 : zEv sc 130 68 [l0, l1, l2, l3, l4, l5, l6, l7, l8] [] h Q ↔ zEv sc 130 69 [l0, l1, l2, l3, l4, l5, l6, l7, l8] [.int 1] h Q := zE_iconst dz130_68 (by decide +kernel)
theorem dz130_69 : decode (z_code 130) 69 = .ok (.goto 4, 3) := by decide +kernel
theorem u130_69 : zEv sc 130 69 [l0, l1, l2, l3, l4, l5, l6, l7, l8] [t0] h Q ↔ zEv sc 130 73 [l0, l1, l2, l3, l4, l5, l6, l7, l8] [t0] h Q := zE_go 73 dz130_69 rfl
theorem dz130_73 : decode (z_code 130) 73 = .ok (.istore 4, 2) := by decide +kernel
theorem u130_73 : zEv sc 130 73 [l0, l1, l2, l3, l4, l5, l6, l7, l8] [.int x] h Q ↔ zEv sc 130 75 [l0, l1, l2, l3, .int x, l5, l6, l7, l8] [] h Q := zE_pure (q := (75, [l0, l1, l2, l3, .int x, l5, l6, l7, l8], [])) dz130_73 rfl rfl rfl
theorem dz130_75 : decode (z_code 130) 75 = .ok (.iload 5, 2) := by decide +kernel
theorem u130_75 : zEv sc 130 75 [l0, l1, l2, l3, l4, .int x, l6, l7, l8] [] h Q ↔ zEv sc 130 77 [l0, l1, l2, l3, l4, .int x, l6, l7, l8] [.int x] h Q := zE_pure (q := (77, [l0, l1, l2, l3, l4, .int x, l6, l7, l8], [.int x])) dz130_75 rfl rfl rfl
theorem dz130_77 : decode (z_code 130) 77 = .ok (.ifCond .ne 8, 3) := by decide +kernel
theorem u130_77 : zEv sc 130 77 [l0, l1, l2, l3, l4, l5, l6, l7, l8] [.int x] h Q ↔ (if ¬ x = 0 then zEv sc 130 85 [l0, l1, l2, l3, l4, l5, l6, l7, l8] [] h Q else zEv sc 130 80 [l0, l1, l2, l3, l4, l5, l6, l7, l8] [] h Q) := zE_ifP (P := ¬ x = 0) inferInstance 85 dz130_77 rfl rfl
theorem dz130_80 : decode (z_code 130) 80 = .ok (.iload 8, 2) := by decide +kernel
theorem u130_80 : zEv sc 130 80 [l0, l1, l2, l3, l4, l5, l6, l7, .int x] [] h Q ↔ zEv sc 130 82 [l0, l1, l2, l3, l4, l5, l6, l7, .int x] [.int x] h Q := zE_pure (q := (82, [l0, l1, l2, l3, l4, l5, l6, l7, .int x], [.int x])) dz130_80 rfl rfl rfl
theorem dz130_82 : decode (z_code 130) 82 = .ok (.ifCond .le 7, 3) := by decide +kernel
theorem u130_82 : zEv sc 130 82 [l0, l1, l2, l3, l4, l5, l6, l7, l8] [.int x] h Q ↔ (if x ≤ 0 then zEv sc 130 89 [l0, l1, l2, l3, l4, l5, l6, l7, l8] [] h Q else zEv sc 130 85 [l0, l1, l2, l3, l4, l5, l6, l7, l8] [] h Q) := zE_ifP (P := x ≤ 0) inferInstance 89 dz130_82 rfl rfl
theorem dz130_89 : decode (z_code 130) 89 = .ok (.iconst 0, 1) := by decide +kernel
theorem u130_89 : zEv sc 130 89 [l0, l1, l2, l3, l4, l5, l6, l7, l8] [] h Q ↔ zEv sc 130 90 [l0, l1, l2, l3, l4, l5, l6, l7, l8] [.int 0] h Q := zE_iconst dz130_89 (by decide +kernel)
theorem dz130_90 : decode (z_code 130) 90 = .ok (.istore 5, 2) := by decide +kernel
theorem u130_90 : zEv sc 130 90 [l0, l1, l2, l3, l4, l5, l6, l7, l8] [.int x] h Q ↔ zEv sc 130 92 [l0, l1, l2, l3, l4, .int x, l6, l7, l8] [] h Q := zE_pure (q := (92, [l0, l1, l2, l3, l4, .int x, l6, l7, l8], [])) dz130_90 rfl rfl rfl
theorem dz130_92 : decode (z_code 130) 92 = .ok (.iinc 6 1, 3) := by decide +kernel
theorem u130_92 : zEv sc 130 92 [l0, l1, l2, l3, l4, l5, .int x, l7, l8] [] h Q ↔ zEv sc 130 95 [l0, l1, l2, l3, l4, l5, .int (x + 1), l7, l8] [] h Q := zE_iinc (ls2 := [l0, l1, l2, l3, l4, l5, .int (x + 1), l7, l8]) dz130_92 (by decide +kernel) rfl (by simp) rfl
theorem dz130_95 : decode (z_code 130) 95 = .ok (.goto (-86), 3) := by decide +kernel
theorem u130_95 : zEv sc 130 95 [l0, l1, l2, l3, l4, l5, l6, l7, l8] [] h Q ↔ zEv sc 130 9 [l0, l1, l2, l3, l4, l5, l6, l7, l8] [] h Q := zE_go 9 dz130_95 rfl
theorem dz130_85 : decode (z_code 130) 85 = .ok (.iconst 1, 1) := by decide +kernel
theorem u130_85 : zEv sc 130 85 [l0, l1, l2, l3, l4, l5, l6, l7, l8] [] h Q ↔ zEv sc 130 86 [l0, l1, l2, l3, l4, l5, l6, l7, l8] [.int 1] h Q := zE_iconst dz130_85 (by decide +kernel)
theorem dz130_86 : decode (z_code 130) 86 = .ok (.goto 4, 3) := by decide +kernel
theorem u130_86 : zEv sc 130 86 [l0, l1, l2, l3, l4, l5, l6, l7, l8] [t0] h Q ↔ zEv sc 130 90 [l0, l1, l2, l3, l4, l5, l6, l7, l8] [t0] h Q := zE_go 90 dz130_86 rfl
theorem dz130_72 : decode (z_code 130) 72 = .ok (.iconst 0, 1) := by decide +kernel
theorem u130_72 : zEv sc 130 72 [l0, l1, l2, l3, l4, l5, l6, l7, l8] [] h Q ↔ zEv sc 130 73 [l0, l1, l2, l3, l4, l5, l6, l7, l8] [.int 0] h Q := zE_iconst dz130_72 (by decide +kernel)
theorem dz130_98 : decode (z_code 130) 98 = .ok (.iload 4, 2) := by decide +kernel
theorem u130_98 : zEv sc 130 98 [l0, l1, l2, l3, .int x, l5, l6, l7, l8] [] h Q ↔ zEv sc 130 100 [l0, l1, l2, l3, .int x, l5, l6, l7, l8] [.int x] h Q := zE_pure (q := (100, [l0, l1, l2, l3, .int x, l5, l6, l7, l8], [.int x])) dz130_98 rfl rfl rfl
theorem dz130_100 : decode (z_code 130) 100 = .ok (.ifCond .eq 12, 3) := by decide +kernel
theorem u130_100 : zEv sc 130 100 [l0, l1, l2, l3, l4, l5, l6, l7, l8] [.int x] h Q ↔ (if x = 0 then zEv sc 130 112 [l0, l1, l2, l3, l4, l5, l6, l7, l8] [] h Q else zEv sc 130 103 [l0, l1, l2, l3, l4, l5, l6, l7, l8] [] h Q) := zE_ifP (P := x = 0) inferInstance 112 dz130_100 rfl rfl
theorem dz130_103 : decode (z_code 130) 103 = .ok (.iload 5, 2) := by decide +kernel
theorem u130_103 : zEv sc 130 103 [l0, l1, l2, l3, l4, .int x, l6, l7, l8] [] h Q ↔ zEv sc 130 105 [l0, l1, l2, l3, l4, .int x, l6, l7, l8] [.int x] h Q := zE_pure (q := (105, [l0, l1, l2, l3, l4, .int x, l6, l7, l8], [.int x])) dz130_103 rfl rfl rfl
theorem dz130_105 : decode (z_code 130) 105 = .ok (.ifCond .eq 7, 3) := by decide +kernel
theorem u130_105 : zEv sc 130 105 [l0, l1, l2, l3, l4, l5, l6, l7, l8] [.int x] h Q ↔ (if x = 0 then zEv sc 130 112 [l0, l1, l2, l3, l4, l5, l6, l7, l8] [] h Q else zEv sc 130 108 [l0, l1, l2, l3, l4, l5, l6, l7, l8] [] h Q) := zE_ifP (P := x = 0) inferInstance 112 dz130_105 rfl rfl
theorem dz130_108 : decode (z_code 130) 108 = .ok (.iconst 1, 1) := by decide +kernel
theorem u130_108 : zEv sc 130 108 [l0, l1, l2, l3, l4, l5, l6, l7, l8] [] h Q ↔ zEv sc 130 109 [l0, l1, l2, l3, l4, l5, l6, l7, l8] [.int 1] h Q := zE_iconst dz130_108 (by decide +kernel)
theorem dz130_109 : decode (z_code 130) 109 = .ok (.goto 4, 3) := by decide +kernel
theorem u130_109 : zEv sc 130 109 [l0, l1, l2, l3, l4, l5, l6, l7, l8] [t0] h Q ↔ zEv sc 130 113 [l0, l1, l2, l3, l4, l5, l6, l7, l8] [t0] h Q := zE_go 113 dz130_109 rfl
theorem dz130_113 : decode (z_code 130) 113 = .ok (.ireturn, 1) := by decide +kernel
theorem u130_113 : zEv sc 130 113 [l0, l1, l2, l3, l4, l5, l6, l7, l8] [.int x] h Q ↔ ((x = 0 ∨ x = 1) ∧ Q (some (.int x)) h) := zE_rz dz130_113 (by decide +kernel)
theorem dz130_112 : decode (z_code 130) 112 = .ok (.iconst 0, 1) := by decide +kernel
theorem u130_112 : zEv sc 130 112 [l0, l1, l2, l3, l4, l5, l6, l7, l8] [] h Q ↔ zEv sc 130 113 [l0, l1, l2, l3, l4, l5, l6, l7, l8] [.int 0] h Q := zE_iconst dz130_112 (by decide +kernel)
/-! method 131: FieldMixturesModel.better(II)I -/
theorem dz131_0 : decode (z_code 131) 0 = .ok (.aload_n 0, 1) := by decide +kernel
theorem u131_0 : zEv sc 131 0 [.ref a, l1, l2, l3] [] h Q ↔ zEv sc 131 1 [.ref a, l1, l2, l3] [.ref a] h Q := zE_pure (q := (1, [.ref a, l1, l2, l3], [.ref a])) dz131_0 rfl rfl rfl
theorem dz131_1 : decode (z_code 131) 1 = .ok (.iload_n 1, 1) := by decide +kernel
theorem u131_1 : zEv sc 131 1 [l0, .int x, l2, l3] [t0] h Q ↔ zEv sc 131 2 [l0, .int x, l2, l3] [.int x, t0] h Q := zE_pure (q := (2, [l0, .int x, l2, l3], [.int x, t0])) dz131_1 rfl rfl rfl
theorem dz131_2 : decode (z_code 131) 2 = .ok (.iload_n 2, 1) := by decide +kernel
theorem u131_2 : zEv sc 131 2 [l0, l1, .int x, l3] [t0, t1] h Q ↔ zEv sc 131 3 [l0, l1, .int x, l3] [.int x, t0, t1] h Q := zE_pure (q := (3, [l0, l1, .int x, l3], [.int x, t0, t1])) dz131_2 rfl rfl rfl
theorem dz131_3 : decode (z_code 131) 3 = .ok (.invokevirtual 130, 3) := by decide +kernel
theorem u131_3 (ho : zO a 10) : zEv sc 131 3 [l0, l1, l2, l3] [.int z1, .int z0, .ref a] (zst p iv) Q ↔ zEv sc 124 0 [.ref a, .int z0, .int z1] [] (zst p iv) (fun r h9 => zEv sc 131 6 [l0, l1, l2, l3] (r.toList ++ []) h9 Q) := zE_call (kd := 0) (na := 3) (nr := 0) (as := [.ref a, .int z0, .int z1]) (rest := []) (Or.inl ⟨rfl, rfl⟩) dz131_3 (by decide +kernel : z_lk2 zCT (z_cls 131) 130 = some (124, 0, 808)) (fun z => by cases z) rfl rfl rfl (by decide +kernel) rfl (Or.inr (zE_rc ho))
theorem dz131_6 : decode (z_code 131) 6 = .ok (.ifCond .ne 6, 3) := by decide +kernel
theorem u131_6 : zEv sc 131 6 [l0, l1, l2, l3] [.int x] h Q ↔ (if ¬ x = 0 then zEv sc 131 12 [l0, l1, l2, l3] [] h Q else zEv sc 131 9 [l0, l1, l2, l3] [] h Q) := zE_ifP (P := ¬ x = 0) inferInstance 12 dz131_6 rfl rfl
theorem dz131_9 : decode (z_code 131) 9 = .ok (.ldc 31, 2) := by decide +kernel
theorem u131_9 : zEv sc 131 9 [l0, l1, l2, l3] [] h Q ↔ zEv sc 131 11 [l0, l1, l2, l3] [.int (-1000001)] h Q := zE_ldc (by decide +kernel : z_lkK zKT (z_cls 131) 31 = some ((-1000001), 744)) dz131_9
theorem dz131_11 : decode (z_code 131) 11 = .ok (.ireturn, 1) := by decide +kernel
theorem u131_11 : zEv sc 131 11 [l0, l1, l2, l3] [.int x] h Q ↔ Q (some (.int x)) h := zE_ri dz131_11 (by decide +kernel)
theorem dz131_12 : decode (z_code 131) 12 = .ok (.aload_n 0, 1) := by decide +kernel
theorem u131_12 : zEv sc 131 12 [.ref a, l1, l2, l3] [] h Q ↔ zEv sc 131 13 [.ref a, l1, l2, l3] [.ref a] h Q := zE_pure (q := (13, [.ref a, l1, l2, l3], [.ref a])) dz131_12 rfl rfl rfl
theorem dz131_13 : decode (z_code 131) 13 = .ok (.iconst 0, 1) := by decide +kernel
theorem u131_13 : zEv sc 131 13 [l0, l1, l2, l3] [t0] h Q ↔ zEv sc 131 14 [l0, l1, l2, l3] [.int 0, t0] h Q := zE_iconst dz131_13 (by decide +kernel)
theorem dz131_14 : decode (z_code 131) 14 = .ok (.invokevirtual 89, 3) := by decide +kernel
theorem u131_14 (ho : zO a 10) : zEv sc 131 14 [l0, l1, l2, l3] [.int z0, .ref a] (zst p iv) Q ↔ zEv sc 97 0 [.ref a, .int z0, .null, .null] [] (zst p iv) (fun r h9 => zEv sc 131 17 [l0, l1, l2, l3] (r.toList ++ []) h9 Q) := zE_call (kd := 0) (na := 2) (nr := 0) (as := [.ref a, .int z0]) (rest := []) (Or.inl ⟨rfl, rfl⟩) dz131_14 (by decide +kernel : z_lk2 zCT (z_cls 131) 89 = some (97, 0, 846)) (fun z => by cases z) rfl rfl rfl (by decide +kernel) rfl (Or.inr (zE_rc ho))
theorem dz131_17 : decode (z_code 131) 17 = .ok (.aload_n 0, 1) := by decide +kernel
theorem u131_17 : zEv sc 131 17 [.ref a, l1, l2, l3] [] h Q ↔ zEv sc 131 18 [.ref a, l1, l2, l3] [.ref a] h Q := zE_pure (q := (18, [.ref a, l1, l2, l3], [.ref a])) dz131_17 rfl rfl rfl
theorem dz131_18 : decode (z_code 131) 18 = .ok (.iconst 1, 1) := by decide +kernel
theorem u131_18 : zEv sc 131 18 [l0, l1, l2, l3] [t0] h Q ↔ zEv sc 131 19 [l0, l1, l2, l3] [.int 1, t0] h Q := zE_iconst dz131_18 (by decide +kernel)
theorem dz131_19 : decode (z_code 131) 19 = .ok (.invokevirtual 89, 3) := by decide +kernel
theorem u131_19 (ho : zO a 10) : zEv sc 131 19 [l0, l1, l2, l3] [.int z0, .ref a] (zst p iv) Q ↔ zEv sc 97 0 [.ref a, .int z0, .null, .null] [] (zst p iv) (fun r h9 => zEv sc 131 22 [l0, l1, l2, l3] (r.toList ++ []) h9 Q) := zE_call (kd := 0) (na := 2) (nr := 0) (as := [.ref a, .int z0]) (rest := []) (Or.inl ⟨rfl, rfl⟩) dz131_19 (by decide +kernel : z_lk2 zCT (z_cls 131) 89 = some (97, 0, 846)) (fun z => by cases z) rfl rfl rfl (by decide +kernel) rfl (Or.inr (zE_rc ho))
theorem dz131_22 : decode (z_code 131) 22 = .ok (.iconst 0, 1) := by decide +kernel
theorem u131_22 : zEv sc 131 22 [l0, l1, l2, l3] [] h Q ↔ zEv sc 131 23 [l0, l1, l2, l3] [.int 0] h Q := zE_iconst dz131_22 (by decide +kernel)
theorem dz131_23 : decode (z_code 131) 23 = .ok (.istore_n 3, 1) := by decide +kernel
theorem u131_23 : zEv sc 131 23 [l0, l1, l2, l3] [.int x] h Q ↔ zEv sc 131 24 [l0, l1, l2, .int x] [] h Q := zE_pure (q := (24, [l0, l1, l2, .int x], [])) dz131_23 rfl rfl rfl
theorem dz131_24 : decode (z_code 131) 24 = .ok (.iload_n 3, 1) := by decide +kernel
theorem u131_24 : zEv sc 131 24 [l0, l1, l2, .int x] [] h Q ↔ zEv sc 131 25 [l0, l1, l2, .int x] [.int x] h Q := zE_pure (q := (25, [l0, l1, l2, .int x], [.int x])) dz131_24 rfl rfl rfl
theorem dz131_25 : decode (z_code 131) 25 = .ok (.aload_n 0, 1) := by decide +kernel
theorem u131_25 : zEv sc 131 25 [.ref a, l1, l2, l3] [t0] h Q ↔ zEv sc 131 26 [.ref a, l1, l2, l3] [.ref a, t0] h Q := zE_pure (q := (26, [.ref a, l1, l2, l3], [.ref a, t0])) dz131_25 rfl rfl rfl
theorem dz131_26 : decode (z_code 131) 26 = .ok (.getfield 25, 3) := by decide +kernel
theorem u131_26 (ho : zO a 10) : zEv sc 131 26 [l0, l1, l2, l3] [.ref a, t0] (zst p iv) Q ↔ zRef (zRV p a 7) (fun j => zEv sc 131 29 [l0, l1, l2, l3] [.ref j, t0] (zst p iv) Q) := zE_gfR dz131_26 (by decide +kernel : z_lk3 zFT (z_cls 131) 25 = some (10, 7, 0, 684)) (by decide +kernel) ho
theorem dz131_29 : decode (z_code 131) 29 = .ok (.iload_n 1, 1) := by decide +kernel
theorem u131_29 : zEv sc 131 29 [l0, .int x, l2, l3] [t0, t1] h Q ↔ zEv sc 131 30 [l0, .int x, l2, l3] [.int x, t0, t1] h Q := zE_pure (q := (30, [l0, .int x, l2, l3], [.int x, t0, t1])) dz131_29 rfl rfl rfl
theorem dz131_30 : decode (z_code 131) 30 = .ok (.iaload, 1) := by decide +kernel
theorem u131_30 (ho : zO a 100) : zEv sc 131 30 [l0, l1, l2, l3] [.int x, .ref a, t0] (zst p iv) Q ↔ (vp_in x (zLn a) ∧ zEv sc 131 31 [l0, l1, l2, l3] [.int (iv a x.toNatClampNeg), t0] (zst p iv) Q) := zE_ald (Or.inl ⟨rfl, rfl⟩) dz131_30 ho
theorem dz131_31 : decode (z_code 131) 31 = .ok (.if_icmp .ge 43, 3) := by decide +kernel
theorem u131_31 : zEv sc 131 31 [l0, l1, l2, l3] [.int x2, .int x1] h Q ↔ (if x2 ≤ x1 then zEv sc 131 74 [l0, l1, l2, l3] [] h Q else zEv sc 131 34 [l0, l1, l2, l3] [] h Q) := zE_icP (P := x2 ≤ x1) inferInstance 74 dz131_31 rfl rfl
theorem dz131_34 : decode (z_code 131) 34 = .ok (.aload_n 0, 1) := by decide +kernel
theorem u131_34 : zEv sc 131 34 [.ref a, l1, l2, l3] [] h Q ↔ zEv sc 131 35 [.ref a, l1, l2, l3] [.ref a] h Q := zE_pure (q := (35, [.ref a, l1, l2, l3], [.ref a])) dz131_34 rfl rfl rfl
theorem dz131_35 : decode (z_code 131) 35 = .ok (.iload_n 1, 1) := by decide +kernel
theorem u131_35 : zEv sc 131 35 [l0, .int x, l2, l3] [t0] h Q ↔ zEv sc 131 36 [l0, .int x, l2, l3] [.int x, t0] h Q := zE_pure (q := (36, [l0, .int x, l2, l3], [.int x, t0])) dz131_35 rfl rfl rfl
theorem dz131_36 : decode (z_code 131) 36 = .ok (.aload_n 0, 1) := by decide +kernel
theorem u131_36 : zEv sc 131 36 [.ref a, l1, l2, l3] [t0, t1] h Q ↔ zEv sc 131 37 [.ref a, l1, l2, l3] [.ref a, t0, t1] h Q := zE_pure (q := (37, [.ref a, l1, l2, l3], [.ref a, t0, t1])) dz131_36 rfl rfl rfl
theorem dz131_37 : decode (z_code 131) 37 = .ok (.getfield 22, 3) := by decide +kernel
theorem u131_37 (ho : zO a 10) : zEv sc 131 37 [l0, l1, l2, l3] [.ref a, t0, t1] (zst p iv) Q ↔ zRef (zRV p a 6) (fun j => zEv sc 131 40 [l0, l1, l2, l3] [.ref j, t0, t1] (zst p iv) Q) := zE_gfR dz131_37 (by decide +kernel : z_lk3 zFT (z_cls 131) 22 = some (10, 6, 0, 683)) (by decide +kernel) ho
theorem dz131_40 : decode (z_code 131) 40 = .ok (.sipush 170, 3) := by decide +kernel
theorem u131_40 : zEv sc 131 40 [l0, l1, l2, l3] [t0, t1, t2] h Q ↔ zEv sc 131 43 [l0, l1, l2, l3] [.int 170, t0, t1, t2] h Q := zE_sipush dz131_40 (by decide +kernel)
theorem dz131_43 : decode (z_code 131) 43 = .ok (.iload_n 1, 1) := by decide +kernel
theorem u131_43 : zEv sc 131 43 [l0, .int x, l2, l3] [t0, t1, t2, t3] h Q ↔ zEv sc 131 44 [l0, .int x, l2, l3] [.int x, t0, t1, t2, t3] h Q := zE_pure (q := (44, [l0, .int x, l2, l3], [.int x, t0, t1, t2, t3])) dz131_43 rfl rfl rfl
theorem dz131_44 : decode (z_code 131) 44 = .ok (.imul, 1) := by decide +kernel
theorem u131_44 : zEv sc 131 44 [l0, l1, l2, l3] [.int x2, .int x1, t0, t1, t2] h Q ↔ zEv sc 131 45 [l0, l1, l2, l3] [.int (x1 * x2), t0, t1, t2] h Q := zE_pure (q := (45, [l0, l1, l2, l3], [.int (x1 * x2), t0, t1, t2])) dz131_44 rfl rfl rfl
theorem dz131_45 : decode (z_code 131) 45 = .ok (.iload_n 3, 1) := by decide +kernel
theorem u131_45 : zEv sc 131 45 [l0, l1, l2, .int x] [t0, t1, t2, t3] h Q ↔ zEv sc 131 46 [l0, l1, l2, .int x] [.int x, t0, t1, t2, t3] h Q := zE_pure (q := (46, [l0, l1, l2, .int x], [.int x, t0, t1, t2, t3])) dz131_45 rfl rfl rfl
theorem dz131_46 : decode (z_code 131) 46 = .ok (.iadd, 1) := by decide +kernel
theorem u131_46 : zEv sc 131 46 [l0, l1, l2, l3] [.int x2, .int x1, t0, t1, t2] h Q ↔ zEv sc 131 47 [l0, l1, l2, l3] [.int (x1 + x2), t0, t1, t2] h Q := zE_pure (q := (47, [l0, l1, l2, l3], [.int (x1 + x2), t0, t1, t2])) dz131_46 rfl rfl rfl
theorem dz131_47 : decode (z_code 131) 47 = .ok (.iaload, 1) := by decide +kernel
theorem u131_47 (ho : zO a 100) : zEv sc 131 47 [l0, l1, l2, l3] [.int x, .ref a, t0, t1] (zst p iv) Q ↔ (vp_in x (zLn a) ∧ zEv sc 131 48 [l0, l1, l2, l3] [.int (iv a x.toNatClampNeg), t0, t1] (zst p iv) Q) := zE_ald (Or.inl ⟨rfl, rfl⟩) dz131_47 ho
theorem dz131_48 : decode (z_code 131) 48 = .ok (.iload_n 2, 1) := by decide +kernel
theorem u131_48 : zEv sc 131 48 [l0, l1, .int x, l3] [t0, t1, t2] h Q ↔ zEv sc 131 49 [l0, l1, .int x, l3] [.int x, t0, t1, t2] h Q := zE_pure (q := (49, [l0, l1, .int x, l3], [.int x, t0, t1, t2])) dz131_48 rfl rfl rfl
theorem dz131_49 : decode (z_code 131) 49 = .ok (.invokevirtual 137, 3) := by decide +kernel
theorem u131_49 (ho : zO a 10) : zEv sc 131 49 [l0, l1, l2, l3] [.int z2, .int z1, .int z0, .ref a] (zst p iv) Q ↔ zEv sc 130 0 [.ref a, .int z0, .int z1, .int z2, .null, .null, .null, .null, .null] [] (zst p iv) (fun r h9 => zEv sc 131 52 [l0, l1, l2, l3] (r.toList ++ []) h9 Q) := zE_call (kd := 0) (na := 4) (nr := 0) (as := [.ref a, .int z0, .int z1, .int z2]) (rest := []) (Or.inl ⟨rfl, rfl⟩) dz131_49 (by decide +kernel : z_lk2 zCT (z_cls 131) 137 = some (130, 0, 879)) (fun z => by cases z) rfl rfl rfl (by decide +kernel) rfl (Or.inr (zE_rc ho))
theorem dz131_52 : decode (z_code 131) 52 = .ok (.ifCond .eq 16, 3) := by decide +kernel
theorem u131_52 : zEv sc 131 52 [l0, l1, l2, l3] [.int x] h Q ↔ (if x = 0 then zEv sc 131 68 [l0, l1, l2, l3] [] h Q else zEv sc 131 55 [l0, l1, l2, l3] [] h Q) := zE_ifP (P := x = 0) inferInstance 68 dz131_52 rfl rfl
theorem dz131_55 : decode (z_code 131) 55 = .ok (.aload_n 0, 1) := by decide +kernel
theorem u131_55 : zEv sc 131 55 [.ref a, l1, l2, l3] [] h Q ↔ zEv sc 131 56 [.ref a, l1, l2, l3] [.ref a] h Q := zE_pure (q := (56, [.ref a, l1, l2, l3], [.ref a])) dz131_55 rfl rfl rfl
theorem dz131_56 : decode (z_code 131) 56 = .ok (.getfield 22, 3) := by decide +kernel
theorem u131_56 (ho : zO a 10) : zEv sc 131 56 [l0, l1, l2, l3] [.ref a] (zst p iv) Q ↔ zRef (zRV p a 6) (fun j => zEv sc 131 59 [l0, l1, l2, l3] [.ref j] (zst p iv) Q) := zE_gfR dz131_56 (by decide +kernel : z_lk3 zFT (z_cls 131) 22 = some (10, 6, 0, 683)) (by decide +kernel) ho
theorem dz131_59 : decode (z_code 131) 59 = .ok (.sipush 170, 3) := by decide +kernel
theorem u131_59 : zEv sc 131 59 [l0, l1, l2, l3] [t0] h Q ↔ zEv sc 131 62 [l0, l1, l2, l3] [.int 170, t0] h Q := zE_sipush dz131_59 (by decide +kernel)
theorem dz131_62 : decode (z_code 131) 62 = .ok (.iload_n 1, 1) := by decide +kernel
theorem u131_62 : zEv sc 131 62 [l0, .int x, l2, l3] [t0, t1] h Q ↔ zEv sc 131 63 [l0, .int x, l2, l3] [.int x, t0, t1] h Q := zE_pure (q := (63, [l0, .int x, l2, l3], [.int x, t0, t1])) dz131_62 rfl rfl rfl
theorem dz131_63 : decode (z_code 131) 63 = .ok (.imul, 1) := by decide +kernel
theorem u131_63 : zEv sc 131 63 [l0, l1, l2, l3] [.int x2, .int x1, t0] h Q ↔ zEv sc 131 64 [l0, l1, l2, l3] [.int (x1 * x2), t0] h Q := zE_pure (q := (64, [l0, l1, l2, l3], [.int (x1 * x2), t0])) dz131_63 rfl rfl rfl
theorem dz131_64 : decode (z_code 131) 64 = .ok (.iload_n 3, 1) := by decide +kernel
theorem u131_64 : zEv sc 131 64 [l0, l1, l2, .int x] [t0, t1] h Q ↔ zEv sc 131 65 [l0, l1, l2, .int x] [.int x, t0, t1] h Q := zE_pure (q := (65, [l0, l1, l2, .int x], [.int x, t0, t1])) dz131_64 rfl rfl rfl
theorem dz131_65 : decode (z_code 131) 65 = .ok (.iadd, 1) := by decide +kernel
theorem u131_65 : zEv sc 131 65 [l0, l1, l2, l3] [.int x2, .int x1, t0] h Q ↔ zEv sc 131 66 [l0, l1, l2, l3] [.int (x1 + x2), t0] h Q := zE_pure (q := (66, [l0, l1, l2, l3], [.int (x1 + x2), t0])) dz131_65 rfl rfl rfl
theorem dz131_66 : decode (z_code 131) 66 = .ok (.iaload, 1) := by decide +kernel
theorem u131_66 (ho : zO a 100) : zEv sc 131 66 [l0, l1, l2, l3] [.int x, .ref a] (zst p iv) Q ↔ (vp_in x (zLn a) ∧ zEv sc 131 67 [l0, l1, l2, l3] [.int (iv a x.toNatClampNeg)] (zst p iv) Q) := zE_ald (Or.inl ⟨rfl, rfl⟩) dz131_66 ho
theorem dz131_67 : decode (z_code 131) 67 = .ok (.ireturn, 1) := by decide +kernel
theorem u131_67 : zEv sc 131 67 [l0, l1, l2, l3] [.int x] h Q ↔ Q (some (.int x)) h := zE_ri dz131_67 (by decide +kernel)
theorem dz131_68 : decode (z_code 131) 68 = .ok (.iinc 3 1, 3) := by decide +kernel
theorem u131_68 : zEv sc 131 68 [l0, l1, l2, .int x] [] h Q ↔ zEv sc 131 71 [l0, l1, l2, .int (x + 1)] [] h Q := zE_iinc (ls2 := [l0, l1, l2, .int (x + 1)]) dz131_68 (by decide +kernel) rfl (by simp) rfl
theorem dz131_71 : decode (z_code 131) 71 = .ok (.goto (-47), 3) := by decide +kernel
theorem u131_71 : zEv sc 131 71 [l0, l1, l2, l3] [] h Q ↔ zEv sc 131 24 [l0, l1, l2, l3] [] h Q := zE_go 24 dz131_71 rfl
theorem dz131_74 : decode (z_code 131) 74 = .ok (.ldc 136, 2) := by decide +kernel
theorem u131_74 : zEv sc 131 74 [l0, l1, l2, l3] [] h Q ↔ zEv sc 131 76 [l0, l1, l2, l3] [.int (-1000004)] h Q := zE_ldc (by decide +kernel : z_lkK zKT (z_cls 131) 136 = some ((-1000004), 870)) dz131_74
theorem dz131_76 : decode (z_code 131) 76 = .ok (.ireturn, 1) := by decide +kernel
theorem u131_76 : zEv sc 131 76 [l0, l1, l2, l3] [.int x] h Q ↔ Q (some (.int x)) h := zE_ri dz131_76 (by decide +kernel)
end ZU3
