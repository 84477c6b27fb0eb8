/-! ===== rows of the methods, printed by wip/whole/gen2.py ===== -/
section ZU1
variable {sc : Nat × (Nat → Int32)} {h : zA} {Q : Option Value → zA → Prop} {p : Nat → Option Nat} {iv : Nat → Nat → Int32} {l0 l1 l2 l3 l4 l5 l6 l7 l8 l9 l10 l11 t0 t1 t2 t3 t4 t5 t6 v1 v2 : Value} {x x1 x2 z0 z1 z2 z3 : Int32} {j1 j2 : Int64} {a b0 b1 b2 : Nat}
/-! method 41: FieldMixtures$Side.dropWhatIsNotAllowed(I)V -/
theorem dz41_0 : decode (z_code 41) 0 = .ok (.aload_n 0, 1) := by decide +kernel
theorem u41_0 : zEv sc 41 0 [.ref a, l1, l2] [] h Q ↔ zEv sc 41 1 [.ref a, l1, l2] [.ref a] h Q := zE_pure (q := (1, [.ref a, l1, l2], [.ref a])) dz41_0 rfl rfl rfl
theorem dz41_1 : decode (z_code 41) 1 = .ok (.getfield 22, 3) := by decide +kernel
theorem u41_1 (ho : zO a 6) : zEv sc 41 1 [l0, l1, l2] [.ref a] (zst p iv) Q ↔ zRef (zRV p a 2) (fun j => zEv sc 41 4 [l0, l1, l2] [.ref j] (zst p iv) Q) := zE_gfR dz41_1 (by decide +kernel : z_lk3 zFT (z_cls 41) 22 = some (6, 2, 0, 110)) (by decide +kernel) ho
theorem dz41_4 : decode (z_code 41) 4 = .ok (.getfield 30, 3) := by decide +kernel
theorem u41_4 (ho : zO a 4) : zEv sc 41 4 [l0, l1, l2] [.ref a] (zst p iv) Q ↔ zEv sc 41 7 [l0, l1, l2] [.int (iv a 0)] (zst p iv) Q := zE_gfI dz41_4 (by decide +kernel : z_lk3 zFT (z_cls 41) 30 = some (4, 0, 1, 89)) (by decide +kernel) ho
theorem dz41_7 : decode (z_code 41) 7 = .ok (.iconst 1, 1) := by decide +kernel
theorem u41_7 : zEv sc 41 7 [l0, l1, l2] [t0] h Q ↔ zEv sc 41 8 [l0, l1, l2] [.int 1, t0] h Q := zE_iconst dz41_7 (by decide +kernel)
theorem dz41_8 : decode (z_code 41) 8 = .ok (.isub, 1) := by decide +kernel
theorem u41_8 : zEv sc 41 8 [l0, l1, l2] [.int x2, .int x1] h Q ↔ zEv sc 41 9 [l0, l1, l2] [.int (x1 - x2)] h Q := zE_pure (q := (9, [l0, l1, l2], [.int (x1 - x2)])) dz41_8 rfl rfl rfl
theorem dz41_9 : decode (z_code 41) 9 = .ok (.istore_n 2, 1) := by decide +kernel
theorem u41_9 : zEv sc 41 9 [l0, l1, l2] [.int x] h Q ↔ zEv sc 41 10 [l0, l1, .int x] [] h Q := zE_pure (q := (10, [l0, l1, .int x], [])) dz41_9 rfl rfl rfl
theorem dz41_10 : decode (z_code 41) 10 = .ok (.iload_n 2, 1) := by decide +kernel
theorem u41_10 : zEv sc 41 10 [l0, l1, .int x] [] h Q ↔ zEv sc 41 11 [l0, l1, .int x] [.int x] h Q := zE_pure (q := (11, [l0, l1, .int x], [.int x])) dz41_10 rfl rfl rfl
theorem dz41_11 : decode (z_code 41) 11 = .ok (.ifCond .lt 42, 3) := by decide +kernel
theorem u41_11 : zEv sc 41 11 [l0, l1, l2] [.int x] h Q ↔ (if x < 0 then zEv sc 41 53 [l0, l1, l2] [] h Q else zEv sc 41 14 [l0, l1, l2] [] h Q) := zE_ifP (P := x < 0) inferInstance 53 dz41_11 rfl rfl
theorem dz41_14 : decode (z_code 41) 14 = .ok (.aload_n 0, 1) := by decide +kernel
theorem u41_14 : zEv sc 41 14 [.ref a, l1, l2] [] h Q ↔ zEv sc 41 15 [.ref a, l1, l2] [.ref a] h Q := zE_pure (q := (15, [.ref a, l1, l2], [.ref a])) dz41_14 rfl rfl rfl
theorem dz41_15 : decode (z_code 41) 15 = .ok (.aload_n 0, 1) := by decide +kernel
theorem u41_15 : zEv sc 41 15 [.ref a, l1, l2] [t0] h Q ↔ zEv sc 41 16 [.ref a, l1, l2] [.ref a, t0] h Q := zE_pure (q := (16, [.ref a, l1, l2], [.ref a, t0])) dz41_15 rfl rfl rfl
theorem dz41_16 : decode (z_code 41) 16 = .ok (.getfield 22, 3) := by decide +kernel
theorem u41_16 (ho : zO a 6) : zEv sc 41 16 [l0, l1, l2] [.ref a, t0] (zst p iv) Q ↔ zRef (zRV p a 2) (fun j => zEv sc 41 19 [l0, l1, l2] [.ref j, t0] (zst p iv) Q) := zE_gfR dz41_16 (by decide +kernel : z_lk3 zFT (z_cls 41) 22 = some (6, 2, 0, 110)) (by decide +kernel) ho
theorem dz41_19 : decode (z_code 41) 19 = .ok (.getfield 33, 3) := by decide +kernel
theorem u41_19 (ho : zO a 4) : zEv sc 41 19 [l0, l1, l2] [.ref a, t0] (zst p iv) Q ↔ zRef (zRV p a 1) (fun j => zEv sc 41 22 [l0, l1, l2] [.ref j, t0] (zst p iv) Q) := zE_gfR dz41_19 (by decide +kernel : z_lk3 zFT (z_cls 41) 33 = some (4, 1, 1, 92)) (by decide +kernel) ho
theorem dz41_22 : decode (z_code 41) 22 = .ok (.iload_n 2, 1) := by decide +kernel
theorem u41_22 : zEv sc 41 22 [l0, l1, .int x] [t0, t1] h Q ↔ zEv sc 41 23 [l0, l1, .int x] [.int x, t0, t1] h Q := zE_pure (q := (23, [l0, l1, .int x], [.int x, t0, t1])) dz41_22 rfl rfl rfl
theorem dz41_23 : decode (z_code 41) 23 = .ok (.iaload, 1) := by decide +kernel
theorem u41_23 (ho : zO a 100) : zEv sc 41 23 [l0, l1, l2] [.int x, .ref a, t0] (zst p iv) Q ↔ (vp_in x (zLn a) ∧ zEv sc 41 24 [l0, l1, l2] [.int (iv a x.toNatClampNeg), t0] (zst p iv) Q) := zE_ald (Or.inl ⟨rfl, rfl⟩) dz41_23 ho
theorem dz41_24 : decode (z_code 41) 24 = .ok (.iload_n 1, 1) := by decide +kernel
theorem u41_24 : zEv sc 41 24 [l0, .int x, l2] [t0, t1] h Q ↔ zEv sc 41 25 [l0, .int x, l2] [.int x, t0, t1] h Q := zE_pure (q := (25, [l0, .int x, l2], [.int x, t0, t1])) dz41_24 rfl rfl rfl
theorem dz41_25 : decode (z_code 41) 25 = .ok (.invokevirtual 36, 3) := by decide +kernel
theorem u41_25 (ho : zO a 6) : zEv sc 41 25 [l0, l1, l2] [.int z1, .int z0, .ref a] (zst p iv) Q ↔ zEv sc 1 0 [.ref a, .int z0, .int z1, .null, .null, .null, .null] [] (zst p iv) (fun r h9 => zEv sc 41 28 [l0, l1, l2] (r.toList ++ []) h9 Q) := zE_call (kd := 0) (na := 3) (nr := 0) (as := [.ref a, .int z0, .int z1]) (rest := []) (Or.inl ⟨rfl, rfl⟩) dz41_25 (by decide +kernel : z_lk2 zCT (z_cls 41) 36 = some (1, 0, 554)) (fun z => by cases z) rfl rfl rfl (by decide +kernel) rfl rfl (Or.inr (zE_rc ho))
theorem dz41_28 : decode (z_code 41) 28 = .ok (.ifCond .ne 19, 3) := by decide +kernel
theorem u41_28 : zEv sc 41 28 [l0, l1, l2] [.int x] h Q ↔ (if ¬ x = 0 then zEv sc 41 47 [l0, l1, l2] [] h Q else zEv sc 41 31 [l0, l1, l2] [] h Q) := zE_ifP (P := ¬ x = 0) inferInstance 47 dz41_28 rfl rfl
theorem dz41_31 : decode (z_code 41) 31 = .ok (.aload_n 0, 1) := by decide +kernel
theorem u41_31 : zEv sc 41 31 [.ref a, l1, l2] [] h Q ↔ zEv sc 41 32 [.ref a, l1, l2] [.ref a] h Q := zE_pure (q := (32, [.ref a, l1, l2], [.ref a])) dz41_31 rfl rfl rfl
theorem dz41_32 : decode (z_code 41) 32 = .ok (.getfield 22, 3) := by decide +kernel
theorem u41_32 (ho : zO a 6) : zEv sc 41 32 [l0, l1, l2] [.ref a] (zst p iv) Q ↔ zRef (zRV p a 2) (fun j => zEv sc 41 35 [l0, l1, l2] [.ref j] (zst p iv) Q) := zE_gfR dz41_32 (by decide +kernel : z_lk3 zFT (z_cls 41) 22 = some (6, 2, 0, 110)) (by decide +kernel) ho
theorem dz41_35 : decode (z_code 41) 35 = .ok (.aload_n 0, 1) := by decide +kernel
theorem u41_35 : zEv sc 41 35 [.ref a, l1, l2] [t0] h Q ↔ zEv sc 41 36 [.ref a, l1, l2] [.ref a, t0] h Q := zE_pure (q := (36, [.ref a, l1, l2], [.ref a, t0])) dz41_35 rfl rfl rfl
theorem dz41_36 : decode (z_code 41) 36 = .ok (.getfield 22, 3) := by decide +kernel
theorem u41_36 (ho : zO a 6) : zEv sc 41 36 [l0, l1, l2] [.ref a, t0] (zst p iv) Q ↔ zRef (zRV p a 2) (fun j => zEv sc 41 39 [l0, l1, l2] [.ref j, t0] (zst p iv) Q) := zE_gfR dz41_36 (by decide +kernel : z_lk3 zFT (z_cls 41) 22 = some (6, 2, 0, 110)) (by decide +kernel) ho
theorem dz41_39 : decode (z_code 41) 39 = .ok (.getfield 33, 3) := by decide +kernel
theorem u41_39 (ho : zO a 4) : zEv sc 41 39 [l0, l1, l2] [.ref a, t0] (zst p iv) Q ↔ zRef (zRV p a 1) (fun j => zEv sc 41 42 [l0, l1, l2] [.ref j, t0] (zst p iv) Q) := zE_gfR dz41_39 (by decide +kernel : z_lk3 zFT (z_cls 41) 33 = some (4, 1, 1, 92)) (by decide +kernel) ho
theorem dz41_42 : decode (z_code 41) 42 = .ok (.iload_n 2, 1) := by decide +kernel
theorem u41_42 : zEv sc 41 42 [l0, l1, .int x] [t0, t1] h Q ↔ zEv sc 41 43 [l0, l1, .int x] [.int x, t0, t1] h Q := zE_pure (q := (43, [l0, l1, .int x], [.int x, t0, t1])) dz41_42 rfl rfl rfl
theorem dz41_43 : decode (z_code 41) 43 = .ok (.iaload, 1) := by decide +kernel
theorem u41_43 (ho : zO a 100) : zEv sc 41 43 [l0, l1, l2] [.int x, .ref a, t0] (zst p iv) Q ↔ (vp_in x (zLn a) ∧ zEv sc 41 44 [l0, l1, l2] [.int (iv a x.toNatClampNeg), t0] (zst p iv) Q) := zE_ald (Or.inl ⟨rfl, rfl⟩) dz41_43 ho
theorem dz41_44 : decode (z_code 41) 44 = .ok (.invokevirtual 40, 3) := by decide +kernel
theorem u41_44 (ho : zO a 4) : zEv sc 41 44 [l0, l1, l2] [.int z0, .ref a] (zst p iv) Q ↔ zEv sc 34 0 [.ref a, .int z0, .null, .null] [] (zst p iv) (fun r h9 => zEv sc 41 47 [l0, l1, l2] (r.toList ++ []) h9 Q) := zE_call (kd := 0) (na := 2) (nr := 0) (as := [.ref a, .int z0]) (rest := []) (Or.inl ⟨rfl, rfl⟩) dz41_44 (by decide +kernel : z_lk2 zCT (z_cls 41) 40 = some (34, 1, 555)) (fun z => by cases z) rfl rfl rfl (by decide +kernel) rfl rfl (Or.inr (zE_rc ho))
theorem dz41_47 : decode (z_code 41) 47 = .ok (.iinc 2 (-1), 3) := by decide +kernel
theorem u41_47 : zEv sc 41 47 [l0, l1, .int x] [] h Q ↔ zEv sc 41 50 [l0, l1, .int (x + (-1))] [] h Q := zE_iinc (ls2 := [l0, l1, .int (x + (-1))]) dz41_47 (by decide +kernel) rfl (by simp) rfl
theorem dz41_50 : decode (z_code 41) 50 = .ok (.goto (-40), 3) := by decide +kernel
theorem u41_50 : zEv sc 41 50 [l0, l1, l2] [] h Q ↔ zEv sc 41 10 [l0, l1, l2] [] h Q := zE_go 10 dz41_50 rfl
theorem dz41_53 : decode (z_code 41) 53 = .ok (.return_, 1) := by decide +kernel
theorem u41_53 : zEv sc 41 53 [l0, l1, l2] [] h Q ↔ Q none h := zE_rv dz41_53 (by decide +kernel)
/-! method 43: FieldMixtures$Text.append(I)V -/
theorem dz43_0 : decode (z_code 43) 0 = .ok (.aload_n 0, 1) := by decide +kernel
theorem u43_0 : zEv sc 43 0 [.ref a, l1] [] h Q ↔ zEv sc 43 1 [.ref a, l1] [.ref a] h Q := zE_pure (q := (1, [.ref a, l1], [.ref a])) dz43_0 rfl rfl rfl
theorem dz43_1 : decode (z_code 43) 1 = .ok (.getfield 9, 3) := by decide +kernel
theorem u43_1 (ho : zO a 7) : zEv sc 43 1 [l0, l1] [.ref a] (zst p iv) Q ↔ zEv sc 43 4 [l0, l1] [.int (iv a 0)] (zst p iv) Q := zE_gfI dz43_1 (by decide +kernel : z_lk3 zFT (z_cls 43) 9 = some (7, 0, 0, 228)) (by decide +kernel) ho
theorem dz43_4 : decode (z_code 43) 4 = .ok (.bipush 80, 2) := by decide +kernel
theorem u43_4 : zEv sc 43 4 [l0, l1] [t0] h Q ↔ zEv sc 43 6 [l0, l1] [.int 80, t0] h Q := zE_bipush dz43_4 (by decide +kernel)
theorem dz43_6 : decode (z_code 43) 6 = .ok (.if_icmp .ge 24, 3) := by decide +kernel
theorem u43_6 : zEv sc 43 6 [l0, l1] [.int x2, .int x1] h Q ↔ (if x2 ≤ x1 then zEv sc 43 30 [l0, l1] [] h Q else zEv sc 43 9 [l0, l1] [] h Q) := zE_icP (P := x2 ≤ x1) inferInstance 30 dz43_6 rfl rfl
theorem dz43_9 : decode (z_code 43) 9 = .ok (.aload_n 0, 1) := by decide +kernel
theorem u43_9 : zEv sc 43 9 [.ref a, l1] [] h Q ↔ zEv sc 43 10 [.ref a, l1] [.ref a] h Q := zE_pure (q := (10, [.ref a, l1], [.ref a])) dz43_9 rfl rfl rfl
theorem dz43_10 : decode (z_code 43) 10 = .ok (.getfield 15, 3) := by decide +kernel
theorem u43_10 (ho : zO a 7) : zEv sc 43 10 [l0, l1] [.ref a] (zst p iv) Q ↔ zRef (zRV p a 1) (fun j => zEv sc 43 13 [l0, l1] [.ref j] (zst p iv) Q) := zE_gfR dz43_10 (by decide +kernel : z_lk3 zFT (z_cls 43) 15 = some (7, 1, 0, 231)) (by decide +kernel) ho
theorem dz43_13 : decode (z_code 43) 13 = .ok (.aload_n 0, 1) := by decide +kernel
theorem u43_13 : zEv sc 43 13 [.ref a, l1] [t0] h Q ↔ zEv sc 43 14 [.ref a, l1] [.ref a, t0] h Q := zE_pure (q := (14, [.ref a, l1], [.ref a, t0])) dz43_13 rfl rfl rfl
theorem dz43_14 : decode (z_code 43) 14 = .ok (.getfield 9, 3) := by decide +kernel
theorem u43_14 (ho : zO a 7) : zEv sc 43 14 [l0, l1] [.ref a, t0] (zst p iv) Q ↔ zEv sc 43 17 [l0, l1] [.int (iv a 0), t0] (zst p iv) Q := zE_gfI dz43_14 (by decide +kernel : z_lk3 zFT (z_cls 43) 9 = some (7, 0, 0, 228)) (by decide +kernel) ho
theorem dz43_17 : decode (z_code 43) 17 = .ok (.iload_n 1, 1) := by decide +kernel
theorem u43_17 : zEv sc 43 17 [l0, .int x] [t0, t1] h Q ↔ zEv sc 43 18 [l0, .int x] [.int x, t0, t1] h Q := zE_pure (q := (18, [l0, .int x], [.int x, t0, t1])) dz43_17 rfl rfl rfl
theorem dz43_18 : decode (z_code 43) 18 = .ok (.i2c, 1) := by decide +kernel
theorem u43_18 : zEv sc 43 18 [l0, l1] [.int x, t0, t1] h Q ↔ zEv sc 43 19 [l0, l1] [.int (x.toUInt32 % 65536).toInt32, t0, t1] h Q := zE_pure (q := (19, [l0, l1], [.int (x.toUInt32 % 65536).toInt32, t0, t1])) dz43_18 rfl rfl rfl
theorem dz43_19 : decode (z_code 43) 19 = .ok (.castore, 1) := by decide +kernel
theorem u43_19 (ho : zO a 101) : zEv sc 43 19 [l0, l1] [.int x2, .int x1, .ref a] (zst p iv) Q ↔ (vp_in x1 (zLn a) ∧ zEv sc 43 20 [l0, l1] [] (zst p (w2 iv a x1.toNatClampNeg (vp_nar .char x2))) Q) := zE_ast (Or.inr ⟨rfl, rfl, rfl⟩) dz43_19 ho
theorem dz43_20 : decode (z_code 43) 20 = .ok (.aload_n 0, 1) := by decide +kernel
theorem u43_20 : zEv sc 43 20 [.ref a, l1] [] h Q ↔ zEv sc 43 21 [.ref a, l1] [.ref a] h Q := zE_pure (q := (21, [.ref a, l1], [.ref a])) dz43_20 rfl rfl rfl
theorem dz43_21 : decode (z_code 43) 21 = .ok (.dup, 1) := by decide +kernel
theorem u43_21 : zEv sc 43 21 [l0, l1] [.ref a] h Q ↔ zEv sc 43 22 [l0, l1] [.ref a, .ref a] h Q := zE_pure (q := (22, [l0, l1], [.ref a, .ref a])) dz43_21 rfl rfl rfl
theorem dz43_22 : decode (z_code 43) 22 = .ok (.getfield 9, 3) := by decide +kernel
theorem u43_22 (ho : zO a 7) : zEv sc 43 22 [l0, l1] [.ref a, t0] (zst p iv) Q ↔ zEv sc 43 25 [l0, l1] [.int (iv a 0), t0] (zst p iv) Q := zE_gfI dz43_22 (by decide +kernel : z_lk3 zFT (z_cls 43) 9 = some (7, 0, 0, 228)) (by decide +kernel) ho
theorem dz43_25 : decode (z_code 43) 25 = .ok (.iconst 1, 1) := by decide +kernel
theorem u43_25 : zEv sc 43 25 [l0, l1] [t0, t1] h Q ↔ zEv sc 43 26 [l0, l1] [.int 1, t0, t1] h Q := zE_iconst dz43_25 (by decide +kernel)
theorem dz43_26 : decode (z_code 43) 26 = .ok (.iadd, 1) := by decide +kernel
theorem u43_26 : zEv sc 43 26 [l0, l1] [.int x2, .int x1, t0] h Q ↔ zEv sc 43 27 [l0, l1] [.int (x1 + x2), t0] h Q := zE_pure (q := (27, [l0, l1], [.int (x1 + x2), t0])) dz43_26 rfl rfl rfl
theorem dz43_27 : decode (z_code 43) 27 = .ok (.putfield 9, 3) := by decide +kernel
theorem u43_27 (ho : zO a 7) : zEv sc 43 27 [l0, l1] [.int x, .ref a] (zst p iv) Q ↔ zEv sc 43 30 [l0, l1] [] (zst p (w2 iv a 0 x)) Q := zE_pfI dz43_27 (by decide +kernel : z_lk3 zFT (z_cls 43) 9 = some (7, 0, 0, 228)) (by decide +kernel) (by decide +kernel) (by decide +kernel) ho
theorem dz43_30 : decode (z_code 43) 30 = .ok (.return_, 1) := by decide +kernel
theorem u43_30 : zEv sc 43 30 [l0, l1] [] h Q ↔ Q none h := zE_rv dz43_30 (by decide +kernel)
/-! method 44: FieldMixtures$Text.clear()V -/
theorem dz44_0 : decode (z_code 44) 0 = .ok (.aload_n 0, 1) := by decide +kernel
theorem u44_0 : zEv sc 44 0 [.ref a] [] h Q ↔ zEv sc 44 1 [.ref a] [.ref a] h Q := zE_pure (q := (1, [.ref a], [.ref a])) dz44_0 rfl rfl rfl
theorem dz44_1 : decode (z_code 44) 1 = .ok (.iconst 0, 1) := by decide +kernel
theorem u44_1 : zEv sc 44 1 [l0] [t0] h Q ↔ zEv sc 44 2 [l0] [.int 0, t0] h Q := zE_iconst dz44_1 (by decide +kernel)
theorem dz44_2 : decode (z_code 44) 2 = .ok (.putfield 9, 3) := by decide +kernel
theorem u44_2 (ho : zO a 7) : zEv sc 44 2 [l0] [.int x, .ref a] (zst p iv) Q ↔ zEv sc 44 5 [l0] [] (zst p (w2 iv a 0 x)) Q := zE_pfI dz44_2 (by decide +kernel : z_lk3 zFT (z_cls 44) 9 = some (7, 0, 0, 228)) (by decide +kernel) (by decide +kernel) (by decide +kernel) ho
theorem dz44_5 : decode (z_code 44) 5 = .ok (.return_, 1) := by decide +kernel
theorem u44_5 : zEv sc 44 5 [l0] [] h Q ↔ Q none h := zE_rv dz44_5 (by decide +kernel)
/-! method 45: FieldMixtures$Text.signAt(I)I -/
theorem dz45_0 : decode (z_code 45) 0 = .ok (.iload_n 1, 1) := by decide +kernel
theorem u45_0 : zEv sc 45 0 [l0, .int x] [] h Q ↔ zEv sc 45 1 [l0, .int x] [.int x] h Q := zE_pure (q := (1, [l0, .int x], [.int x])) dz45_0 rfl rfl rfl
theorem dz45_1 : decode (z_code 45) 1 = .ok (.ifCond .lt 20, 3) := by decide +kernel
theorem u45_1 : zEv sc 45 1 [l0, l1] [.int x] h Q ↔ (if x < 0 then zEv sc 45 21 [l0, l1] [] h Q else zEv sc 45 4 [l0, l1] [] h Q) := zE_ifP (P := x < 0) inferInstance 21 dz45_1 rfl rfl
theorem dz45_4 : decode (z_code 45) 4 = .ok (.iload_n 1, 1) := by decide +kernel
theorem u45_4 : zEv sc 45 4 [l0, .int x] [] h Q ↔ zEv sc 45 5 [l0, .int x] [.int x] h Q := zE_pure (q := (5, [l0, .int x], [.int x])) dz45_4 rfl rfl rfl
theorem dz45_5 : decode (z_code 45) 5 = .ok (.aload_n 0, 1) := by decide +kernel
theorem u45_5 : zEv sc 45 5 [.ref a, l1] [t0] h Q ↔ zEv sc 45 6 [.ref a, l1] [.ref a, t0] h Q := zE_pure (q := (6, [.ref a, l1], [.ref a, t0])) dz45_5 rfl rfl rfl
theorem dz45_6 : decode (z_code 45) 6 = .ok (.getfield 9, 3) := by decide +kernel
theorem u45_6 (ho : zO a 7) : zEv sc 45 6 [l0, l1] [.ref a, t0] (zst p iv) Q ↔ zEv sc 45 9 [l0, l1] [.int (iv a 0), t0] (zst p iv) Q := zE_gfI dz45_6 (by decide +kernel : z_lk3 zFT (z_cls 45) 9 = some (7, 0, 0, 228)) (by decide +kernel) ho
theorem dz45_9 : decode (z_code 45) 9 = .ok (.if_icmp .ge 12, 3) := by decide +kernel
theorem u45_9 : zEv sc 45 9 [l0, l1] [.int x2, .int x1] h Q ↔ (if x2 ≤ x1 then zEv sc 45 21 [l0, l1] [] h Q else zEv sc 45 12 [l0, l1] [] h Q) := zE_icP (P := x2 ≤ x1) inferInstance 21 dz45_9 rfl rfl
theorem dz45_12 : decode (z_code 45) 12 = .ok (.aload_n 0, 1) := by decide +kernel
theorem u45_12 : zEv sc 45 12 [.ref a, l1] [] h Q ↔ zEv sc 45 13 [.ref a, l1] [.ref a] h Q := zE_pure (q := (13, [.ref a, l1], [.ref a])) dz45_12 rfl rfl rfl
theorem dz45_13 : decode (z_code 45) 13 = .ok (.getfield 15, 3) := by decide +kernel
theorem u45_13 (ho : zO a 7) : zEv sc 45 13 [l0, l1] [.ref a] (zst p iv) Q ↔ zRef (zRV p a 1) (fun j => zEv sc 45 16 [l0, l1] [.ref j] (zst p iv) Q) := zE_gfR dz45_13 (by decide +kernel : z_lk3 zFT (z_cls 45) 15 = some (7, 1, 0, 231)) (by decide +kernel) ho
theorem dz45_16 : decode (z_code 45) 16 = .ok (.iload_n 1, 1) := by decide +kernel
theorem u45_16 : zEv sc 45 16 [l0, .int x] [t0] h Q ↔ zEv sc 45 17 [l0, .int x] [.int x, t0] h Q := zE_pure (q := (17, [l0, .int x], [.int x, t0])) dz45_16 rfl rfl rfl
theorem dz45_17 : decode (z_code 45) 17 = .ok (.caload, 1) := by decide +kernel
theorem u45_17 (ho : zO a 101) : zEv sc 45 17 [l0, l1] [.int x, .ref a] (zst p iv) Q ↔ (vp_in x (zLn a) ∧ zEv sc 45 18 [l0, l1] [.int (iv a x.toNatClampNeg)] (zst p iv) Q) := zE_ald (Or.inr ⟨rfl, rfl⟩) dz45_17 ho
theorem dz45_18 : decode (z_code 45) 18 = .ok (.goto 4, 3) := by decide +kernel
theorem u45_18 : zEv sc 45 18 [l0, l1] [t0] h Q ↔ zEv sc 45 22 [l0, l1] [t0] h Q := zE_go 22 dz45_18 rfl
theorem dz45_22 : decode (z_code 45) 22 = .ok (.ireturn, 1) := by decide +kernel
theorem u45_22 : zEv sc 45 22 [l0, l1] [.int x] h Q ↔ Q (some (.int x)) h := zE_ri dz45_22 (by decide +kernel)
theorem dz45_21 : decode (z_code 45) 21 = .ok (.iconst 0, 1) := by decide +kernel
theorem u45_21 : zEv sc 45 21 [l0, l1] [] h Q ↔ zEv sc 45 22 [l0, l1] [.int 0] h Q := zE_iconst dz45_21 (by decide +kernel)
/-! method 47: FieldMixtures.isPlayer(I)Z -/
theorem dz47_0 : decode (z_code 47) 0 = .ok (.iload_n 0, 1) := by decide +kernel
theorem u47_0 : zEv sc 47 0 [.int x] [] h Q ↔ zEv sc 47 1 [.int x] [.int x] h Q := zE_pure (q := (1, [.int x], [.int x])) dz47_0 rfl rfl rfl
theorem dz47_1 : decode (z_code 47) 1 = .ok (.iconst 0, 1) := by decide +kernel
theorem u47_1 : zEv sc 47 1 [l0] [t0] h Q ↔ zEv sc 47 2 [l0] [.int 0, t0] h Q := zE_iconst dz47_1 (by decide +kernel)
theorem dz47_2 : decode (z_code 47) 2 = .ok (.iconst 1, 1) := by decide +kernel
theorem u47_2 : zEv sc 47 2 [l0] [t0, t1] h Q ↔ zEv sc 47 3 [l0] [.int 1, t0, t1] h Q := zE_iconst dz47_2 (by decide +kernel)
theorem dz47_3 : decode (z_code 47) 3 = .ok (.invokestatic 67, 3) := by decide +kernel
theorem u47_3 : zEv sc 47 3 [l0] [.int z2, .int z1, .int z0] h Q ↔ zEv sc 15 0 [.int z0, .int z1, .int z2] [] h (fun r h9 => zEv sc 47 6 [l0] (r.toList ++ []) h9 Q) := zE_call (kd := 1) (na := 3) (nr := 0) (as := [.int z0, .int z1, .int z2]) (rest := []) (Or.inr ⟨rfl, rfl⟩) dz47_3 (by decide +kernel : z_lk2 zCT (z_cls 47) 67 = some (15, 0, 304)) (fun _ => ⟨by decide +kernel, by decide +kernel⟩) rfl rfl rfl (by decide +kernel) rfl rfl (Or.inl rfl)
theorem dz47_6 : decode (z_code 47) 6 = .ok (.ireturn, 1) := by decide +kernel
theorem u47_6 : zEv sc 47 6 [l0] [.int x] h Q ↔ ((x = 0 ∨ x = 1) ∧ Q (some (.int x)) h) := zE_rz dz47_6 (by decide +kernel)
/-! method 48: FieldMixtures$TextReader.readSign(LFieldMixtures$Text;C)Z -/
theorem dz48_0 : decode (z_code 48) 0 = .ok (.aload_n 1, 1) := by decide +kernel
theorem u48_0 : zEv sc 48 0 [l0, .ref a, l2] [] h Q ↔ zEv sc 48 1 [l0, .ref a, l2] [.ref a] h Q := zE_pure (q := (1, [l0, .ref a, l2], [.ref a])) dz48_0 rfl rfl rfl
theorem dz48_1 : decode (z_code 48) 1 = .ok (.aload_n 0, 1) := by decide +kernel
theorem u48_1 : zEv sc 48 1 [.ref a, l1, l2] [t0] h Q ↔ zEv sc 48 2 [.ref a, l1, l2] [.ref a, t0] h Q := zE_pure (q := (2, [.ref a, l1, l2], [.ref a, t0])) dz48_1 rfl rfl rfl
theorem dz48_2 : decode (z_code 48) 2 = .ok (.getfield 21, 3) := by decide +kernel
theorem u48_2 (ho : zO a 8) : zEv sc 48 2 [l0, l1, l2] [.ref a, t0] (zst p iv) Q ↔ zEv sc 48 5 [l0, l1, l2] [.int (iv a 3), t0] (zst p iv) Q := zE_gfI dz48_2 (by decide +kernel : z_lk3 zFT (z_cls 48) 21 = some (8, 3, 0, 250)) (by decide +kernel) ho
theorem dz48_5 : decode (z_code 48) 5 = .ok (.invokevirtual 75, 3) := by decide +kernel
theorem u48_5 (ho : zO a 7) : zEv sc 48 5 [l0, l1, l2] [.int z0, .ref a] (zst p iv) Q ↔ zEv sc 45 0 [.ref a, .int z0] [] (zst p iv) (fun r h9 => zEv sc 48 8 [l0, l1, l2] (r.toList ++ []) h9 Q) := zE_call (kd := 0) (na := 2) (nr := 0) (as := [.ref a, .int z0]) (rest := []) (Or.inl ⟨rfl, rfl⟩) dz48_5 (by decide +kernel : z_lk2 zCT (z_cls 48) 75 = some (45, 1, 607)) (fun z => by cases z) rfl rfl rfl (by decide +kernel) rfl rfl (Or.inr (zE_rc ho))
theorem dz48_8 : decode (z_code 48) 8 = .ok (.iload_n 2, 1) := by decide +kernel
theorem u48_8 : zEv sc 48 8 [l0, l1, .int x] [t0] h Q ↔ zEv sc 48 9 [l0, l1, .int x] [.int x, t0] h Q := zE_pure (q := (9, [l0, l1, .int x], [.int x, t0])) dz48_8 rfl rfl rfl
theorem dz48_9 : decode (z_code 48) 9 = .ok (.if_icmp .eq 5, 3) := by decide +kernel
theorem u48_9 : zEv sc 48 9 [l0, l1, l2] [.int x2, .int x1] h Q ↔ (if x1 = x2 then zEv sc 48 14 [l0, l1, l2] [] h Q else zEv sc 48 12 [l0, l1, l2] [] h Q) := zE_icP (P := x1 = x2) inferInstance 14 dz48_9 rfl rfl
theorem dz48_12 : decode (z_code 48) 12 = .ok (.iconst 0, 1) := by decide +kernel
theorem u48_12 : zEv sc 48 12 [l0, l1, l2] [] h Q ↔ zEv sc 48 13 [l0, l1, l2] [.int 0] h Q := zE_iconst dz48_12 (by decide +kernel)
theorem dz48_13 : decode (z_code 48) 13 = .ok (.ireturn, 1) := by decide +kernel
theorem u48_13 : zEv sc 48 13 [l0, l1, l2] [.int x] h Q ↔ ((x = 0 ∨ x = 1) ∧ Q (some (.int x)) h) := zE_rz dz48_13 (by decide +kernel)
theorem dz48_14 : decode (z_code 48) 14 = .ok (.aload_n 0, 1) := by decide +kernel
theorem u48_14 : zEv sc 48 14 [.ref a, l1, l2] [] h Q ↔ zEv sc 48 15 [.ref a, l1, l2] [.ref a] h Q := zE_pure (q := (15, [.ref a, l1, l2], [.ref a])) dz48_14 rfl rfl rfl
theorem dz48_15 : decode (z_code 48) 15 = .ok (.dup, 1) := by decide +kernel
theorem u48_15 : zEv sc 48 15 [l0, l1, l2] [.ref a] h Q ↔ zEv sc 48 16 [l0, l1, l2] [.ref a, .ref a] h Q := zE_pure (q := (16, [l0, l1, l2], [.ref a, .ref a])) dz48_15 rfl rfl rfl
theorem dz48_16 : decode (z_code 48) 16 = .ok (.getfield 21, 3) := by decide +kernel
theorem u48_16 (ho : zO a 8) : zEv sc 48 16 [l0, l1, l2] [.ref a, t0] (zst p iv) Q ↔ zEv sc 48 19 [l0, l1, l2] [.int (iv a 3), t0] (zst p iv) Q := zE_gfI dz48_16 (by decide +kernel : z_lk3 zFT (z_cls 48) 21 = some (8, 3, 0, 250)) (by decide +kernel) ho
theorem dz48_19 : decode (z_code 48) 19 = .ok (.iconst 1, 1) := by decide +kernel
theorem u48_19 : zEv sc 48 19 [l0, l1, l2] [t0, t1] h Q ↔ zEv sc 48 20 [l0, l1, l2] [.int 1, t0, t1] h Q := zE_iconst dz48_19 (by decide +kernel)
theorem dz48_20 : decode (z_code 48) 20 = .ok (.iadd, 1) := by decide +kernel
theorem u48_20 : zEv sc 48 20 [l0, l1, l2] [.int x2, .int x1, t0] h Q ↔ zEv sc 48 21 [l0, l1, l2] [.int (x1 + x2), t0] h Q := zE_pure (q := (21, [l0, l1, l2], [.int (x1 + x2), t0])) dz48_20 rfl rfl rfl
theorem dz48_21 : decode (z_code 48) 21 = .ok (.putfield 21, 3) := by decide +kernel
theorem u48_21 (ho : zO a 8) : zEv sc 48 21 [l0, l1, l2] [.int x, .ref a] (zst p iv) Q ↔ zEv sc 48 24 [l0, l1, l2] [] (zst p (w2 iv a 3 x)) Q := zE_pfI dz48_21 (by decide +kernel : z_lk3 zFT (z_cls 48) 21 = some (8, 3, 0, 250)) (by decide +kernel) (by decide +kernel) (by decide +kernel) ho
theorem dz48_24 : decode (z_code 48) 24 = .ok (.iconst 1, 1) := by decide +kernel
theorem u48_24 : zEv sc 48 24 [l0, l1, l2] [] h Q ↔ zEv sc 48 25 [l0, l1, l2] [.int 1] h Q := zE_iconst dz48_24 (by decide +kernel)
theorem dz48_25 : decode (z_code 48) 25 = .ok (.ireturn, 1) := by decide +kernel
theorem u48_25 : zEv sc 48 25 [l0, l1, l2] [.int x] h Q ↔ ((x = 0 ∨ x = 1) ∧ Q (some (.int x)) h) := zE_rz dz48_25 (by decide +kernel)
/-! method 49: FieldMixtures$TextReader.hasDigit(LFieldMixtures$Text;)Z -/
theorem dz49_0 : decode (z_code 49) 0 = .ok (.aload_n 1, 1) := by decide +kernel
theorem u49_0 : zEv sc 49 0 [l0, .ref a] [] h Q ↔ zEv sc 49 1 [l0, .ref a] [.ref a] h Q := zE_pure (q := (1, [l0, .ref a], [.ref a])) dz49_0 rfl rfl rfl
theorem dz49_1 : decode (z_code 49) 1 = .ok (.aload_n 0, 1) := by decide +kernel
theorem u49_1 : zEv sc 49 1 [.ref a, l1] [t0] h Q ↔ zEv sc 49 2 [.ref a, l1] [.ref a, t0] h Q := zE_pure (q := (2, [.ref a, l1], [.ref a, t0])) dz49_1 rfl rfl rfl
theorem dz49_2 : decode (z_code 49) 2 = .ok (.getfield 21, 3) := by decide +kernel
theorem u49_2 (ho : zO a 8) : zEv sc 49 2 [l0, l1] [.ref a, t0] (zst p iv) Q ↔ zEv sc 49 5 [l0, l1] [.int (iv a 3), t0] (zst p iv) Q := zE_gfI dz49_2 (by decide +kernel : z_lk3 zFT (z_cls 49) 21 = some (8, 3, 0, 250)) (by decide +kernel) ho
theorem dz49_5 : decode (z_code 49) 5 = .ok (.invokevirtual 75, 3) := by decide +kernel
theorem u49_5 (ho : zO a 7) : zEv sc 49 5 [l0, l1] [.int z0, .ref a] (zst p iv) Q ↔ zEv sc 45 0 [.ref a, .int z0] [] (zst p iv) (fun r h9 => zEv sc 49 8 [l0, l1] (r.toList ++ []) h9 Q) := zE_call (kd := 0) (na := 2) (nr := 0) (as := [.ref a, .int z0]) (rest := []) (Or.inl ⟨rfl, rfl⟩) dz49_5 (by decide +kernel : z_lk2 zCT (z_cls 49) 75 = some (45, 1, 607)) (fun z => by cases z) rfl rfl rfl (by decide +kernel) rfl rfl (Or.inr (zE_rc ho))
theorem dz49_8 : decode (z_code 49) 8 = .ok (.bipush 48, 2) := by decide +kernel
theorem u49_8 : zEv sc 49 8 [l0, l1] [t0] h Q ↔ zEv sc 49 10 [l0, l1] [.int 48, t0] h Q := zE_bipush dz49_8 (by decide +kernel)
theorem dz49_10 : decode (z_code 49) 10 = .ok (.bipush 57, 2) := by decide +kernel
theorem u49_10 : zEv sc 49 10 [l0, l1] [t0, t1] h Q ↔ zEv sc 49 12 [l0, l1] [.int 57, t0, t1] h Q := zE_bipush dz49_10 (by decide +kernel)
theorem dz49_12 : decode (z_code 49) 12 = .ok (.invokestatic 100, 3) := by decide +kernel
theorem u49_12 : zEv sc 49 12 [l0, l1] [.int z2, .int z1, .int z0] h Q ↔ zEv sc 15 0 [.int z0, .int z1, .int z2] [] h (fun r h9 => zEv sc 49 15 [l0, l1] (r.toList ++ []) h9 Q) := zE_call (kd := 1) (na := 3) (nr := 0) (as := [.int z0, .int z1, .int z2]) (rest := []) (Or.inr ⟨rfl, rfl⟩) dz49_12 (by decide +kernel : z_lk2 zCT (z_cls 49) 100 = some (15, 1, 624)) (fun _ => ⟨by decide +kernel, by decide +kernel⟩) rfl rfl rfl (by decide +kernel) rfl rfl (Or.inl rfl)
theorem dz49_15 : decode (z_code 49) 15 = .ok (.ireturn, 1) := by decide +kernel
theorem u49_15 : zEv sc 49 15 [l0, l1] [.int x] h Q ↔ ((x = 0 ∨ x = 1) ∧ Q (some (.int x)) h) := zE_rz dz49_15 (by decide +kernel)
/-! method 50: FieldMixtures$TextReader.readDigit(LFieldMixtures$Text;)I -/
theorem dz50_0 : decode (z_code 50) 0 = .ok (.aload_n 1, 1) := by decide +kernel
theorem u50_0 : zEv sc 50 0 [l0, .ref a, l2] [] h Q ↔ zEv sc 50 1 [l0, .ref a, l2] [.ref a] h Q := zE_pure (q := (1, [l0, .ref a, l2], [.ref a])) dz50_0 rfl rfl rfl
theorem dz50_1 : decode (z_code 50) 1 = .ok (.aload_n 0, 1) := by decide +kernel
theorem u50_1 : zEv sc 50 1 [.ref a, l1, l2] [t0] h Q ↔ zEv sc 50 2 [.ref a, l1, l2] [.ref a, t0] h Q := zE_pure (q := (2, [.ref a, l1, l2], [.ref a, t0])) dz50_1 rfl rfl rfl
theorem dz50_2 : decode (z_code 50) 2 = .ok (.getfield 21, 3) := by decide +kernel
theorem u50_2 (ho : zO a 8) : zEv sc 50 2 [l0, l1, l2] [.ref a, t0] (zst p iv) Q ↔ zEv sc 50 5 [l0, l1, l2] [.int (iv a 3), t0] (zst p iv) Q := zE_gfI dz50_2 (by decide +kernel : z_lk3 zFT (z_cls 50) 21 = some (8, 3, 0, 250)) (by decide +kernel) ho
theorem dz50_5 : decode (z_code 50) 5 = .ok (.invokevirtual 75, 3) := by decide +kernel
theorem u50_5 (ho : zO a 7) : zEv sc 50 5 [l0, l1, l2] [.int z0, .ref a] (zst p iv) Q ↔ zEv sc 45 0 [.ref a, .int z0] [] (zst p iv) (fun r h9 => zEv sc 50 8 [l0, l1, l2] (r.toList ++ []) h9 Q) := zE_call (kd := 0) (na := 2) (nr := 0) (as := [.ref a, .int z0]) (rest := []) (Or.inl ⟨rfl, rfl⟩) dz50_5 (by decide +kernel : z_lk2 zCT (z_cls 50) 75 = some (45, 1, 607)) (fun z => by cases z) rfl rfl rfl (by decide +kernel) rfl rfl (Or.inr (zE_rc ho))
theorem dz50_8 : decode (z_code 50) 8 = .ok (.bipush 48, 2) := by decide +kernel
theorem u50_8 : zEv sc 50 8 [l0, l1, l2] [t0] h Q ↔ zEv sc 50 10 [l0, l1, l2] [.int 48, t0] h Q := zE_bipush dz50_8 (by decide +kernel)
theorem dz50_10 : decode (z_code 50) 10 = .ok (.isub, 1) := by decide +kernel
theorem u50_10 : zEv sc 50 10 [l0, l1, l2] [.int x2, .int x1] h Q ↔ zEv sc 50 11 [l0, l1, l2] [.int (x1 - x2)] h Q := zE_pure (q := (11, [l0, l1, l2], [.int (x1 - x2)])) dz50_10 rfl rfl rfl
theorem dz50_11 : decode (z_code 50) 11 = .ok (.istore_n 2, 1) := by decide +kernel
theorem u50_11 : zEv sc 50 11 [l0, l1, l2] [.int x] h Q ↔ zEv sc 50 12 [l0, l1, .int x] [] h Q := zE_pure (q := (12, [l0, l1, .int x], [])) dz50_11 rfl rfl rfl
theorem dz50_12 : decode (z_code 50) 12 = .ok (.aload_n 0, 1) := by decide +kernel
theorem u50_12 : zEv sc 50 12 [.ref a, l1, l2] [] h Q ↔ zEv sc 50 13 [.ref a, l1, l2] [.ref a] h Q := zE_pure (q := (13, [.ref a, l1, l2], [.ref a])) dz50_12 rfl rfl rfl
theorem dz50_13 : decode (z_code 50) 13 = .ok (.dup, 1) := by decide +kernel
theorem u50_13 : zEv sc 50 13 [l0, l1, l2] [.ref a] h Q ↔ zEv sc 50 14 [l0, l1, l2] [.ref a, .ref a] h Q := zE_pure (q := (14, [l0, l1, l2], [.ref a, .ref a])) dz50_13 rfl rfl rfl
theorem dz50_14 : decode (z_code 50) 14 = .ok (.getfield 21, 3) := by decide +kernel
theorem u50_14 (ho : zO a 8) : zEv sc 50 14 [l0, l1, l2] [.ref a, t0] (zst p iv) Q ↔ zEv sc 50 17 [l0, l1, l2] [.int (iv a 3), t0] (zst p iv) Q := zE_gfI dz50_14 (by decide +kernel : z_lk3 zFT (z_cls 50) 21 = some (8, 3, 0, 250)) (by decide +kernel) ho
theorem dz50_17 : decode (z_code 50) 17 = .ok (.iconst 1, 1) := by decide +kernel
theorem u50_17 : zEv sc 50 17 [l0, l1, l2] [t0, t1] h Q ↔ zEv sc 50 18 [l0, l1, l2] [.int 1, t0, t1] h Q := zE_iconst dz50_17 (by decide +kernel)
theorem dz50_18 : decode (z_code 50) 18 = .ok (.iadd, 1) := by decide +kernel
theorem u50_18 : zEv sc 50 18 [l0, l1, l2] [.int x2, .int x1, t0] h Q ↔ zEv sc 50 19 [l0, l1, l2] [.int (x1 + x2), t0] h Q := zE_pure (q := (19, [l0, l1, l2], [.int (x1 + x2), t0])) dz50_18 rfl rfl rfl
theorem dz50_19 : decode (z_code 50) 19 = .ok (.putfield 21, 3) := by decide +kernel
theorem u50_19 (ho : zO a 8) : zEv sc 50 19 [l0, l1, l2] [.int x, .ref a] (zst p iv) Q ↔ zEv sc 50 22 [l0, l1, l2] [] (zst p (w2 iv a 3 x)) Q := zE_pfI dz50_19 (by decide +kernel : z_lk3 zFT (z_cls 50) 21 = some (8, 3, 0, 250)) (by decide +kernel) (by decide +kernel) (by decide +kernel) ho
theorem dz50_22 : decode (z_code 50) 22 = .ok (.iload_n 2, 1) := by decide +kernel
theorem u50_22 : zEv sc 50 22 [l0, l1, .int x] [] h Q ↔ zEv sc 50 23 [l0, l1, .int x] [.int x] h Q := zE_pure (q := (23, [l0, l1, .int x], [.int x])) dz50_22 rfl rfl rfl
theorem dz50_23 : decode (z_code 50) 23 = .ok (.ireturn, 1) := by decide +kernel
theorem u50_23 : zEv sc 50 23 [l0, l1, l2] [.int x] h Q ↔ Q (some (.int x)) h := zE_ri dz50_23 (by decide +kernel)
/-! method 51: FieldMixtures$TextReader.readAllocation(LFieldMixtures$Text;I)Z -/
theorem dz51_0 : decode (z_code 51) 0 = .ok (.aload_n 0, 1) := by decide +kernel
theorem u51_0 : zEv sc 51 0 [.ref a, l1, l2, l3] [] h Q ↔ zEv sc 51 1 [.ref a, l1, l2, l3] [.ref a] h Q := zE_pure (q := (1, [.ref a, l1, l2, l3], [.ref a])) dz51_0 rfl rfl rfl
theorem dz51_1 : decode (z_code 51) 1 = .ok (.iconst 0, 1) := by decide +kernel
theorem u51_1 : zEv sc 51 1 [l0, l1, l2, l3] [t0] h Q ↔ zEv sc 51 2 [l0, l1, l2, l3] [.int 0, t0] h Q := zE_iconst dz51_1 (by decide +kernel)
theorem dz51_2 : decode (z_code 51) 2 = .ok (.putfield 27, 3) := by decide +kernel
theorem u51_2 (ho : zO a 8) : zEv sc 51 2 [l0, l1, l2, l3] [.int x, .ref a] (zst p iv) Q ↔ zEv sc 51 5 [l0, l1, l2, l3] [] (zst p (w2 iv a 5 x)) Q := zE_pfI dz51_2 (by decide +kernel : z_lk3 zFT (z_cls 51) 27 = some (8, 5, 0, 252)) (by decide +kernel) (by decide +kernel) (by decide +kernel) ho
theorem dz51_5 : decode (z_code 51) 5 = .ok (.iconst 0, 1) := by decide +kernel
theorem u51_5 : zEv sc 51 5 [l0, l1, l2, l3] [] h Q ↔ zEv sc 51 6 [l0, l1, l2, l3] [.int 0] h Q := zE_iconst dz51_5 (by decide +kernel)
theorem dz51_6 : decode (z_code 51) 6 = .ok (.istore_n 3, 1) := by decide +kernel
theorem u51_6 : zEv sc 51 6 [l0, l1, l2, l3] [.int x] h Q ↔ zEv sc 51 7 [l0, l1, l2, .int x] [] h Q := zE_pure (q := (7, [l0, l1, l2, .int x], [])) dz51_6 rfl rfl rfl
theorem dz51_7 : decode (z_code 51) 7 = .ok (.iload_n 3, 1) := by decide +kernel
theorem u51_7 : zEv sc 51 7 [l0, l1, l2, .int x] [] h Q ↔ zEv sc 51 8 [l0, l1, l2, .int x] [.int x] h Q := zE_pure (q := (8, [l0, l1, l2, .int x], [.int x])) dz51_7 rfl rfl rfl
theorem dz51_8 : decode (z_code 51) 8 = .ok (.iload_n 2, 1) := by decide +kernel
theorem u51_8 : zEv sc 51 8 [l0, l1, .int x, l3] [t0] h Q ↔ zEv sc 51 9 [l0, l1, .int x, l3] [.int x, t0] h Q := zE_pure (q := (9, [l0, l1, .int x, l3], [.int x, t0])) dz51_8 rfl rfl rfl
theorem dz51_9 : decode (z_code 51) 9 = .ok (.if_icmp .ge 36, 3) := by decide +kernel
theorem u51_9 : zEv sc 51 9 [l0, l1, l2, l3] [.int x2, .int x1] h Q ↔ (if x2 ≤ x1 then zEv sc 51 45 [l0, l1, l2, l3] [] h Q else zEv sc 51 12 [l0, l1, l2, l3] [] h Q) := zE_icP (P := x2 ≤ x1) inferInstance 45 dz51_9 rfl rfl
theorem dz51_12 : decode (z_code 51) 12 = .ok (.aload_n 0, 1) := by decide +kernel
theorem u51_12 : zEv sc 51 12 [.ref a, l1, l2, l3] [] h Q ↔ zEv sc 51 13 [.ref a, l1, l2, l3] [.ref a] h Q := zE_pure (q := (13, [.ref a, l1, l2, l3], [.ref a])) dz51_12 rfl rfl rfl
theorem dz51_13 : decode (z_code 51) 13 = .ok (.aload_n 1, 1) := by decide +kernel
theorem u51_13 : zEv sc 51 13 [l0, .ref a, l2, l3] [t0] h Q ↔ zEv sc 51 14 [l0, .ref a, l2, l3] [.ref a, t0] h Q := zE_pure (q := (14, [l0, .ref a, l2, l3], [.ref a, t0])) dz51_13 rfl rfl rfl
theorem dz51_14 : decode (z_code 51) 14 = .ok (.invokevirtual 93, 3) := by decide +kernel
theorem u51_14 (ho : zO a 8) : zEv sc 51 14 [l0, l1, l2, l3] [.ref b0, .ref a] (zst p iv) Q ↔ zEv sc 49 0 [.ref a, .ref b0] [] (zst p iv) (fun r h9 => zEv sc 51 17 [l0, l1, l2, l3] (r.toList ++ []) h9 Q) := zE_call (kd := 0) (na := 2) (nr := 0) (as := [.ref a, .ref b0]) (rest := []) (Or.inl ⟨rfl, rfl⟩) dz51_14 (by decide +kernel : z_lk2 zCT (z_cls 51) 93 = some (49, 0, 620)) (fun z => by cases z) rfl rfl rfl (by decide +kernel) rfl rfl (Or.inr (zE_rc ho))
theorem dz51_17 : decode (z_code 51) 17 = .ok (.ifCond .ne 5, 3) := by decide +kernel
theorem u51_17 : zEv sc 51 17 [l0, l1, l2, l3] [.int x] h Q ↔ (if ¬ x = 0 then zEv sc 51 22 [l0, l1, l2, l3] [] h Q else zEv sc 51 20 [l0, l1, l2, l3] [] h Q) := zE_ifP (P := ¬ x = 0) inferInstance 22 dz51_17 rfl rfl
theorem dz51_20 : decode (z_code 51) 20 = .ok (.iconst 0, 1) := by decide +kernel
theorem u51_20 : zEv sc 51 20 [l0, l1, l2, l3] [] h Q ↔ zEv sc 51 21 [l0, l1, l2, l3] [.int 0] h Q := zE_iconst dz51_20 (by decide +kernel)
theorem dz51_21 : decode (z_code 51) 21 = .ok (.ireturn, 1) := by decide +kernel
theorem u51_21 : zEv sc 51 21 [l0, l1, l2, l3] [.int x] h Q ↔ ((x = 0 ∨ x = 1) ∧ Q (some (.int x)) h) := zE_rz dz51_21 (by decide +kernel)
theorem dz51_22 : decode (z_code 51) 22 = .ok (.aload_n 0, 1) := by decide +kernel
theorem u51_22 : zEv sc 51 22 [.ref a, l1, l2, l3] [] h Q ↔ zEv sc 51 23 [.ref a, l1, l2, l3] [.ref a] h Q := zE_pure (q := (23, [.ref a, l1, l2, l3], [.ref a])) dz51_22 rfl rfl rfl
theorem dz51_23 : decode (z_code 51) 23 = .ok (.aload_n 0, 1) := by decide +kernel
theorem u51_23 : zEv sc 51 23 [.ref a, l1, l2, l3] [t0] h Q ↔ zEv sc 51 24 [.ref a, l1, l2, l3] [.ref a, t0] h Q := zE_pure (q := (24, [.ref a, l1, l2, l3], [.ref a, t0])) dz51_23 rfl rfl rfl
theorem dz51_24 : decode (z_code 51) 24 = .ok (.getfield 27, 3) := by decide +kernel
theorem u51_24 (ho : zO a 8) : zEv sc 51 24 [l0, l1, l2, l3] [.ref a, t0] (zst p iv) Q ↔ zEv sc 51 27 [l0, l1, l2, l3] [.int (iv a 5), t0] (zst p iv) Q := zE_gfI dz51_24 (by decide +kernel : z_lk3 zFT (z_cls 51) 27 = some (8, 5, 0, 252)) (by decide +kernel) ho
theorem dz51_27 : decode (z_code 51) 27 = .ok (.bipush 10, 2) := by decide +kernel
theorem u51_27 : zEv sc 51 27 [l0, l1, l2, l3] [t0, t1] h Q ↔ zEv sc 51 29 [l0, l1, l2, l3] [.int 10, t0, t1] h Q := zE_bipush dz51_27 (by decide +kernel)
theorem dz51_29 : decode (z_code 51) 29 = .ok (.imul, 1) := by decide +kernel
theorem u51_29 : zEv sc 51 29 [l0, l1, l2, l3] [.int x2, .int x1, t0] h Q ↔ zEv sc 51 30 [l0, l1, l2, l3] [.int (x1 * x2), t0] h Q := zE_pure (q := (30, [l0, l1, l2, l3], [.int (x1 * x2), t0])) dz51_29 rfl rfl rfl
theorem dz51_30 : decode (z_code 51) 30 = .ok (.aload_n 0, 1) := by decide +kernel
theorem u51_30 : zEv sc 51 30 [.ref a, l1, l2, l3] [t0, t1] h Q ↔ zEv sc 51 31 [.ref a, l1, l2, l3] [.ref a, t0, t1] h Q := zE_pure (q := (31, [.ref a, l1, l2, l3], [.ref a, t0, t1])) dz51_30 rfl rfl rfl
theorem dz51_31 : decode (z_code 51) 31 = .ok (.aload_n 1, 1) := by decide +kernel
theorem u51_31 : zEv sc 51 31 [l0, .ref a, l2, l3] [t0, t1, t2] h Q ↔ zEv sc 51 32 [l0, .ref a, l2, l3] [.ref a, t0, t1, t2] h Q := zE_pure (q := (32, [l0, .ref a, l2, l3], [.ref a, t0, t1, t2])) dz51_31 rfl rfl rfl
theorem dz51_32 : decode (z_code 51) 32 = .ok (.invokevirtual 96, 3) := by decide +kernel
theorem u51_32 (ho : zO a 8) : zEv sc 51 32 [l0, l1, l2, l3] [.ref b0, .ref a, t0, t1] (zst p iv) Q ↔ zEv sc 50 0 [.ref a, .ref b0, .null] [] (zst p iv) (fun r h9 => zEv sc 51 35 [l0, l1, l2, l3] (r.toList ++ [t0, t1]) h9 Q) := zE_call (kd := 0) (na := 2) (nr := 2) (as := [.ref a, .ref b0]) (rest := [t0, t1]) (Or.inl ⟨rfl, rfl⟩) dz51_32 (by decide +kernel : z_lk2 zCT (z_cls 51) 96 = some (50, 0, 625)) (fun z => by cases z) rfl rfl rfl (by decide +kernel) rfl rfl (Or.inr (zE_rc ho))
theorem dz51_35 : decode (z_code 51) 35 = .ok (.iadd, 1) := by decide +kernel
theorem u51_35 : zEv sc 51 35 [l0, l1, l2, l3] [.int x2, .int x1, t0] h Q ↔ zEv sc 51 36 [l0, l1, l2, l3] [.int (x1 + x2), t0] h Q := zE_pure (q := (36, [l0, l1, l2, l3], [.int (x1 + x2), t0])) dz51_35 rfl rfl rfl
theorem dz51_36 : decode (z_code 51) 36 = .ok (.putfield 27, 3) := by decide +kernel
theorem u51_36 (ho : zO a 8) : zEv sc 51 36 [l0, l1, l2, l3] [.int x, .ref a] (zst p iv) Q ↔ zEv sc 51 39 [l0, l1, l2, l3] [] (zst p (w2 iv a 5 x)) Q := zE_pfI dz51_36 (by decide +kernel : z_lk3 zFT (z_cls 51) 27 = some (8, 5, 0, 252)) (by decide +kernel) (by decide +kernel) (by decide +kernel) ho
theorem dz51_39 : decode (z_code 51) 39 = .ok (.iinc 3 1, 3) := by decide +kernel
theorem u51_39 : zEv sc 51 39 [l0, l1, l2, .int x] [] h Q ↔ zEv sc 51 42 [l0, l1, l2, .int (x + 1)] [] h Q := zE_iinc (ls2 := [l0, l1, l2, .int (x + 1)]) dz51_39 (by decide +kernel) rfl (by simp) rfl
theorem dz51_42 : decode (z_code 51) 42 = .ok (.goto (-35), 3) := by decide +kernel
theorem u51_42 : zEv sc 51 42 [l0, l1, l2, l3] [] h Q ↔ zEv sc 51 7 [l0, l1, l2, l3] [] h Q := zE_go 7 dz51_42 rfl
theorem dz51_45 : decode (z_code 51) 45 = .ok (.iconst 1, 1) := by decide +kernel
theorem u51_45 : zEv sc 51 45 [l0, l1, l2, l3] [] h Q ↔ zEv sc 51 46 [l0, l1, l2, l3] [.int 1] h Q := zE_iconst dz51_45 (by decide +kernel)
theorem dz51_46 : decode (z_code 51) 46 = .ok (.ireturn, 1) := by decide +kernel
theorem u51_46 : zEv sc 51 46 [l0, l1, l2, l3] [.int x] h Q ↔ ((x = 0 ∨ x = 1) ∧ Q (some (.int x)) h) := zE_rz dz51_46 (by decide +kernel)
/-! method 52: FieldMixtures$TextReader.readWeight(LFieldMixtures$Text;)Z -/
theorem dz52_0 : decode (z_code 52) 0 = .ok (.aload_n 0, 1) := by decide +kernel
theorem u52_0 : zEv sc 52 0 [.ref a, l1] [] h Q ↔ zEv sc 52 1 [.ref a, l1] [.ref a] h Q := zE_pure (q := (1, [.ref a, l1], [.ref a])) dz52_0 rfl rfl rfl
theorem dz52_1 : decode (z_code 52) 1 = .ok (.aload_n 1, 1) := by decide +kernel
theorem u52_1 : zEv sc 52 1 [l0, .ref a] [t0] h Q ↔ zEv sc 52 2 [l0, .ref a] [.ref a, t0] h Q := zE_pure (q := (2, [l0, .ref a], [.ref a, t0])) dz52_1 rfl rfl rfl
theorem dz52_2 : decode (z_code 52) 2 = .ok (.invokevirtual 93, 3) := by decide +kernel
theorem u52_2 (ho : zO a 8) : zEv sc 52 2 [l0, l1] [.ref b0, .ref a] (zst p iv) Q ↔ zEv sc 49 0 [.ref a, .ref b0] [] (zst p iv) (fun r h9 => zEv sc 52 5 [l0, l1] (r.toList ++ []) h9 Q) := zE_call (kd := 0) (na := 2) (nr := 0) (as := [.ref a, .ref b0]) (rest := []) (Or.inl ⟨rfl, rfl⟩) dz52_2 (by decide +kernel : z_lk2 zCT (z_cls 52) 93 = some (49, 0, 620)) (fun z => by cases z) rfl rfl rfl (by decide +kernel) rfl rfl (Or.inr (zE_rc ho))
theorem dz52_5 : decode (z_code 52) 5 = .ok (.ifCond .ne 5, 3) := by decide +kernel
theorem u52_5 : zEv sc 52 5 [l0, l1] [.int x] h Q ↔ (if ¬ x = 0 then zEv sc 52 10 [l0, l1] [] h Q else zEv sc 52 8 [l0, l1] [] h Q) := zE_ifP (P := ¬ x = 0) inferInstance 10 dz52_5 rfl rfl
theorem dz52_8 : decode (z_code 52) 8 = .ok (.iconst 0, 1) := by decide +kernel
theorem u52_8 : zEv sc 52 8 [l0, l1] [] h Q ↔ zEv sc 52 9 [l0, l1] [.int 0] h Q := zE_iconst dz52_8 (by decide +kernel)
theorem dz52_9 : decode (z_code 52) 9 = .ok (.ireturn, 1) := by decide +kernel
theorem u52_9 : zEv sc 52 9 [l0, l1] [.int x] h Q ↔ ((x = 0 ∨ x = 1) ∧ Q (some (.int x)) h) := zE_rz dz52_9 (by decide +kernel)
theorem dz52_10 : decode (z_code 52) 10 = .ok (.aload_n 0, 1) := by decide +kernel
theorem u52_10 : zEv sc 52 10 [.ref a, l1] [] h Q ↔ zEv sc 52 11 [.ref a, l1] [.ref a] h Q := zE_pure (q := (11, [.ref a, l1], [.ref a])) dz52_10 rfl rfl rfl
theorem dz52_11 : decode (z_code 52) 11 = .ok (.aload_n 0, 1) := by decide +kernel
theorem u52_11 : zEv sc 52 11 [.ref a, l1] [t0] h Q ↔ zEv sc 52 12 [.ref a, l1] [.ref a, t0] h Q := zE_pure (q := (12, [.ref a, l1], [.ref a, t0])) dz52_11 rfl rfl rfl
theorem dz52_12 : decode (z_code 52) 12 = .ok (.aload_n 1, 1) := by decide +kernel
theorem u52_12 : zEv sc 52 12 [l0, .ref a] [t0, t1] h Q ↔ zEv sc 52 13 [l0, .ref a] [.ref a, t0, t1] h Q := zE_pure (q := (13, [l0, .ref a], [.ref a, t0, t1])) dz52_12 rfl rfl rfl
theorem dz52_13 : decode (z_code 52) 13 = .ok (.invokevirtual 96, 3) := by decide +kernel
theorem u52_13 (ho : zO a 8) : zEv sc 52 13 [l0, l1] [.ref b0, .ref a, t0] (zst p iv) Q ↔ zEv sc 50 0 [.ref a, .ref b0, .null] [] (zst p iv) (fun r h9 => zEv sc 52 16 [l0, l1] (r.toList ++ [t0]) h9 Q) := zE_call (kd := 0) (na := 2) (nr := 1) (as := [.ref a, .ref b0]) (rest := [t0]) (Or.inl ⟨rfl, rfl⟩) dz52_13 (by decide +kernel : z_lk2 zCT (z_cls 52) 96 = some (50, 0, 625)) (fun z => by cases z) rfl rfl rfl (by decide +kernel) rfl rfl (Or.inr (zE_rc ho))
theorem dz52_16 : decode (z_code 52) 16 = .ok (.putfield 30, 3) := by decide +kernel
theorem u52_16 (ho : zO a 8) : zEv sc 52 16 [l0, l1] [.int x, .ref a] (zst p iv) Q ↔ zEv sc 52 19 [l0, l1] [] (zst p (w2 iv a 6 x)) Q := zE_pfI dz52_16 (by decide +kernel : z_lk3 zFT (z_cls 52) 30 = some (8, 6, 0, 253)) (by decide +kernel) (by decide +kernel) (by decide +kernel) ho
theorem dz52_19 : decode (z_code 52) 19 = .ok (.aload_n 0, 1) := by decide +kernel
theorem u52_19 : zEv sc 52 19 [.ref a, l1] [] h Q ↔ zEv sc 52 20 [.ref a, l1] [.ref a] h Q := zE_pure (q := (20, [.ref a, l1], [.ref a])) dz52_19 rfl rfl rfl
theorem dz52_20 : decode (z_code 52) 20 = .ok (.aload_n 1, 1) := by decide +kernel
theorem u52_20 : zEv sc 52 20 [l0, .ref a] [t0] h Q ↔ zEv sc 52 21 [l0, .ref a] [.ref a, t0] h Q := zE_pure (q := (21, [l0, .ref a], [.ref a, t0])) dz52_20 rfl rfl rfl
theorem dz52_21 : decode (z_code 52) 21 = .ok (.invokevirtual 93, 3) := by decide +kernel
theorem u52_21 (ho : zO a 8) : zEv sc 52 21 [l0, l1] [.ref b0, .ref a] (zst p iv) Q ↔ zEv sc 49 0 [.ref a, .ref b0] [] (zst p iv) (fun r h9 => zEv sc 52 24 [l0, l1] (r.toList ++ []) h9 Q) := zE_call (kd := 0) (na := 2) (nr := 0) (as := [.ref a, .ref b0]) (rest := []) (Or.inl ⟨rfl, rfl⟩) dz52_21 (by decide +kernel : z_lk2 zCT (z_cls 52) 93 = some (49, 0, 620)) (fun z => by cases z) rfl rfl rfl (by decide +kernel) rfl rfl (Or.inr (zE_rc ho))
theorem dz52_24 : decode (z_code 52) 24 = .ok (.ifCond .eq 20, 3) := by decide +kernel
theorem u52_24 : zEv sc 52 24 [l0, l1] [.int x] h Q ↔ (if x = 0 then zEv sc 52 44 [l0, l1] [] h Q else zEv sc 52 27 [l0, l1] [] h Q) := zE_ifP (P := x = 0) inferInstance 44 dz52_24 rfl rfl
theorem dz52_27 : decode (z_code 52) 27 = .ok (.aload_n 0, 1) := by decide +kernel
theorem u52_27 : zEv sc 52 27 [.ref a, l1] [] h Q ↔ zEv sc 52 28 [.ref a, l1] [.ref a] h Q := zE_pure (q := (28, [.ref a, l1], [.ref a])) dz52_27 rfl rfl rfl
theorem dz52_28 : decode (z_code 52) 28 = .ok (.aload_n 0, 1) := by decide +kernel
theorem u52_28 : zEv sc 52 28 [.ref a, l1] [t0] h Q ↔ zEv sc 52 29 [.ref a, l1] [.ref a, t0] h Q := zE_pure (q := (29, [.ref a, l1], [.ref a, t0])) dz52_28 rfl rfl rfl
theorem dz52_29 : decode (z_code 52) 29 = .ok (.getfield 30, 3) := by decide +kernel
theorem u52_29 (ho : zO a 8) : zEv sc 52 29 [l0, l1] [.ref a, t0] (zst p iv) Q ↔ zEv sc 52 32 [l0, l1] [.int (iv a 6), t0] (zst p iv) Q := zE_gfI dz52_29 (by decide +kernel : z_lk3 zFT (z_cls 52) 30 = some (8, 6, 0, 253)) (by decide +kernel) ho
theorem dz52_32 : decode (z_code 52) 32 = .ok (.bipush 10, 2) := by decide +kernel
theorem u52_32 : zEv sc 52 32 [l0, l1] [t0, t1] h Q ↔ zEv sc 52 34 [l0, l1] [.int 10, t0, t1] h Q := zE_bipush dz52_32 (by decide +kernel)
theorem dz52_34 : decode (z_code 52) 34 = .ok (.imul, 1) := by decide +kernel
theorem u52_34 : zEv sc 52 34 [l0, l1] [.int x2, .int x1, t0] h Q ↔ zEv sc 52 35 [l0, l1] [.int (x1 * x2), t0] h Q := zE_pure (q := (35, [l0, l1], [.int (x1 * x2), t0])) dz52_34 rfl rfl rfl
theorem dz52_35 : decode (z_code 52) 35 = .ok (.aload_n 0, 1) := by decide +kernel
theorem u52_35 : zEv sc 52 35 [.ref a, l1] [t0, t1] h Q ↔ zEv sc 52 36 [.ref a, l1] [.ref a, t0, t1] h Q := zE_pure (q := (36, [.ref a, l1], [.ref a, t0, t1])) dz52_35 rfl rfl rfl
theorem dz52_36 : decode (z_code 52) 36 = .ok (.aload_n 1, 1) := by decide +kernel
theorem u52_36 : zEv sc 52 36 [l0, .ref a] [t0, t1, t2] h Q ↔ zEv sc 52 37 [l0, .ref a] [.ref a, t0, t1, t2] h Q := zE_pure (q := (37, [l0, .ref a], [.ref a, t0, t1, t2])) dz52_36 rfl rfl rfl
theorem dz52_37 : decode (z_code 52) 37 = .ok (.invokevirtual 96, 3) := by decide +kernel
theorem u52_37 (ho : zO a 8) : zEv sc 52 37 [l0, l1] [.ref b0, .ref a, t0, t1] (zst p iv) Q ↔ zEv sc 50 0 [.ref a, .ref b0, .null] [] (zst p iv) (fun r h9 => zEv sc 52 40 [l0, l1] (r.toList ++ [t0, t1]) h9 Q) := zE_call (kd := 0) (na := 2) (nr := 2) (as := [.ref a, .ref b0]) (rest := [t0, t1]) (Or.inl ⟨rfl, rfl⟩) dz52_37 (by decide +kernel : z_lk2 zCT (z_cls 52) 96 = some (50, 0, 625)) (fun z => by cases z) rfl rfl rfl (by decide +kernel) rfl rfl (Or.inr (zE_rc ho))
theorem dz52_40 : decode (z_code 52) 40 = .ok (.iadd, 1) := by decide +kernel
theorem u52_40 : zEv sc 52 40 [l0, l1] [.int x2, .int x1, t0] h Q ↔ zEv sc 52 41 [l0, l1] [.int (x1 + x2), t0] h Q := zE_pure (q := (41, [l0, l1], [.int (x1 + x2), t0])) dz52_40 rfl rfl rfl
theorem dz52_41 : decode (z_code 52) 41 = .ok (.putfield 30, 3) := by decide +kernel
theorem u52_41 (ho : zO a 8) : zEv sc 52 41 [l0, l1] [.int x, .ref a] (zst p iv) Q ↔ zEv sc 52 44 [l0, l1] [] (zst p (w2 iv a 6 x)) Q := zE_pfI dz52_41 (by decide +kernel : z_lk3 zFT (z_cls 52) 30 = some (8, 6, 0, 253)) (by decide +kernel) (by decide +kernel) (by decide +kernel) ho
theorem dz52_44 : decode (z_code 52) 44 = .ok (.iconst 1, 1) := by decide +kernel
theorem u52_44 : zEv sc 52 44 [l0, l1] [] h Q ↔ zEv sc 52 45 [l0, l1] [.int 1] h Q := zE_iconst dz52_44 (by decide +kernel)
theorem dz52_45 : decode (z_code 52) 45 = .ok (.ireturn, 1) := by decide +kernel
theorem u52_45 : zEv sc 52 45 [l0, l1] [.int x] h Q ↔ ((x = 0 ∨ x = 1) ∧ Q (some (.int x)) h) := zE_rz dz52_45 (by decide +kernel)
/-! method 53: FieldMixtures$TextReader.readForm(LFieldMixtures$Text;I)Z -/
theorem dz53_0 : decode (z_code 53) 0 = .ok (.aload_n 0, 1) := by decide +kernel
theorem u53_0 : zEv sc 53 0 [.ref a, l1, l2] [] h Q ↔ zEv sc 53 1 [.ref a, l1, l2] [.ref a] h Q := zE_pure (q := (1, [.ref a, l1, l2], [.ref a])) dz53_0 rfl rfl rfl
theorem dz53_1 : decode (z_code 53) 1 = .ok (.aload_n 1, 1) := by decide +kernel
theorem u53_1 : zEv sc 53 1 [l0, .ref a, l2] [t0] h Q ↔ zEv sc 53 2 [l0, .ref a, l2] [.ref a, t0] h Q := zE_pure (q := (2, [l0, .ref a, l2], [.ref a, t0])) dz53_1 rfl rfl rfl
theorem dz53_2 : decode (z_code 53) 2 = .ok (.aload_n 0, 1) := by decide +kernel
theorem u53_2 : zEv sc 53 2 [.ref a, l1, l2] [t0, t1] h Q ↔ zEv sc 53 3 [.ref a, l1, l2] [.ref a, t0, t1] h Q := zE_pure (q := (3, [.ref a, l1, l2], [.ref a, t0, t1])) dz53_2 rfl rfl rfl
theorem dz53_3 : decode (z_code 53) 3 = .ok (.getfield 21, 3) := by decide +kernel
theorem u53_3 (ho : zO a 8) : zEv sc 53 3 [l0, l1, l2] [.ref a, t0, t1] (zst p iv) Q ↔ zEv sc 53 6 [l0, l1, l2] [.int (iv a 3), t0, t1] (zst p iv) Q := zE_gfI dz53_3 (by decide +kernel : z_lk3 zFT (z_cls 53) 21 = some (8, 3, 0, 250)) (by decide +kernel) ho
theorem dz53_6 : decode (z_code 53) 6 = .ok (.invokevirtual 75, 3) := by decide +kernel
theorem u53_6 (ho : zO a 7) : zEv sc 53 6 [l0, l1, l2] [.int z0, .ref a, t0] (zst p iv) Q ↔ zEv sc 45 0 [.ref a, .int z0] [] (zst p iv) (fun r h9 => zEv sc 53 9 [l0, l1, l2] (r.toList ++ [t0]) h9 Q) := zE_call (kd := 0) (na := 2) (nr := 1) (as := [.ref a, .int z0]) (rest := [t0]) (Or.inl ⟨rfl, rfl⟩) dz53_6 (by decide +kernel : z_lk2 zCT (z_cls 53) 75 = some (45, 1, 607)) (fun z => by cases z) rfl rfl rfl (by decide +kernel) rfl rfl (Or.inr (zE_rc ho))
theorem dz53_9 : decode (z_code 53) 9 = .ok (.bipush 48, 2) := by decide +kernel
theorem u53_9 : zEv sc 53 9 [l0, l1, l2] [t0, t1] h Q ↔ zEv sc 53 11 [l0, l1, l2] [.int 48, t0, t1] h Q := zE_bipush dz53_9 (by decide +kernel)
theorem dz53_11 : decode (z_code 53) 11 = .ok (.isub, 1) := by decide +kernel
theorem u53_11 : zEv sc 53 11 [l0, l1, l2] [.int x2, .int x1, t0] h Q ↔ zEv sc 53 12 [l0, l1, l2] [.int (x1 - x2), t0] h Q := zE_pure (q := (12, [l0, l1, l2], [.int (x1 - x2), t0])) dz53_11 rfl rfl rfl
theorem dz53_12 : decode (z_code 53) 12 = .ok (.putfield 24, 3) := by decide +kernel
theorem u53_12 (ho : zO a 8) : zEv sc 53 12 [l0, l1, l2] [.int x, .ref a] (zst p iv) Q ↔ zEv sc 53 15 [l0, l1, l2] [] (zst p (w2 iv a 4 x)) Q := zE_pfI dz53_12 (by decide +kernel : z_lk3 zFT (z_cls 53) 24 = some (8, 4, 0, 251)) (by decide +kernel) (by decide +kernel) (by decide +kernel) ho
theorem dz53_15 : decode (z_code 53) 15 = .ok (.aload_n 0, 1) := by decide +kernel
theorem u53_15 : zEv sc 53 15 [.ref a, l1, l2] [] h Q ↔ zEv sc 53 16 [.ref a, l1, l2] [.ref a] h Q := zE_pure (q := (16, [.ref a, l1, l2], [.ref a])) dz53_15 rfl rfl rfl
theorem dz53_16 : decode (z_code 53) 16 = .ok (.getfield 24, 3) := by decide +kernel
theorem u53_16 (ho : zO a 8) : zEv sc 53 16 [l0, l1, l2] [.ref a] (zst p iv) Q ↔ zEv sc 53 19 [l0, l1, l2] [.int (iv a 4)] (zst p iv) Q := zE_gfI dz53_16 (by decide +kernel : z_lk3 zFT (z_cls 53) 24 = some (8, 4, 0, 251)) (by decide +kernel) ho
theorem dz53_19 : decode (z_code 53) 19 = .ok (.invokestatic 79, 3) := by decide +kernel
theorem u53_19 : zEv sc 53 19 [l0, l1, l2] [.int z0] h Q ↔ zEv sc 47 0 [.int z0] [] h (fun r h9 => zEv sc 53 22 [l0, l1, l2] (r.toList ++ []) h9 Q) := zE_call (kd := 1) (na := 1) (nr := 0) (as := [.int z0]) (rest := []) (Or.inr ⟨rfl, rfl⟩) dz53_19 (by decide +kernel : z_lk2 zCT (z_cls 53) 79 = some (47, 1, 611)) (fun _ => ⟨by decide +kernel, by decide +kernel⟩) rfl rfl rfl (by decide +kernel) rfl rfl (Or.inl rfl)
theorem dz53_22 : decode (z_code 53) 22 = .ok (.ifCond .ne 5, 3) := by decide +kernel
theorem u53_22 : zEv sc 53 22 [l0, l1, l2] [.int x] h Q ↔ (if ¬ x = 0 then zEv sc 53 27 [l0, l1, l2] [] h Q else zEv sc 53 25 [l0, l1, l2] [] h Q) := zE_ifP (P := ¬ x = 0) inferInstance 27 dz53_22 rfl rfl
theorem dz53_25 : decode (z_code 53) 25 = .ok (.iconst 0, 1) := by decide +kernel
theorem u53_25 : zEv sc 53 25 [l0, l1, l2] [] h Q ↔ zEv sc 53 26 [l0, l1, l2] [.int 0] h Q := zE_iconst dz53_25 (by decide +kernel)
theorem dz53_26 : decode (z_code 53) 26 = .ok (.ireturn, 1) := by decide +kernel
theorem u53_26 : zEv sc 53 26 [l0, l1, l2] [.int x] h Q ↔ ((x = 0 ∨ x = 1) ∧ Q (some (.int x)) h) := zE_rz dz53_26 (by decide +kernel)
theorem dz53_27 : decode (z_code 53) 27 = .ok (.aload_n 0, 1) := by decide +kernel
theorem u53_27 : zEv sc 53 27 [.ref a, l1, l2] [] h Q ↔ zEv sc 53 28 [.ref a, l1, l2] [.ref a] h Q := zE_pure (q := (28, [.ref a, l1, l2], [.ref a])) dz53_27 rfl rfl rfl
theorem dz53_28 : decode (z_code 53) 28 = .ok (.dup, 1) := by decide +kernel
theorem u53_28 : zEv sc 53 28 [l0, l1, l2] [.ref a] h Q ↔ zEv sc 53 29 [l0, l1, l2] [.ref a, .ref a] h Q := zE_pure (q := (29, [l0, l1, l2], [.ref a, .ref a])) dz53_28 rfl rfl rfl
theorem dz53_29 : decode (z_code 53) 29 = .ok (.getfield 21, 3) := by decide +kernel
theorem u53_29 (ho : zO a 8) : zEv sc 53 29 [l0, l1, l2] [.ref a, t0] (zst p iv) Q ↔ zEv sc 53 32 [l0, l1, l2] [.int (iv a 3), t0] (zst p iv) Q := zE_gfI dz53_29 (by decide +kernel : z_lk3 zFT (z_cls 53) 21 = some (8, 3, 0, 250)) (by decide +kernel) ho
theorem dz53_32 : decode (z_code 53) 32 = .ok (.iconst 1, 1) := by decide +kernel
theorem u53_32 : zEv sc 53 32 [l0, l1, l2] [t0, t1] h Q ↔ zEv sc 53 33 [l0, l1, l2] [.int 1, t0, t1] h Q := zE_iconst dz53_32 (by decide +kernel)
theorem dz53_33 : decode (z_code 53) 33 = .ok (.iadd, 1) := by decide +kernel
theorem u53_33 : zEv sc 53 33 [l0, l1, l2] [.int x2, .int x1, t0] h Q ↔ zEv sc 53 34 [l0, l1, l2] [.int (x1 + x2), t0] h Q := zE_pure (q := (34, [l0, l1, l2], [.int (x1 + x2), t0])) dz53_33 rfl rfl rfl
theorem dz53_34 : decode (z_code 53) 34 = .ok (.putfield 21, 3) := by decide +kernel
theorem u53_34 (ho : zO a 8) : zEv sc 53 34 [l0, l1, l2] [.int x, .ref a] (zst p iv) Q ↔ zEv sc 53 37 [l0, l1, l2] [] (zst p (w2 iv a 3 x)) Q := zE_pfI dz53_34 (by decide +kernel : z_lk3 zFT (z_cls 53) 21 = some (8, 3, 0, 250)) (by decide +kernel) (by decide +kernel) (by decide +kernel) ho
theorem dz53_37 : decode (z_code 53) 37 = .ok (.aload_n 0, 1) := by decide +kernel
theorem u53_37 : zEv sc 53 37 [.ref a, l1, l2] [] h Q ↔ zEv sc 53 38 [.ref a, l1, l2] [.ref a] h Q := zE_pure (q := (38, [.ref a, l1, l2], [.ref a])) dz53_37 rfl rfl rfl
theorem dz53_38 : decode (z_code 53) 38 = .ok (.aload_n 1, 1) := by decide +kernel
theorem u53_38 : zEv sc 53 38 [l0, .ref a, l2] [t0] h Q ↔ zEv sc 53 39 [l0, .ref a, l2] [.ref a, t0] h Q := zE_pure (q := (39, [l0, .ref a, l2], [.ref a, t0])) dz53_38 rfl rfl rfl
theorem dz53_39 : decode (z_code 53) 39 = .ok (.bipush 58, 2) := by decide +kernel
theorem u53_39 : zEv sc 53 39 [l0, l1, l2] [t0, t1] h Q ↔ zEv sc 53 41 [l0, l1, l2] [.int 58, t0, t1] h Q := zE_bipush dz53_39 (by decide +kernel)
theorem dz53_41 : decode (z_code 53) 41 = .ok (.invokevirtual 82, 3) := by decide +kernel
theorem u53_41 (ho : zO a 8) : zEv sc 53 41 [l0, l1, l2] [.int z0, .ref b0, .ref a] (zst p iv) Q ↔ zEv sc 48 0 [.ref a, .ref b0, .int z0] [] (zst p iv) (fun r h9 => zEv sc 53 44 [l0, l1, l2] (r.toList ++ []) h9 Q) := zE_call (kd := 0) (na := 3) (nr := 0) (as := [.ref a, .ref b0, .int z0]) (rest := []) (Or.inl ⟨rfl, rfl⟩) dz53_41 (by decide +kernel : z_lk2 zCT (z_cls 53) 82 = some (48, 0, 612)) (fun z => by cases z) rfl rfl rfl (by decide +kernel) rfl rfl (Or.inr (zE_rc ho))
theorem dz53_44 : decode (z_code 53) 44 = .ok (.ifCond .eq 12, 3) := by decide +kernel
theorem u53_44 : zEv sc 53 44 [l0, l1, l2] [.int x] h Q ↔ (if x = 0 then zEv sc 53 56 [l0, l1, l2] [] h Q else zEv sc 53 47 [l0, l1, l2] [] h Q) := zE_ifP (P := x = 0) inferInstance 56 dz53_44 rfl rfl
theorem dz53_47 : decode (z_code 53) 47 = .ok (.aload_n 0, 1) := by decide +kernel
theorem u53_47 : zEv sc 53 47 [.ref a, l1, l2] [] h Q ↔ zEv sc 53 48 [.ref a, l1, l2] [.ref a] h Q := zE_pure (q := (48, [.ref a, l1, l2], [.ref a])) dz53_47 rfl rfl rfl
theorem dz53_48 : decode (z_code 53) 48 = .ok (.aload_n 1, 1) := by decide +kernel
theorem u53_48 : zEv sc 53 48 [l0, .ref a, l2] [t0] h Q ↔ zEv sc 53 49 [l0, .ref a, l2] [.ref a, t0] h Q := zE_pure (q := (49, [l0, .ref a, l2], [.ref a, t0])) dz53_48 rfl rfl rfl
theorem dz53_49 : decode (z_code 53) 49 = .ok (.iload_n 2, 1) := by decide +kernel
theorem u53_49 : zEv sc 53 49 [l0, l1, .int x] [t0, t1] h Q ↔ zEv sc 53 50 [l0, l1, .int x] [.int x, t0, t1] h Q := zE_pure (q := (50, [l0, l1, .int x], [.int x, t0, t1])) dz53_49 rfl rfl rfl
theorem dz53_50 : decode (z_code 53) 50 = .ok (.invokevirtual 86, 3) := by decide +kernel
theorem u53_50 (ho : zO a 8) : zEv sc 53 50 [l0, l1, l2] [.int z0, .ref b0, .ref a] (zst p iv) Q ↔ zEv sc 51 0 [.ref a, .ref b0, .int z0, .null] [] (zst p iv) (fun r h9 => zEv sc 53 53 [l0, l1, l2] (r.toList ++ []) h9 Q) := zE_call (kd := 0) (na := 3) (nr := 0) (as := [.ref a, .ref b0, .int z0]) (rest := []) (Or.inl ⟨rfl, rfl⟩) dz53_50 (by decide +kernel : z_lk2 zCT (z_cls 53) 86 = some (51, 0, 616)) (fun z => by cases z) rfl rfl rfl (by decide +kernel) rfl rfl (Or.inr (zE_rc ho))
theorem dz53_53 : decode (z_code 53) 53 = .ok (.ifCond .ne 5, 3) := by decide +kernel
theorem u53_53 : zEv sc 53 53 [l0, l1, l2] [.int x] h Q ↔ (if ¬ x = 0 then zEv sc 53 58 [l0, l1, l2] [] h Q else zEv sc 53 56 [l0, l1, l2] [] h Q) := zE_ifP (P := ¬ x = 0) inferInstance 58 dz53_53 rfl rfl
theorem dz53_58 : decode (z_code 53) 58 = .ok (.aload_n 0, 1) := by decide +kernel
theorem u53_58 : zEv sc 53 58 [.ref a, l1, l2] [] h Q ↔ zEv sc 53 59 [.ref a, l1, l2] [.ref a] h Q := zE_pure (q := (59, [.ref a, l1, l2], [.ref a])) dz53_58 rfl rfl rfl
theorem dz53_59 : decode (z_code 53) 59 = .ok (.iconst 1, 1) := by decide +kernel
theorem u53_59 : zEv sc 53 59 [l0, l1, l2] [t0] h Q ↔ zEv sc 53 60 [l0, l1, l2] [.int 1, t0] h Q := zE_iconst dz53_59 (by decide +kernel)
theorem dz53_60 : decode (z_code 53) 60 = .ok (.putfield 30, 3) := by decide +kernel
theorem u53_60 (ho : zO a 8) : zEv sc 53 60 [l0, l1, l2] [.int x, .ref a] (zst p iv) Q ↔ zEv sc 53 63 [l0, l1, l2] [] (zst p (w2 iv a 6 x)) Q := zE_pfI dz53_60 (by decide +kernel : z_lk3 zFT (z_cls 53) 30 = some (8, 6, 0, 253)) (by decide +kernel) (by decide +kernel) (by decide +kernel) ho
theorem dz53_63 : decode (z_code 53) 63 = .ok (.aload_n 0, 1) := by decide +kernel
theorem u53_63 : zEv sc 53 63 [.ref a, l1, l2] [] h Q ↔ zEv sc 53 64 [.ref a, l1, l2] [.ref a] h Q := zE_pure (q := (64, [.ref a, l1, l2], [.ref a])) dz53_63 rfl rfl rfl
theorem dz53_64 : decode (z_code 53) 64 = .ok (.aload_n 1, 1) := by decide +kernel
theorem u53_64 : zEv sc 53 64 [l0, .ref a, l2] [t0] h Q ↔ zEv sc 53 65 [l0, .ref a, l2] [.ref a, t0] h Q := zE_pure (q := (65, [l0, .ref a, l2], [.ref a, t0])) dz53_64 rfl rfl rfl
theorem dz53_65 : decode (z_code 53) 65 = .ok (.bipush 42, 2) := by decide +kernel
theorem u53_65 : zEv sc 53 65 [l0, l1, l2] [t0, t1] h Q ↔ zEv sc 53 67 [l0, l1, l2] [.int 42, t0, t1] h Q := zE_bipush dz53_65 (by decide +kernel)
theorem dz53_67 : decode (z_code 53) 67 = .ok (.invokevirtual 82, 3) := by decide +kernel
theorem u53_67 (ho : zO a 8) : zEv sc 53 67 [l0, l1, l2] [.int z0, .ref b0, .ref a] (zst p iv) Q ↔ zEv sc 48 0 [.ref a, .ref b0, .int z0] [] (zst p iv) (fun r h9 => zEv sc 53 70 [l0, l1, l2] (r.toList ++ []) h9 Q) := zE_call (kd := 0) (na := 3) (nr := 0) (as := [.ref a, .ref b0, .int z0]) (rest := []) (Or.inl ⟨rfl, rfl⟩) dz53_67 (by decide +kernel : z_lk2 zCT (z_cls 53) 82 = some (48, 0, 612)) (fun z => by cases z) rfl rfl rfl (by decide +kernel) rfl rfl (Or.inr (zE_rc ho))
theorem dz53_70 : decode (z_code 53) 70 = .ok (.ifCond .eq 13, 3) := by decide +kernel
theorem u53_70 : zEv sc 53 70 [l0, l1, l2] [.int x] h Q ↔ (if x = 0 then zEv sc 53 83 [l0, l1, l2] [] h Q else zEv sc 53 73 [l0, l1, l2] [] h Q) := zE_ifP (P := x = 0) inferInstance 83 dz53_70 rfl rfl
theorem dz53_73 : decode (z_code 53) 73 = .ok (.aload_n 0, 1) := by decide +kernel
theorem u53_73 : zEv sc 53 73 [.ref a, l1, l2] [] h Q ↔ zEv sc 53 74 [.ref a, l1, l2] [.ref a] h Q := zE_pure (q := (74, [.ref a, l1, l2], [.ref a])) dz53_73 rfl rfl rfl
theorem dz53_74 : decode (z_code 53) 74 = .ok (.aload_n 1, 1) := by decide +kernel
theorem u53_74 : zEv sc 53 74 [l0, .ref a, l2] [t0] h Q ↔ zEv sc 53 75 [l0, .ref a, l2] [.ref a, t0] h Q := zE_pure (q := (75, [l0, .ref a, l2], [.ref a, t0])) dz53_74 rfl rfl rfl
theorem dz53_75 : decode (z_code 53) 75 = .ok (.invokevirtual 89, 3) := by decide +kernel
theorem u53_75 (ho : zO a 8) : zEv sc 53 75 [l0, l1, l2] [.ref b0, .ref a] (zst p iv) Q ↔ zEv sc 52 0 [.ref a, .ref b0] [] (zst p iv) (fun r h9 => zEv sc 53 78 [l0, l1, l2] (r.toList ++ []) h9 Q) := zE_call (kd := 0) (na := 2) (nr := 0) (as := [.ref a, .ref b0]) (rest := []) (Or.inl ⟨rfl, rfl⟩) dz53_75 (by decide +kernel : z_lk2 zCT (z_cls 53) 89 = some (52, 0, 629)) (fun z => by cases z) rfl rfl rfl (by decide +kernel) rfl rfl (Or.inr (zE_rc ho))
theorem dz53_78 : decode (z_code 53) 78 = .ok (.ifCond .ne 5, 3) := by decide +kernel
theorem u53_78 : zEv sc 53 78 [l0, l1, l2] [.int x] h Q ↔ (if ¬ x = 0 then zEv sc 53 83 [l0, l1, l2] [] h Q else zEv sc 53 81 [l0, l1, l2] [] h Q) := zE_ifP (P := ¬ x = 0) inferInstance 83 dz53_78 rfl rfl
theorem dz53_81 : decode (z_code 53) 81 = .ok (.iconst 0, 1) := by decide +kernel
theorem u53_81 : zEv sc 53 81 [l0, l1, l2] [] h Q ↔ zEv sc 53 82 [l0, l1, l2] [.int 0] h Q := zE_iconst dz53_81 (by decide +kernel)
theorem dz53_82 : decode (z_code 53) 82 = .ok (.ireturn, 1) := by decide +kernel
theorem u53_82 : zEv sc 53 82 [l0, l1, l2] [.int x] h Q ↔ ((x = 0 ∨ x = 1) ∧ Q (some (.int x)) h) := zE_rz dz53_82 (by decide +kernel)
theorem dz53_83 : decode (z_code 53) 83 = .ok (.aload_n 0, 1) := by decide +kernel
theorem u53_83 : zEv sc 53 83 [.ref a, l1, l2] [] h Q ↔ zEv sc 53 84 [.ref a, l1, l2] [.ref a] h Q := zE_pure (q := (84, [.ref a, l1, l2], [.ref a])) dz53_83 rfl rfl rfl
theorem dz53_84 : decode (z_code 53) 84 = .ok (.aload_n 1, 1) := by decide +kernel
theorem u53_84 : zEv sc 53 84 [l0, .ref a, l2] [t0] h Q ↔ zEv sc 53 85 [l0, .ref a, l2] [.ref a, t0] h Q := zE_pure (q := (85, [l0, .ref a, l2], [.ref a, t0])) dz53_84 rfl rfl rfl
theorem dz53_85 : decode (z_code 53) 85 = .ok (.bipush 59, 2) := by decide +kernel
theorem u53_85 : zEv sc 53 85 [l0, l1, l2] [t0, t1] h Q ↔ zEv sc 53 87 [l0, l1, l2] [.int 59, t0, t1] h Q := zE_bipush dz53_85 (by decide +kernel)
theorem dz53_87 : decode (z_code 53) 87 = .ok (.invokevirtual 82, 3) := by decide +kernel
theorem u53_87 (ho : zO a 8) : zEv sc 53 87 [l0, l1, l2] [.int z0, .ref b0, .ref a] (zst p iv) Q ↔ zEv sc 48 0 [.ref a, .ref b0, .int z0] [] (zst p iv) (fun r h9 => zEv sc 53 90 [l0, l1, l2] (r.toList ++ []) h9 Q) := zE_call (kd := 0) (na := 3) (nr := 0) (as := [.ref a, .ref b0, .int z0]) (rest := []) (Or.inl ⟨rfl, rfl⟩) dz53_87 (by decide +kernel : z_lk2 zCT (z_cls 53) 82 = some (48, 0, 612)) (fun z => by cases z) rfl rfl rfl (by decide +kernel) rfl rfl (Or.inr (zE_rc ho))
theorem dz53_90 : decode (z_code 53) 90 = .ok (.ireturn, 1) := by decide +kernel
theorem u53_90 : zEv sc 53 90 [l0, l1, l2] [.int x] h Q ↔ ((x = 0 ∨ x = 1) ∧ Q (some (.int x)) h) := zE_rz dz53_90 (by decide +kernel)
theorem dz53_56 : decode (z_code 53) 56 = .ok (.iconst 0, 1) := by decide +kernel
theorem u53_56 : zEv sc 53 56 [l0, l1, l2] [] h Q ↔ zEv sc 53 57 [l0, l1, l2] [.int 0] h Q := zE_iconst dz53_56 (by decide +kernel)
theorem dz53_57 : decode (z_code 53) 57 = .ok (.ireturn, 1) := by decide +kernel
theorem u53_57 : zEv sc 53 57 [l0, l1, l2] [.int x] h Q ↔ ((x = 0 ∨ x = 1) ∧ Q (some (.int x)) h) := zE_rz dz53_57 (by decide +kernel)
/-! method 54: FieldMixtures$TextReader.readPart(LFieldMixtures$Contest;LFieldMixtures$Text;)I -/
theorem dz54_0 : decode (z_code 54) 0 = .ok (.aload_n 0, 1) := by decide +kernel
theorem u54_0 : zEv sc 54 0 [.ref a, l1, l2, l3] [] h Q ↔ zEv sc 54 1 [.ref a, l1, l2, l3] [.ref a] h Q := zE_pure (q := (1, [.ref a, l1, l2, l3], [.ref a])) dz54_0 rfl rfl rfl
theorem dz54_1 : decode (z_code 54) 1 = .ok (.aload_n 2, 1) := by decide +kernel
theorem u54_1 : zEv sc 54 1 [l0, l1, .ref a, l3] [t0] h Q ↔ zEv sc 54 2 [l0, l1, .ref a, l3] [.ref a, t0] h Q := zE_pure (q := (2, [l0, l1, .ref a, l3], [.ref a, t0])) dz54_1 rfl rfl rfl
theorem dz54_2 : decode (z_code 54) 2 = .ok (.aload_n 1, 1) := by decide +kernel
theorem u54_2 : zEv sc 54 2 [l0, .ref a, l2, l3] [t0, t1] h Q ↔ zEv sc 54 3 [l0, .ref a, l2, l3] [.ref a, t0, t1] h Q := zE_pure (q := (3, [l0, .ref a, l2, l3], [.ref a, t0, t1])) dz54_2 rfl rfl rfl
theorem dz54_3 : decode (z_code 54) 3 = .ok (.getfield 42, 3) := by decide +kernel
theorem u54_3 (ho : zO a 2) : zEv sc 54 3 [l0, l1, l2, l3] [.ref a, t0, t1] (zst p iv) Q ↔ zEv sc 54 6 [l0, l1, l2, l3] [.int (iv a 0), t0, t1] (zst p iv) Q := zE_gfI dz54_3 (by decide +kernel : z_lk3 zFT (z_cls 54) 42 = some (2, 0, 1, 133)) (by decide +kernel) ho
theorem dz54_6 : decode (z_code 54) 6 = .ok (.invokevirtual 47, 3) := by decide +kernel
theorem u54_6 (ho : zO a 8) : zEv sc 54 6 [l0, l1, l2, l3] [.int z0, .ref b0, .ref a] (zst p iv) Q ↔ zEv sc 53 0 [.ref a, .ref b0, .int z0] [] (zst p iv) (fun r h9 => zEv sc 54 9 [l0, l1, l2, l3] (r.toList ++ []) h9 Q) := zE_call (kd := 0) (na := 3) (nr := 0) (as := [.ref a, .ref b0, .int z0]) (rest := []) (Or.inl ⟨rfl, rfl⟩) dz54_6 (by decide +kernel : z_lk2 zCT (z_cls 54) 47 = some (53, 0, 603)) (fun z => by cases z) rfl rfl rfl (by decide +kernel) rfl rfl (Or.inr (zE_rc ho))
theorem dz54_9 : decode (z_code 54) 9 = .ok (.ifCond .ne 5, 3) := by decide +kernel
theorem u54_9 : zEv sc 54 9 [l0, l1, l2, l3] [.int x] h Q ↔ (if ¬ x = 0 then zEv sc 54 14 [l0, l1, l2, l3] [] h Q else zEv sc 54 12 [l0, l1, l2, l3] [] h Q) := zE_ifP (P := ¬ x = 0) inferInstance 14 dz54_9 rfl rfl
theorem dz54_12 : decode (z_code 54) 12 = .ok (.iconst 1, 1) := by decide +kernel
theorem u54_12 : zEv sc 54 12 [l0, l1, l2, l3] [] h Q ↔ zEv sc 54 13 [l0, l1, l2, l3] [.int 1] h Q := zE_iconst dz54_12 (by decide +kernel)
theorem dz54_13 : decode (z_code 54) 13 = .ok (.ireturn, 1) := by decide +kernel
theorem u54_13 : zEv sc 54 13 [l0, l1, l2, l3] [.int x] h Q ↔ Q (some (.int x)) h := zE_ri dz54_13 (by decide +kernel)
theorem dz54_14 : decode (z_code 54) 14 = .ok (.aload_n 0, 1) := by decide +kernel
theorem u54_14 : zEv sc 54 14 [.ref a, l1, l2, l3] [] h Q ↔ zEv sc 54 15 [.ref a, l1, l2, l3] [.ref a] h Q := zE_pure (q := (15, [.ref a, l1, l2, l3], [.ref a])) dz54_14 rfl rfl rfl
theorem dz54_15 : decode (z_code 54) 15 = .ok (.getfield 30, 3) := by decide +kernel
theorem u54_15 (ho : zO a 8) : zEv sc 54 15 [l0, l1, l2, l3] [.ref a] (zst p iv) Q ↔ zEv sc 54 18 [l0, l1, l2, l3] [.int (iv a 6)] (zst p iv) Q := zE_gfI dz54_15 (by decide +kernel : z_lk3 zFT (z_cls 54) 30 = some (8, 6, 0, 253)) (by decide +kernel) ho
theorem dz54_18 : decode (z_code 54) 18 = .ok (.ifCond .eq 18, 3) := by decide +kernel
theorem u54_18 : zEv sc 54 18 [l0, l1, l2, l3] [.int x] h Q ↔ (if x = 0 then zEv sc 54 36 [l0, l1, l2, l3] [] h Q else zEv sc 54 21 [l0, l1, l2, l3] [] h Q) := zE_ifP (P := x = 0) inferInstance 36 dz54_18 rfl rfl
theorem dz54_21 : decode (z_code 54) 21 = .ok (.aload_n 1, 1) := by decide +kernel
theorem u54_21 : zEv sc 54 21 [l0, .ref a, l2, l3] [] h Q ↔ zEv sc 54 22 [l0, .ref a, l2, l3] [.ref a] h Q := zE_pure (q := (22, [l0, .ref a, l2, l3], [.ref a])) dz54_21 rfl rfl rfl
theorem dz54_22 : decode (z_code 54) 22 = .ok (.aload_n 0, 1) := by decide +kernel
theorem u54_22 : zEv sc 54 22 [.ref a, l1, l2, l3] [t0] h Q ↔ zEv sc 54 23 [.ref a, l1, l2, l3] [.ref a, t0] h Q := zE_pure (q := (23, [.ref a, l1, l2, l3], [.ref a, t0])) dz54_22 rfl rfl rfl
theorem dz54_23 : decode (z_code 54) 23 = .ok (.getfield 24, 3) := by decide +kernel
theorem u54_23 (ho : zO a 8) : zEv sc 54 23 [l0, l1, l2, l3] [.ref a, t0] (zst p iv) Q ↔ zEv sc 54 26 [l0, l1, l2, l3] [.int (iv a 4), t0] (zst p iv) Q := zE_gfI dz54_23 (by decide +kernel : z_lk3 zFT (z_cls 54) 24 = some (8, 4, 0, 251)) (by decide +kernel) ho
theorem dz54_26 : decode (z_code 54) 26 = .ok (.aload_n 0, 1) := by decide +kernel
theorem u54_26 : zEv sc 54 26 [.ref a, l1, l2, l3] [t0, t1] h Q ↔ zEv sc 54 27 [.ref a, l1, l2, l3] [.ref a, t0, t1] h Q := zE_pure (q := (27, [.ref a, l1, l2, l3], [.ref a, t0, t1])) dz54_26 rfl rfl rfl
theorem dz54_27 : decode (z_code 54) 27 = .ok (.getfield 27, 3) := by decide +kernel
theorem u54_27 (ho : zO a 8) : zEv sc 54 27 [l0, l1, l2, l3] [.ref a, t0, t1] (zst p iv) Q ↔ zEv sc 54 30 [l0, l1, l2, l3] [.int (iv a 5), t0, t1] (zst p iv) Q := zE_gfI dz54_27 (by decide +kernel : z_lk3 zFT (z_cls 54) 27 = some (8, 5, 0, 252)) (by decide +kernel) ho
theorem dz54_30 : decode (z_code 54) 30 = .ok (.invokevirtual 51, 3) := by decide +kernel
theorem u54_30 (ho : zO a 2) : zEv sc 54 30 [l0, l1, l2, l3] [.int z1, .int z0, .ref a] (zst p iv) Q ↔ zEv sc 17 0 [.ref a, .int z0, .int z1] [] (zst p iv) (fun r h9 => zEv sc 54 33 [l0, l1, l2, l3] (r.toList ++ []) h9 Q) := zE_call (kd := 0) (na := 3) (nr := 0) (as := [.ref a, .int z0, .int z1]) (rest := []) (Or.inl ⟨rfl, rfl⟩) dz54_30 (by decide +kernel : z_lk2 zCT (z_cls 54) 51 = some (17, 1, 633)) (fun z => by cases z) rfl rfl rfl (by decide +kernel) rfl rfl (Or.inr (zE_rc ho))
theorem dz54_33 : decode (z_code 54) 33 = .ok (.ifCond .ne 5, 3) := by decide +kernel
theorem u54_33 : zEv sc 54 33 [l0, l1, l2, l3] [.int x] h Q ↔ (if ¬ x = 0 then zEv sc 54 38 [l0, l1, l2, l3] [] h Q else zEv sc 54 36 [l0, l1, l2, l3] [] h Q) := zE_ifP (P := ¬ x = 0) inferInstance 38 dz54_33 rfl rfl
theorem dz54_38 : decode (z_code 54) 38 = .ok (.aload_n 1, 1) := by decide +kernel
theorem u54_38 : zEv sc 54 38 [l0, .ref a, l2, l3] [] h Q ↔ zEv sc 54 39 [l0, .ref a, l2, l3] [.ref a] h Q := zE_pure (q := (39, [l0, .ref a, l2, l3], [.ref a])) dz54_38 rfl rfl rfl
theorem dz54_39 : decode (z_code 54) 39 = .ok (.aload_n 0, 1) := by decide +kernel
theorem u54_39 : zEv sc 54 39 [.ref a, l1, l2, l3] [t0] h Q ↔ zEv sc 54 40 [.ref a, l1, l2, l3] [.ref a, t0] h Q := zE_pure (q := (40, [.ref a, l1, l2, l3], [.ref a, t0])) dz54_39 rfl rfl rfl
theorem dz54_40 : decode (z_code 54) 40 = .ok (.getfield 24, 3) := by decide +kernel
theorem u54_40 (ho : zO a 8) : zEv sc 54 40 [l0, l1, l2, l3] [.ref a, t0] (zst p iv) Q ↔ zEv sc 54 43 [l0, l1, l2, l3] [.int (iv a 4), t0] (zst p iv) Q := zE_gfI dz54_40 (by decide +kernel : z_lk3 zFT (z_cls 54) 24 = some (8, 4, 0, 251)) (by decide +kernel) ho
theorem dz54_43 : decode (z_code 54) 43 = .ok (.invokevirtual 55, 3) := by decide +kernel
theorem u54_43 (ho : zO a 2) : zEv sc 54 43 [l0, l1, l2, l3] [.int z0, .ref a] (zst p iv) Q ↔ zEv sc 14 0 [.ref a, .int z0] [] (zst p iv) (fun r h9 => zEv sc 54 46 [l0, l1, l2, l3] (r.toList ++ []) h9 Q) := zE_call (kd := 0) (na := 2) (nr := 0) (as := [.ref a, .int z0]) (rest := []) (Or.inl ⟨rfl, rfl⟩) dz54_43 (by decide +kernel : z_lk2 zCT (z_cls 54) 55 = some (14, 1, 634)) (fun z => by cases z) rfl rfl rfl (by decide +kernel) rfl rfl (Or.inr (zE_rc ho))
theorem dz54_46 : decode (z_code 54) 46 = .ok (.getfield 59, 3) := by decide +kernel
theorem u54_46 (ho : zO a 6) : zEv sc 54 46 [l0, l1, l2, l3] [.ref a] (zst p iv) Q ↔ zRef (zRV p a 2) (fun j => zEv sc 54 49 [l0, l1, l2, l3] [.ref j] (zst p iv) Q) := zE_gfR dz54_46 (by decide +kernel : z_lk3 zFT (z_cls 54) 59 = some (6, 2, 1, 113)) (by decide +kernel) ho
theorem dz54_49 : decode (z_code 54) 49 = .ok (.astore_n 3, 1) := by decide +kernel
theorem u54_49 : zEv sc 54 49 [l0, l1, l2, l3] [.ref a] h Q ↔ zEv sc 54 50 [l0, l1, l2, .ref a] [] h Q := zE_pure (q := (50, [l0, l1, l2, .ref a], [])) dz54_49 rfl rfl rfl
theorem dz54_50 : decode (z_code 54) 50 = .ok (.aload_n 3, 1) := by decide +kernel
theorem u54_50 : zEv sc 54 50 [l0, l1, l2, .ref a] [] h Q ↔ zEv sc 54 51 [l0, l1, l2, .ref a] [.ref a] h Q := zE_pure (q := (51, [l0, l1, l2, .ref a], [.ref a])) dz54_50 rfl rfl rfl
theorem dz54_51 : decode (z_code 54) 51 = .ok (.aload_n 0, 1) := by decide +kernel
theorem u54_51 : zEv sc 54 51 [.ref a, l1, l2, l3] [t0] h Q ↔ zEv sc 54 52 [.ref a, l1, l2, l3] [.ref a, t0] h Q := zE_pure (q := (52, [.ref a, l1, l2, l3], [.ref a, t0])) dz54_51 rfl rfl rfl
theorem dz54_52 : decode (z_code 54) 52 = .ok (.getfield 27, 3) := by decide +kernel
theorem u54_52 (ho : zO a 8) : zEv sc 54 52 [l0, l1, l2, l3] [.ref a, t0] (zst p iv) Q ↔ zEv sc 54 55 [l0, l1, l2, l3] [.int (iv a 5), t0] (zst p iv) Q := zE_gfI dz54_52 (by decide +kernel : z_lk3 zFT (z_cls 54) 27 = some (8, 5, 0, 252)) (by decide +kernel) ho
theorem dz54_55 : decode (z_code 54) 55 = .ok (.invokevirtual 65, 3) := by decide +kernel
theorem u54_55 (ho : zO a 4) : zEv sc 54 55 [l0, l1, l2, l3] [.int z0, .ref a] (zst p iv) Q ↔ zEv sc 31 0 [.ref a, .int z0] [] (zst p iv) (fun r h9 => zEv sc 54 58 [l0, l1, l2, l3] (r.toList ++ []) h9 Q) := zE_call (kd := 0) (na := 2) (nr := 0) (as := [.ref a, .int z0]) (rest := []) (Or.inl ⟨rfl, rfl⟩) dz54_55 (by decide +kernel : z_lk2 zCT (z_cls 54) 65 = some (31, 1, 635)) (fun z => by cases z) rfl rfl rfl (by decide +kernel) rfl rfl (Or.inr (zE_rc ho))
theorem dz54_58 : decode (z_code 54) 58 = .ok (.ifCond .ne 5, 3) := by decide +kernel
theorem u54_58 : zEv sc 54 58 [l0, l1, l2, l3] [.int x] h Q ↔ (if ¬ x = 0 then zEv sc 54 63 [l0, l1, l2, l3] [] h Q else zEv sc 54 61 [l0, l1, l2, l3] [] h Q) := zE_ifP (P := ¬ x = 0) inferInstance 63 dz54_58 rfl rfl
theorem dz54_61 : decode (z_code 54) 61 = .ok (.iconst 3, 1) := by decide +kernel
theorem u54_61 : zEv sc 54 61 [l0, l1, l2, l3] [] h Q ↔ zEv sc 54 62 [l0, l1, l2, l3] [.int 3] h Q := zE_iconst dz54_61 (by decide +kernel)
theorem dz54_62 : decode (z_code 54) 62 = .ok (.ireturn, 1) := by decide +kernel
theorem u54_62 : zEv sc 54 62 [l0, l1, l2, l3] [.int x] h Q ↔ Q (some (.int x)) h := zE_ri dz54_62 (by decide +kernel)
theorem dz54_63 : decode (z_code 54) 63 = .ok (.aload_n 3, 1) := by decide +kernel
theorem u54_63 : zEv sc 54 63 [l0, l1, l2, .ref a] [] h Q ↔ zEv sc 54 64 [l0, l1, l2, .ref a] [.ref a] h Q := zE_pure (q := (64, [l0, l1, l2, .ref a], [.ref a])) dz54_63 rfl rfl rfl
theorem dz54_64 : decode (z_code 54) 64 = .ok (.aload_n 0, 1) := by decide +kernel
theorem u54_64 : zEv sc 54 64 [.ref a, l1, l2, l3] [t0] h Q ↔ zEv sc 54 65 [.ref a, l1, l2, l3] [.ref a, t0] h Q := zE_pure (q := (65, [.ref a, l1, l2, l3], [.ref a, t0])) dz54_64 rfl rfl rfl
theorem dz54_65 : decode (z_code 54) 65 = .ok (.getfield 27, 3) := by decide +kernel
theorem u54_65 (ho : zO a 8) : zEv sc 54 65 [l0, l1, l2, l3] [.ref a, t0] (zst p iv) Q ↔ zEv sc 54 68 [l0, l1, l2, l3] [.int (iv a 5), t0] (zst p iv) Q := zE_gfI dz54_65 (by decide +kernel : z_lk3 zFT (z_cls 54) 27 = some (8, 5, 0, 252)) (by decide +kernel) ho
theorem dz54_68 : decode (z_code 54) 68 = .ok (.aload_n 0, 1) := by decide +kernel
theorem u54_68 : zEv sc 54 68 [.ref a, l1, l2, l3] [t0, t1] h Q ↔ zEv sc 54 69 [.ref a, l1, l2, l3] [.ref a, t0, t1] h Q := zE_pure (q := (69, [.ref a, l1, l2, l3], [.ref a, t0, t1])) dz54_68 rfl rfl rfl
theorem dz54_69 : decode (z_code 54) 69 = .ok (.getfield 30, 3) := by decide +kernel
theorem u54_69 (ho : zO a 8) : zEv sc 54 69 [l0, l1, l2, l3] [.ref a, t0, t1] (zst p iv) Q ↔ zEv sc 54 72 [l0, l1, l2, l3] [.int (iv a 6), t0, t1] (zst p iv) Q := zE_gfI dz54_69 (by decide +kernel : z_lk3 zFT (z_cls 54) 30 = some (8, 6, 0, 253)) (by decide +kernel) ho
theorem dz54_72 : decode (z_code 54) 72 = .ok (.invokevirtual 71, 3) := by decide +kernel
theorem u54_72 (ho : zO a 4) : zEv sc 54 72 [l0, l1, l2, l3] [.int z1, .int z0, .ref a] (zst p iv) Q ↔ zEv sc 33 0 [.ref a, .int z0, .int z1, .null] [] (zst p iv) (fun r h9 => zEv sc 54 75 [l0, l1, l2, l3] (r.toList ++ []) h9 Q) := zE_call (kd := 0) (na := 3) (nr := 0) (as := [.ref a, .int z0, .int z1]) (rest := []) (Or.inl ⟨rfl, rfl⟩) dz54_72 (by decide +kernel : z_lk2 zCT (z_cls 54) 71 = some (33, 1, 636)) (fun z => by cases z) rfl rfl rfl (by decide +kernel) rfl rfl (Or.inr (zE_rc ho))
theorem dz54_75 : decode (z_code 54) 75 = .ok (.iconst 0, 1) := by decide +kernel
theorem u54_75 : zEv sc 54 75 [l0, l1, l2, l3] [] h Q ↔ zEv sc 54 76 [l0, l1, l2, l3] [.int 0] h Q := zE_iconst dz54_75 (by decide +kernel)
theorem dz54_76 : decode (z_code 54) 76 = .ok (.ireturn, 1) := by decide +kernel
theorem u54_76 : zEv sc 54 76 [l0, l1, l2, l3] [.int x] h Q ↔ Q (some (.int x)) h := zE_ri dz54_76 (by decide +kernel)
theorem dz54_36 : decode (z_code 54) 36 = .ok (.iconst 2, 1) := by decide +kernel
theorem u54_36 : zEv sc 54 36 [l0, l1, l2, l3] [] h Q ↔ zEv sc 54 37 [l0, l1, l2, l3] [.int 2] h Q := zE_iconst dz54_36 (by decide +kernel)
theorem dz54_37 : decode (z_code 54) 37 = .ok (.ireturn, 1) := by decide +kernel
theorem u54_37 : zEv sc 54 37 [l0, l1, l2, l3] [.int x] h Q ↔ Q (some (.int x)) h := zE_ri dz54_37 (by decide +kernel)
/-! method 55: FieldMixtures$TextReader.readInto(LFieldMixtures$Contest;LFieldMixtures$Text;)V -/
theorem dz55_0 : decode (z_code 55) 0 = .ok (.aload_n 0, 1) := by decide +kernel
theorem u55_0 : zEv sc 55 0 [.ref a, l1, l2, l3] [] h Q ↔ zEv sc 55 1 [.ref a, l1, l2, l3] [.ref a] h Q := zE_pure (q := (1, [.ref a, l1, l2, l3], [.ref a])) dz55_0 rfl rfl rfl
theorem dz55_1 : decode (z_code 55) 1 = .ok (.iconst 0, 1) := by decide +kernel
theorem u55_1 : zEv sc 55 1 [l0, l1, l2, l3] [t0] h Q ↔ zEv sc 55 2 [l0, l1, l2, l3] [.int 0, t0] h Q := zE_iconst dz55_1 (by decide +kernel)
theorem dz55_2 : decode (z_code 55) 2 = .ok (.putfield 15, 3) := by decide +kernel
theorem u55_2 (ho : zO a 8) : zEv sc 55 2 [l0, l1, l2, l3] [.int x, .ref a] (zst p iv) Q ↔ zEv sc 55 5 [l0, l1, l2, l3] [] (zst p (w2 iv a 1 x)) Q := zE_pfI dz55_2 (by decide +kernel : z_lk3 zFT (z_cls 55) 15 = some (8, 1, 0, 246)) (by decide +kernel) (by decide +kernel) (by decide +kernel) ho
theorem dz55_5 : decode (z_code 55) 5 = .ok (.aload_n 0, 1) := by decide +kernel
theorem u55_5 : zEv sc 55 5 [.ref a, l1, l2, l3] [] h Q ↔ zEv sc 55 6 [.ref a, l1, l2, l3] [.ref a] h Q := zE_pure (q := (6, [.ref a, l1, l2, l3], [.ref a])) dz55_5 rfl rfl rfl
theorem dz55_6 : decode (z_code 55) 6 = .ok (.iconst 0, 1) := by decide +kernel
theorem u55_6 : zEv sc 55 6 [l0, l1, l2, l3] [t0] h Q ↔ zEv sc 55 7 [l0, l1, l2, l3] [.int 0, t0] h Q := zE_iconst dz55_6 (by decide +kernel)
theorem dz55_7 : decode (z_code 55) 7 = .ok (.putfield 21, 3) := by decide +kernel
theorem u55_7 (ho : zO a 8) : zEv sc 55 7 [l0, l1, l2, l3] [.int x, .ref a] (zst p iv) Q ↔ zEv sc 55 10 [l0, l1, l2, l3] [] (zst p (w2 iv a 3 x)) Q := zE_pfI dz55_7 (by decide +kernel : z_lk3 zFT (z_cls 55) 21 = some (8, 3, 0, 250)) (by decide +kernel) (by decide +kernel) (by decide +kernel) ho
theorem dz55_10 : decode (z_code 55) 10 = .ok (.iconst 0, 1) := by decide +kernel
theorem u55_10 : zEv sc 55 10 [l0, l1, l2, l3] [] h Q ↔ zEv sc 55 11 [l0, l1, l2, l3] [.int 0] h Q := zE_iconst dz55_10 (by decide +kernel)
theorem dz55_11 : decode (z_code 55) 11 = .ok (.istore_n 3, 1) := by decide +kernel
theorem u55_11 : zEv sc 55 11 [l0, l1, l2, l3] [.int x] h Q ↔ zEv sc 55 12 [l0, l1, l2, .int x] [] h Q := zE_pure (q := (12, [l0, l1, l2, .int x], [])) dz55_11 rfl rfl rfl
theorem dz55_12 : decode (z_code 55) 12 = .ok (.iload_n 3, 1) := by decide +kernel
theorem u55_12 : zEv sc 55 12 [l0, l1, l2, .int x] [] h Q ↔ zEv sc 55 13 [l0, l1, l2, .int x] [.int x] h Q := zE_pure (q := (13, [l0, l1, l2, .int x], [.int x])) dz55_12 rfl rfl rfl
theorem dz55_13 : decode (z_code 55) 13 = .ok (.bipush 80, 2) := by decide +kernel
theorem u55_13 : zEv sc 55 13 [l0, l1, l2, l3] [t0] h Q ↔ zEv sc 55 15 [l0, l1, l2, l3] [.int 80, t0] h Q := zE_bipush dz55_13 (by decide +kernel)
theorem dz55_15 : decode (z_code 55) 15 = .ok (.if_icmp .ge 58, 3) := by decide +kernel
theorem u55_15 : zEv sc 55 15 [l0, l1, l2, l3] [.int x2, .int x1] h Q ↔ (if x2 ≤ x1 then zEv sc 55 73 [l0, l1, l2, l3] [] h Q else zEv sc 55 18 [l0, l1, l2, l3] [] h Q) := zE_icP (P := x2 ≤ x1) inferInstance 73 dz55_15 rfl rfl
theorem dz55_18 : decode (z_code 55) 18 = .ok (.aload_n 0, 1) := by decide +kernel
theorem u55_18 : zEv sc 55 18 [.ref a, l1, l2, l3] [] h Q ↔ zEv sc 55 19 [.ref a, l1, l2, l3] [.ref a] h Q := zE_pure (q := (19, [.ref a, l1, l2, l3], [.ref a])) dz55_18 rfl rfl rfl
theorem dz55_19 : decode (z_code 55) 19 = .ok (.getfield 21, 3) := by decide +kernel
theorem u55_19 (ho : zO a 8) : zEv sc 55 19 [l0, l1, l2, l3] [.ref a] (zst p iv) Q ↔ zEv sc 55 22 [l0, l1, l2, l3] [.int (iv a 3)] (zst p iv) Q := zE_gfI dz55_19 (by decide +kernel : z_lk3 zFT (z_cls 55) 21 = some (8, 3, 0, 250)) (by decide +kernel) ho
theorem dz55_22 : decode (z_code 55) 22 = .ok (.aload_n 2, 1) := by decide +kernel
theorem u55_22 : zEv sc 55 22 [l0, l1, .ref a, l3] [t0] h Q ↔ zEv sc 55 23 [l0, l1, .ref a, l3] [.ref a, t0] h Q := zE_pure (q := (23, [l0, l1, .ref a, l3], [.ref a, t0])) dz55_22 rfl rfl rfl
theorem dz55_23 : decode (z_code 55) 23 = .ok (.getfield 33, 3) := by decide +kernel
theorem u55_23 (ho : zO a 7) : zEv sc 55 23 [l0, l1, l2, l3] [.ref a, t0] (zst p iv) Q ↔ zEv sc 55 26 [l0, l1, l2, l3] [.int (iv a 0), t0] (zst p iv) Q := zE_gfI dz55_23 (by decide +kernel : z_lk3 zFT (z_cls 55) 33 = some (7, 0, 1, 229)) (by decide +kernel) ho
theorem dz55_26 : decode (z_code 55) 26 = .ok (.if_icmp .ge 47, 3) := by decide +kernel
theorem u55_26 : zEv sc 55 26 [l0, l1, l2, l3] [.int x2, .int x1] h Q ↔ (if x2 ≤ x1 then zEv sc 55 73 [l0, l1, l2, l3] [] h Q else zEv sc 55 29 [l0, l1, l2, l3] [] h Q) := zE_icP (P := x2 ≤ x1) inferInstance 73 dz55_26 rfl rfl
theorem dz55_29 : decode (z_code 55) 29 = .ok (.aload_n 0, 1) := by decide +kernel
theorem u55_29 : zEv sc 55 29 [.ref a, l1, l2, l3] [] h Q ↔ zEv sc 55 30 [.ref a, l1, l2, l3] [.ref a] h Q := zE_pure (q := (30, [.ref a, l1, l2, l3], [.ref a])) dz55_29 rfl rfl rfl
theorem dz55_30 : decode (z_code 55) 30 = .ok (.getfield 15, 3) := by decide +kernel
theorem u55_30 (ho : zO a 8) : zEv sc 55 30 [l0, l1, l2, l3] [.ref a] (zst p iv) Q ↔ zEv sc 55 33 [l0, l1, l2, l3] [.int (iv a 1)] (zst p iv) Q := zE_gfI dz55_30 (by decide +kernel : z_lk3 zFT (z_cls 55) 15 = some (8, 1, 0, 246)) (by decide +kernel) ho
theorem dz55_33 : decode (z_code 55) 33 = .ok (.ifCond .ne 40, 3) := by decide +kernel
theorem u55_33 : zEv sc 55 33 [l0, l1, l2, l3] [.int x] h Q ↔ (if ¬ x = 0 then zEv sc 55 73 [l0, l1, l2, l3] [] h Q else zEv sc 55 36 [l0, l1, l2, l3] [] h Q) := zE_ifP (P := ¬ x = 0) inferInstance 73 dz55_33 rfl rfl
theorem dz55_36 : decode (z_code 55) 36 = .ok (.aload_n 0, 1) := by decide +kernel
theorem u55_36 : zEv sc 55 36 [.ref a, l1, l2, l3] [] h Q ↔ zEv sc 55 37 [.ref a, l1, l2, l3] [.ref a] h Q := zE_pure (q := (37, [.ref a, l1, l2, l3], [.ref a])) dz55_36 rfl rfl rfl
theorem dz55_37 : decode (z_code 55) 37 = .ok (.aload_n 0, 1) := by decide +kernel
theorem u55_37 : zEv sc 55 37 [.ref a, l1, l2, l3] [t0] h Q ↔ zEv sc 55 38 [.ref a, l1, l2, l3] [.ref a, t0] h Q := zE_pure (q := (38, [.ref a, l1, l2, l3], [.ref a, t0])) dz55_37 rfl rfl rfl
theorem dz55_38 : decode (z_code 55) 38 = .ok (.getfield 21, 3) := by decide +kernel
theorem u55_38 (ho : zO a 8) : zEv sc 55 38 [l0, l1, l2, l3] [.ref a, t0] (zst p iv) Q ↔ zEv sc 55 41 [l0, l1, l2, l3] [.int (iv a 3), t0] (zst p iv) Q := zE_gfI dz55_38 (by decide +kernel : z_lk3 zFT (z_cls 55) 21 = some (8, 3, 0, 250)) (by decide +kernel) ho
theorem dz55_41 : decode (z_code 55) 41 = .ok (.putfield 9, 3) := by decide +kernel
theorem u55_41 (ho : zO a 8) : zEv sc 55 41 [l0, l1, l2, l3] [.int x, .ref a] (zst p iv) Q ↔ zEv sc 55 44 [l0, l1, l2, l3] [] (zst p (w2 iv a 0 x)) Q := zE_pfI dz55_41 (by decide +kernel : z_lk3 zFT (z_cls 55) 9 = some (8, 0, 0, 244)) (by decide +kernel) (by decide +kernel) (by decide +kernel) ho
theorem dz55_44 : decode (z_code 55) 44 = .ok (.aload_n 0, 1) := by decide +kernel
theorem u55_44 : zEv sc 55 44 [.ref a, l1, l2, l3] [] h Q ↔ zEv sc 55 45 [.ref a, l1, l2, l3] [.ref a] h Q := zE_pure (q := (45, [.ref a, l1, l2, l3], [.ref a])) dz55_44 rfl rfl rfl
theorem dz55_45 : decode (z_code 55) 45 = .ok (.aload_n 0, 1) := by decide +kernel
theorem u55_45 : zEv sc 55 45 [.ref a, l1, l2, l3] [t0] h Q ↔ zEv sc 55 46 [.ref a, l1, l2, l3] [.ref a, t0] h Q := zE_pure (q := (46, [.ref a, l1, l2, l3], [.ref a, t0])) dz55_45 rfl rfl rfl
theorem dz55_46 : decode (z_code 55) 46 = .ok (.aload_n 1, 1) := by decide +kernel
theorem u55_46 : zEv sc 55 46 [l0, .ref a, l2, l3] [t0, t1] h Q ↔ zEv sc 55 47 [l0, .ref a, l2, l3] [.ref a, t0, t1] h Q := zE_pure (q := (47, [l0, .ref a, l2, l3], [.ref a, t0, t1])) dz55_46 rfl rfl rfl
theorem dz55_47 : decode (z_code 55) 47 = .ok (.aload_n 2, 1) := by decide +kernel
theorem u55_47 : zEv sc 55 47 [l0, l1, .ref a, l3] [t0, t1, t2] h Q ↔ zEv sc 55 48 [l0, l1, .ref a, l3] [.ref a, t0, t1, t2] h Q := zE_pure (q := (48, [l0, l1, .ref a, l3], [.ref a, t0, t1, t2])) dz55_47 rfl rfl rfl
theorem dz55_48 : decode (z_code 55) 48 = .ok (.invokevirtual 38, 3) := by decide +kernel
theorem u55_48 (ho : zO a 8) : zEv sc 55 48 [l0, l1, l2, l3] [.ref b1, .ref b0, .ref a, t0] (zst p iv) Q ↔ zEv sc 54 0 [.ref a, .ref b0, .ref b1, .null] [] (zst p iv) (fun r h9 => zEv sc 55 51 [l0, l1, l2, l3] (r.toList ++ [t0]) h9 Q) := zE_call (kd := 0) (na := 3) (nr := 1) (as := [.ref a, .ref b0, .ref b1]) (rest := [t0]) (Or.inl ⟨rfl, rfl⟩) dz55_48 (by decide +kernel : z_lk2 zCT (z_cls 55) 38 = some (54, 0, 599)) (fun z => by cases z) rfl rfl rfl (by decide +kernel) rfl rfl (Or.inr (zE_rc ho))
theorem dz55_51 : decode (z_code 55) 51 = .ok (.putfield 15, 3) := by decide +kernel
theorem u55_51 (ho : zO a 8) : zEv sc 55 51 [l0, l1, l2, l3] [.int x, .ref a] (zst p iv) Q ↔ zEv sc 55 54 [l0, l1, l2, l3] [] (zst p (w2 iv a 1 x)) Q := zE_pfI dz55_51 (by decide +kernel : z_lk3 zFT (z_cls 55) 15 = some (8, 1, 0, 246)) (by decide +kernel) (by decide +kernel) (by decide +kernel) ho
theorem dz55_54 : decode (z_code 55) 54 = .ok (.aload_n 0, 1) := by decide +kernel
theorem u55_54 : zEv sc 55 54 [.ref a, l1, l2, l3] [] h Q ↔ zEv sc 55 55 [.ref a, l1, l2, l3] [.ref a] h Q := zE_pure (q := (55, [.ref a, l1, l2, l3], [.ref a])) dz55_54 rfl rfl rfl
theorem dz55_55 : decode (z_code 55) 55 = .ok (.aload_n 0, 1) := by decide +kernel
theorem u55_55 : zEv sc 55 55 [.ref a, l1, l2, l3] [t0] h Q ↔ zEv sc 55 56 [.ref a, l1, l2, l3] [.ref a, t0] h Q := zE_pure (q := (56, [.ref a, l1, l2, l3], [.ref a, t0])) dz55_55 rfl rfl rfl
theorem dz55_56 : decode (z_code 55) 56 = .ok (.getfield 21, 3) := by decide +kernel
theorem u55_56 (ho : zO a 8) : zEv sc 55 56 [l0, l1, l2, l3] [.ref a, t0] (zst p iv) Q ↔ zEv sc 55 59 [l0, l1, l2, l3] [.int (iv a 3), t0] (zst p iv) Q := zE_gfI dz55_56 (by decide +kernel : z_lk3 zFT (z_cls 55) 21 = some (8, 3, 0, 250)) (by decide +kernel) ho
theorem dz55_59 : decode (z_code 55) 59 = .ok (.aload_n 0, 1) := by decide +kernel
theorem u55_59 : zEv sc 55 59 [.ref a, l1, l2, l3] [t0, t1] h Q ↔ zEv sc 55 60 [.ref a, l1, l2, l3] [.ref a, t0, t1] h Q := zE_pure (q := (60, [.ref a, l1, l2, l3], [.ref a, t0, t1])) dz55_59 rfl rfl rfl
theorem dz55_60 : decode (z_code 55) 60 = .ok (.getfield 9, 3) := by decide +kernel
theorem u55_60 (ho : zO a 8) : zEv sc 55 60 [l0, l1, l2, l3] [.ref a, t0, t1] (zst p iv) Q ↔ zEv sc 55 63 [l0, l1, l2, l3] [.int (iv a 0), t0, t1] (zst p iv) Q := zE_gfI dz55_60 (by decide +kernel : z_lk3 zFT (z_cls 55) 9 = some (8, 0, 0, 244)) (by decide +kernel) ho
theorem dz55_63 : decode (z_code 55) 63 = .ok (.isub, 1) := by decide +kernel
theorem u55_63 : zEv sc 55 63 [l0, l1, l2, l3] [.int x2, .int x1, t0] h Q ↔ zEv sc 55 64 [l0, l1, l2, l3] [.int (x1 - x2), t0] h Q := zE_pure (q := (64, [l0, l1, l2, l3], [.int (x1 - x2), t0])) dz55_63 rfl rfl rfl
theorem dz55_64 : decode (z_code 55) 64 = .ok (.putfield 18, 3) := by decide +kernel
theorem u55_64 (ho : zO a 8) : zEv sc 55 64 [l0, l1, l2, l3] [.int x, .ref a] (zst p iv) Q ↔ zEv sc 55 67 [l0, l1, l2, l3] [] (zst p (w2 iv a 2 x)) Q := zE_pfI dz55_64 (by decide +kernel : z_lk3 zFT (z_cls 55) 18 = some (8, 2, 0, 248)) (by decide +kernel) (by decide +kernel) (by decide +kernel) ho
theorem dz55_67 : decode (z_code 55) 67 = .ok (.iinc 3 1, 3) := by decide +kernel
theorem u55_67 : zEv sc 55 67 [l0, l1, l2, .int x] [] h Q ↔ zEv sc 55 70 [l0, l1, l2, .int (x + 1)] [] h Q := zE_iinc (ls2 := [l0, l1, l2, .int (x + 1)]) dz55_67 (by decide +kernel) rfl (by simp) rfl
theorem dz55_70 : decode (z_code 55) 70 = .ok (.goto (-58), 3) := by decide +kernel
theorem u55_70 : zEv sc 55 70 [l0, l1, l2, l3] [] h Q ↔ zEv sc 55 12 [l0, l1, l2, l3] [] h Q := zE_go 12 dz55_70 rfl
theorem dz55_73 : decode (z_code 55) 73 = .ok (.return_, 1) := by decide +kernel
theorem u55_73 : zEv sc 55 73 [l0, l1, l2, l3] [] h Q ↔ Q none h := zE_rv dz55_73 (by decide +kernel)
/-! method 57: FieldMixtures.fields(I)I -/
theorem dz57_0 : decode (z_code 57) 0 = .ok (.iload_n 1, 1) := by decide +kernel
theorem u57_0 : zEv sc 57 0 [l0, .int x, l2] [] h Q ↔ zEv sc 57 1 [l0, .int x, l2] [.int x] h Q := zE_pure (q := (1, [l0, .int x, l2], [.int x])) dz57_0 rfl rfl rfl
theorem dz57_1 : decode (z_code 57) 1 = .ok (.iconst 2, 1) := by decide +kernel
theorem u57_1 : zEv sc 57 1 [l0, l1, l2] [t0] h Q ↔ zEv sc 57 2 [l0, l1, l2] [.int 2, t0] h Q := zE_iconst dz57_1 (by decide +kernel)
theorem dz57_2 : decode (z_code 57) 2 = .ok (.iconst 4, 1) := by decide +kernel
theorem u57_2 : zEv sc 57 2 [l0, l1, l2] [t0, t1] h Q ↔ zEv sc 57 3 [l0, l1, l2] [.int 4, t0, t1] h Q := zE_iconst dz57_2 (by decide +kernel)
theorem dz57_3 : decode (z_code 57) 3 = .ok (.invokestatic 67, 3) := by decide +kernel
theorem u57_3 : zEv sc 57 3 [l0, l1, l2] [.int z2, .int z1, .int z0] h Q ↔ zEv sc 15 0 [.int z0, .int z1, .int z2] [] h (fun r h9 => zEv sc 57 6 [l0, l1, l2] (r.toList ++ []) h9 Q) := zE_call (kd := 1) (na := 3) (nr := 0) (as := [.int z0, .int z1, .int z2]) (rest := []) (Or.inr ⟨rfl, rfl⟩) dz57_3 (by decide +kernel : z_lk2 zCT (z_cls 57) 67 = some (15, 0, 304)) (fun _ => ⟨by decide +kernel, by decide +kernel⟩) rfl rfl rfl (by decide +kernel) rfl rfl (Or.inl rfl)
theorem dz57_6 : decode (z_code 57) 6 = .ok (.ifCond .ne 6, 3) := by decide +kernel
theorem u57_6 : zEv sc 57 6 [l0, l1, l2] [.int x] h Q ↔ (if ¬ x = 0 then zEv sc 57 12 [l0, l1, l2] [] h Q else zEv sc 57 9 [l0, l1, l2] [] h Q) := zE_ifP (P := ¬ x = 0) inferInstance 12 dz57_6 rfl rfl
theorem dz57_9 : decode (z_code 57) 9 = .ok (.ldc 71, 2) := by decide +kernel
theorem u57_9 : zEv sc 57 9 [l0, l1, l2] [] h Q ↔ zEv sc 57 11 [l0, l1, l2] [.int (-1000001)] h Q := zE_ldc (by decide +kernel : z_lkK zKT (z_cls 57) 71 = some ((-1000001), 319)) dz57_9
theorem dz57_11 : decode (z_code 57) 11 = .ok (.ireturn, 1) := by decide +kernel
theorem u57_11 : zEv sc 57 11 [l0, l1, l2] [.int x] h Q ↔ Q (some (.int x)) h := zE_ri dz57_11 (by decide +kernel)
theorem dz57_12 : decode (z_code 57) 12 = .ok (.aload_n 0, 1) := by decide +kernel
theorem u57_12 : zEv sc 57 12 [.ref a, l1, l2] [] h Q ↔ zEv sc 57 13 [.ref a, l1, l2] [.ref a] h Q := zE_pure (q := (13, [.ref a, l1, l2], [.ref a])) dz57_12 rfl rfl rfl
theorem dz57_13 : decode (z_code 57) 13 = .ok (.getfield 10, 3) := by decide +kernel
theorem u57_13 (ho : zO a 9) : zEv sc 57 13 [l0, l1, l2] [.ref a] (zst p iv) Q ↔ zRef (zRV p a 0) (fun j => zEv sc 57 16 [l0, l1, l2] [.ref j] (zst p iv) Q) := zE_gfR dz57_13 (by decide +kernel : z_lk3 zFT (z_cls 57) 10 = some (9, 0, 0, 269)) (by decide +kernel) ho
theorem dz57_16 : decode (z_code 57) 16 = .ok (.getfield 72, 3) := by decide +kernel
theorem u57_16 (ho : zO a 2) : zEv sc 57 16 [l0, l1, l2] [.ref a] (zst p iv) Q ↔ zEv sc 57 19 [l0, l1, l2] [.int (iv a 0)] (zst p iv) Q := zE_gfI dz57_16 (by decide +kernel : z_lk3 zFT (z_cls 57) 72 = some (2, 0, 1, 132)) (by decide +kernel) ho
theorem dz57_19 : decode (z_code 57) 19 = .ok (.istore_n 2, 1) := by decide +kernel
theorem u57_19 : zEv sc 57 19 [l0, l1, l2] [.int x] h Q ↔ zEv sc 57 20 [l0, l1, .int x] [] h Q := zE_pure (q := (20, [l0, l1, .int x], [])) dz57_19 rfl rfl rfl
theorem dz57_20 : decode (z_code 57) 20 = .ok (.aload_n 0, 1) := by decide +kernel
theorem u57_20 : zEv sc 57 20 [.ref a, l1, l2] [] h Q ↔ zEv sc 57 21 [.ref a, l1, l2] [.ref a] h Q := zE_pure (q := (21, [.ref a, l1, l2], [.ref a])) dz57_20 rfl rfl rfl
theorem dz57_21 : decode (z_code 57) 21 = .ok (.getfield 22, 3) := by decide +kernel
theorem u57_21 (ho : zO a 9) : zEv sc 57 21 [l0, l1, l2] [.ref a] (zst p iv) Q ↔ zRef (zRV p a 2) (fun j => zEv sc 57 24 [l0, l1, l2] [.ref j] (zst p iv) Q) := zE_gfR dz57_21 (by decide +kernel : z_lk3 zFT (z_cls 57) 22 = some (9, 2, 0, 271)) (by decide +kernel) ho
theorem dz57_24 : decode (z_code 57) 24 = .ok (.aload_n 0, 1) := by decide +kernel
theorem u57_24 : zEv sc 57 24 [.ref a, l1, l2] [t0] h Q ↔ zEv sc 57 25 [.ref a, l1, l2] [.ref a, t0] h Q := zE_pure (q := (25, [.ref a, l1, l2], [.ref a, t0])) dz57_24 rfl rfl rfl
theorem dz57_25 : decode (z_code 57) 25 = .ok (.getfield 10, 3) := by decide +kernel
theorem u57_25 (ho : zO a 9) : zEv sc 57 25 [l0, l1, l2] [.ref a, t0] (zst p iv) Q ↔ zRef (zRV p a 0) (fun j => zEv sc 57 28 [l0, l1, l2] [.ref j, t0] (zst p iv) Q) := zE_gfR dz57_25 (by decide +kernel : z_lk3 zFT (z_cls 57) 10 = some (9, 0, 0, 269)) (by decide +kernel) ho
theorem dz57_28 : decode (z_code 57) 28 = .ok (.invokevirtual 76, 3) := by decide +kernel
theorem u57_28 (ho : zO a 3) : zEv sc 57 28 [l0, l1, l2] [.ref b0, .ref a] (zst p iv) Q ↔ zEv sc 26 0 [.ref a, .ref b0] [] (zst p iv) (fun r h9 => zEv sc 57 31 [l0, l1, l2] (r.toList ++ []) h9 Q) := zE_call (kd := 0) (na := 2) (nr := 0) (as := [.ref a, .ref b0]) (rest := []) (Or.inl ⟨rfl, rfl⟩) dz57_28 (by decide +kernel : z_lk2 zCT (z_cls 57) 76 = some (26, 1, 488)) (fun z => by cases z) rfl rfl rfl (by decide +kernel) rfl rfl (Or.inr (zE_rc ho))
theorem dz57_31 : decode (z_code 57) 31 = .ok (.aload_n 0, 1) := by decide +kernel
theorem u57_31 : zEv sc 57 31 [.ref a, l1, l2] [] h Q ↔ zEv sc 57 32 [.ref a, l1, l2] [.ref a] h Q := zE_pure (q := (32, [.ref a, l1, l2], [.ref a])) dz57_31 rfl rfl rfl
theorem dz57_32 : decode (z_code 57) 32 = .ok (.getfield 10, 3) := by decide +kernel
theorem u57_32 (ho : zO a 9) : zEv sc 57 32 [l0, l1, l2] [.ref a] (zst p iv) Q ↔ zRef (zRV p a 0) (fun j => zEv sc 57 35 [l0, l1, l2] [.ref j] (zst p iv) Q) := zE_gfR dz57_32 (by decide +kernel : z_lk3 zFT (z_cls 57) 10 = some (9, 0, 0, 269)) (by decide +kernel) ho
theorem dz57_35 : decode (z_code 57) 35 = .ok (.iload_n 1, 1) := by decide +kernel
theorem u57_35 : zEv sc 57 35 [l0, .int x, l2] [t0] h Q ↔ zEv sc 57 36 [l0, .int x, l2] [.int x, t0] h Q := zE_pure (q := (36, [l0, .int x, l2], [.int x, t0])) dz57_35 rfl rfl rfl
theorem dz57_36 : decode (z_code 57) 36 = .ok (.invokevirtual 80, 3) := by decide +kernel
theorem u57_36 (ho : zO a 2) : zEv sc 57 36 [l0, l1, l2] [.int z0, .ref a] (zst p iv) Q ↔ zEv sc 9 0 [.ref a, .int z0, .null] [] (zst p iv) (fun r h9 => zEv sc 57 39 [l0, l1, l2] (r.toList ++ []) h9 Q) := zE_call (kd := 0) (na := 2) (nr := 0) (as := [.ref a, .int z0]) (rest := []) (Or.inl ⟨rfl, rfl⟩) dz57_36 (by decide +kernel : z_lk2 zCT (z_cls 57) 80 = some (9, 1, 568)) (fun z => by cases z) rfl rfl rfl (by decide +kernel) rfl rfl (Or.inr (zE_rc ho))
theorem dz57_39 : decode (z_code 57) 39 = .ok (.iload_n 2, 1) := by decide +kernel
theorem u57_39 : zEv sc 57 39 [l0, l1, .int x] [] h Q ↔ zEv sc 57 40 [l0, l1, .int x] [.int x] h Q := zE_pure (q := (40, [l0, l1, .int x], [.int x])) dz57_39 rfl rfl rfl
theorem dz57_40 : decode (z_code 57) 40 = .ok (.ireturn, 1) := by decide +kernel
theorem u57_40 : zEv sc 57 40 [l0, l1, l2] [.int x] h Q ↔ Q (some (.int x)) h := zE_ri dz57_40 (by decide +kernel)
/-! method 58: FieldMixtures.value(II)I -/
theorem dz58_0 : decode (z_code 58) 0 = .ok (.aload_n 0, 1) := by decide +kernel
theorem u58_0 : zEv sc 58 0 [.ref a, l1, l2, l3] [] h Q ↔ zEv sc 58 1 [.ref a, l1, l2, l3] [.ref a] h Q := zE_pure (q := (1, [.ref a, l1, l2, l3], [.ref a])) dz58_0 rfl rfl rfl
theorem dz58_1 : decode (z_code 58) 1 = .ok (.getfield 10, 3) := by decide +kernel
theorem u58_1 (ho : zO a 9) : zEv sc 58 1 [l0, l1, l2, l3] [.ref a] (zst p iv) Q ↔ zRef (zRV p a 0) (fun j => zEv sc 58 4 [l0, l1, l2, l3] [.ref j] (zst p iv) Q) := zE_gfR dz58_1 (by decide +kernel : z_lk3 zFT (z_cls 58) 10 = some (9, 0, 0, 269)) (by decide +kernel) ho
theorem dz58_4 : decode (z_code 58) 4 = .ok (.iload_n 1, 1) := by decide +kernel
theorem u58_4 : zEv sc 58 4 [l0, .int x, l2, l3] [t0] h Q ↔ zEv sc 58 5 [l0, .int x, l2, l3] [.int x, t0] h Q := zE_pure (q := (5, [l0, .int x, l2, l3], [.int x, t0])) dz58_4 rfl rfl rfl
theorem dz58_5 : decode (z_code 58) 5 = .ok (.invokevirtual 84, 3) := by decide +kernel
theorem u58_5 (ho : zO a 2) : zEv sc 58 5 [l0, l1, l2, l3] [.int z0, .ref a] (zst p iv) Q ↔ zEv sc 16 0 [.ref a, .int z0] [] (zst p iv) (fun r h9 => zEv sc 58 8 [l0, l1, l2, l3] (r.toList ++ []) h9 Q) := zE_call (kd := 0) (na := 2) (nr := 0) (as := [.ref a, .int z0]) (rest := []) (Or.inl ⟨rfl, rfl⟩) dz58_5 (by decide +kernel : z_lk2 zCT (z_cls 58) 84 = some (16, 1, 421)) (fun z => by cases z) rfl rfl rfl (by decide +kernel) rfl rfl (Or.inr (zE_rc ho))
theorem dz58_8 : decode (z_code 58) 8 = .ok (.ifCond .eq 13, 3) := by decide +kernel
theorem u58_8 : zEv sc 58 8 [l0, l1, l2, l3] [.int x] h Q ↔ (if x = 0 then zEv sc 58 21 [l0, l1, l2, l3] [] h Q else zEv sc 58 11 [l0, l1, l2, l3] [] h Q) := zE_ifP (P := x = 0) inferInstance 21 dz58_8 rfl rfl
theorem dz58_11 : decode (z_code 58) 11 = .ok (.iload_n 2, 1) := by decide +kernel
theorem u58_11 : zEv sc 58 11 [l0, l1, .int x, l3] [] h Q ↔ zEv sc 58 12 [l0, l1, .int x, l3] [.int x] h Q := zE_pure (q := (12, [l0, l1, .int x, l3], [.int x])) dz58_11 rfl rfl rfl
theorem dz58_12 : decode (z_code 58) 12 = .ok (.iconst 1, 1) := by decide +kernel
theorem u58_12 : zEv sc 58 12 [l0, l1, l2, l3] [t0] h Q ↔ zEv sc 58 13 [l0, l1, l2, l3] [.int 1, t0] h Q := zE_iconst dz58_12 (by decide +kernel)
theorem dz58_13 : decode (z_code 58) 13 = .ok (.bipush 9, 2) := by decide +kernel
theorem u58_13 : zEv sc 58 13 [l0, l1, l2, l3] [t0, t1] h Q ↔ zEv sc 58 15 [l0, l1, l2, l3] [.int 9, t0, t1] h Q := zE_bipush dz58_13 (by decide +kernel)
theorem dz58_15 : decode (z_code 58) 15 = .ok (.invokestatic 67, 3) := by decide +kernel
theorem u58_15 : zEv sc 58 15 [l0, l1, l2, l3] [.int z2, .int z1, .int z0] h Q ↔ zEv sc 15 0 [.int z0, .int z1, .int z2] [] h (fun r h9 => zEv sc 58 18 [l0, l1, l2, l3] (r.toList ++ []) h9 Q) := zE_call (kd := 1) (na := 3) (nr := 0) (as := [.int z0, .int z1, .int z2]) (rest := []) (Or.inr ⟨rfl, rfl⟩) dz58_15 (by decide +kernel : z_lk2 zCT (z_cls 58) 67 = some (15, 0, 304)) (fun _ => ⟨by decide +kernel, by decide +kernel⟩) rfl rfl rfl (by decide +kernel) rfl rfl (Or.inl rfl)
theorem dz58_18 : decode (z_code 58) 18 = .ok (.ifCond .ne 6, 3) := by decide +kernel
theorem u58_18 : zEv sc 58 18 [l0, l1, l2, l3] [.int x] h Q ↔ (if ¬ x = 0 then zEv sc 58 24 [l0, l1, l2, l3] [] h Q else zEv sc 58 21 [l0, l1, l2, l3] [] h Q) := zE_ifP (P := ¬ x = 0) inferInstance 24 dz58_18 rfl rfl
theorem dz58_24 : decode (z_code 58) 24 = .ok (.aload_n 0, 1) := by decide +kernel
theorem u58_24 : zEv sc 58 24 [.ref a, l1, l2, l3] [] h Q ↔ zEv sc 58 25 [.ref a, l1, l2, l3] [.ref a] h Q := zE_pure (q := (25, [.ref a, l1, l2, l3], [.ref a])) dz58_24 rfl rfl rfl
theorem dz58_25 : decode (z_code 58) 25 = .ok (.getfield 10, 3) := by decide +kernel
theorem u58_25 (ho : zO a 9) : zEv sc 58 25 [l0, l1, l2, l3] [.ref a] (zst p iv) Q ↔ zRef (zRV p a 0) (fun j => zEv sc 58 28 [l0, l1, l2, l3] [.ref j] (zst p iv) Q) := zE_gfR dz58_25 (by decide +kernel : z_lk3 zFT (z_cls 58) 10 = some (9, 0, 0, 269)) (by decide +kernel) ho
theorem dz58_28 : decode (z_code 58) 28 = .ok (.getfield 88, 3) := by decide +kernel
theorem u58_28 (ho : zO a 2) : zEv sc 58 28 [l0, l1, l2, l3] [.ref a] (zst p iv) Q ↔ zRef (zRV p a 2) (fun j => zEv sc 58 31 [l0, l1, l2, l3] [.ref j] (zst p iv) Q) := zE_gfR dz58_28 (by decide +kernel : z_lk3 zFT (z_cls 58) 88 = some (2, 2, 1, 138)) (by decide +kernel) ho
theorem dz58_31 : decode (z_code 58) 31 = .ok (.iload_n 1, 1) := by decide +kernel
theorem u58_31 : zEv sc 58 31 [l0, .int x, l2, l3] [t0] h Q ↔ zEv sc 58 32 [l0, .int x, l2, l3] [.int x, t0] h Q := zE_pure (q := (32, [l0, .int x, l2, l3], [.int x, t0])) dz58_31 rfl rfl rfl
theorem dz58_32 : decode (z_code 58) 32 = .ok (.iaload, 1) := by decide +kernel
theorem u58_32 (ho : zO a 100) : zEv sc 58 32 [l0, l1, l2, l3] [.int x, .ref a] (zst p iv) Q ↔ (vp_in x (zLn a) ∧ zEv sc 58 33 [l0, l1, l2, l3] [.int (iv a x.toNatClampNeg)] (zst p iv) Q) := zE_ald (Or.inl ⟨rfl, rfl⟩) dz58_32 ho
theorem dz58_33 : decode (z_code 58) 33 = .ok (.istore_n 3, 1) := by decide +kernel
theorem u58_33 : zEv sc 58 33 [l0, l1, l2, l3] [.int x] h Q ↔ zEv sc 58 34 [l0, l1, l2, .int x] [] h Q := zE_pure (q := (34, [l0, l1, l2, .int x], [])) dz58_33 rfl rfl rfl
theorem dz58_34 : decode (z_code 58) 34 = .ok (.aload_n 0, 1) := by decide +kernel
theorem u58_34 : zEv sc 58 34 [.ref a, l1, l2, l3] [] h Q ↔ zEv sc 58 35 [.ref a, l1, l2, l3] [.ref a] h Q := zE_pure (q := (35, [.ref a, l1, l2, l3], [.ref a])) dz58_34 rfl rfl rfl
theorem dz58_35 : decode (z_code 58) 35 = .ok (.getfield 22, 3) := by decide +kernel
theorem u58_35 (ho : zO a 9) : zEv sc 58 35 [l0, l1, l2, l3] [.ref a] (zst p iv) Q ↔ zRef (zRV p a 2) (fun j => zEv sc 58 38 [l0, l1, l2, l3] [.ref j] (zst p iv) Q) := zE_gfR dz58_35 (by decide +kernel : z_lk3 zFT (z_cls 58) 22 = some (9, 2, 0, 271)) (by decide +kernel) ho
theorem dz58_38 : decode (z_code 58) 38 = .ok (.aload_n 0, 1) := by decide +kernel
theorem u58_38 : zEv sc 58 38 [.ref a, l1, l2, l3] [t0] h Q ↔ zEv sc 58 39 [.ref a, l1, l2, l3] [.ref a, t0] h Q := zE_pure (q := (39, [.ref a, l1, l2, l3], [.ref a, t0])) dz58_38 rfl rfl rfl
theorem dz58_39 : decode (z_code 58) 39 = .ok (.getfield 10, 3) := by decide +kernel
theorem u58_39 (ho : zO a 9) : zEv sc 58 39 [l0, l1, l2, l3] [.ref a, t0] (zst p iv) Q ↔ zRef (zRV p a 0) (fun j => zEv sc 58 42 [l0, l1, l2, l3] [.ref j, t0] (zst p iv) Q) := zE_gfR dz58_39 (by decide +kernel : z_lk3 zFT (z_cls 58) 10 = some (9, 0, 0, 269)) (by decide +kernel) ho
theorem dz58_42 : decode (z_code 58) 42 = .ok (.invokevirtual 76, 3) := by decide +kernel
theorem u58_42 (ho : zO a 3) : zEv sc 58 42 [l0, l1, l2, l3] [.ref b0, .ref a] (zst p iv) Q ↔ zEv sc 26 0 [.ref a, .ref b0] [] (zst p iv) (fun r h9 => zEv sc 58 45 [l0, l1, l2, l3] (r.toList ++ []) h9 Q) := zE_call (kd := 0) (na := 2) (nr := 0) (as := [.ref a, .ref b0]) (rest := []) (Or.inl ⟨rfl, rfl⟩) dz58_42 (by decide +kernel : z_lk2 zCT (z_cls 58) 76 = some (26, 1, 488)) (fun z => by cases z) rfl rfl rfl (by decide +kernel) rfl rfl (Or.inr (zE_rc ho))
theorem dz58_45 : decode (z_code 58) 45 = .ok (.aload_n 0, 1) := by decide +kernel
theorem u58_45 : zEv sc 58 45 [.ref a, l1, l2, l3] [] h Q ↔ zEv sc 58 46 [.ref a, l1, l2, l3] [.ref a] h Q := zE_pure (q := (46, [.ref a, l1, l2, l3], [.ref a])) dz58_45 rfl rfl rfl
theorem dz58_46 : decode (z_code 58) 46 = .ok (.getfield 10, 3) := by decide +kernel
theorem u58_46 (ho : zO a 9) : zEv sc 58 46 [l0, l1, l2, l3] [.ref a] (zst p iv) Q ↔ zRef (zRV p a 0) (fun j => zEv sc 58 49 [l0, l1, l2, l3] [.ref j] (zst p iv) Q) := zE_gfR dz58_46 (by decide +kernel : z_lk3 zFT (z_cls 58) 10 = some (9, 0, 0, 269)) (by decide +kernel) ho
theorem dz58_49 : decode (z_code 58) 49 = .ok (.getfield 88, 3) := by decide +kernel
theorem u58_49 (ho : zO a 2) : zEv sc 58 49 [l0, l1, l2, l3] [.ref a] (zst p iv) Q ↔ zRef (zRV p a 2) (fun j => zEv sc 58 52 [l0, l1, l2, l3] [.ref j] (zst p iv) Q) := zE_gfR dz58_49 (by decide +kernel : z_lk3 zFT (z_cls 58) 88 = some (2, 2, 1, 138)) (by decide +kernel) ho
theorem dz58_52 : decode (z_code 58) 52 = .ok (.iload_n 1, 1) := by decide +kernel
theorem u58_52 : zEv sc 58 52 [l0, .int x, l2, l3] [t0] h Q ↔ zEv sc 58 53 [l0, .int x, l2, l3] [.int x, t0] h Q := zE_pure (q := (53, [l0, .int x, l2, l3], [.int x, t0])) dz58_52 rfl rfl rfl
theorem dz58_53 : decode (z_code 58) 53 = .ok (.iload_n 2, 1) := by decide +kernel
theorem u58_53 : zEv sc 58 53 [l0, l1, .int x, l3] [t0, t1] h Q ↔ zEv sc 58 54 [l0, l1, .int x, l3] [.int x, t0, t1] h Q := zE_pure (q := (54, [l0, l1, .int x, l3], [.int x, t0, t1])) dz58_53 rfl rfl rfl
theorem dz58_54 : decode (z_code 58) 54 = .ok (.iastore, 1) := by decide +kernel
theorem u58_54 (ho : zO a 100) : zEv sc 58 54 [l0, l1, l2, l3] [.int x2, .int x1, .ref a] (zst p iv) Q ↔ (vp_in x1 (zLn a) ∧ zEv sc 58 55 [l0, l1, l2, l3] [] (zst p (w2 iv a x1.toNatClampNeg x2)) Q) := zE_ast (Or.inl ⟨rfl, rfl, rfl⟩) dz58_54 ho
theorem dz58_55 : decode (z_code 58) 55 = .ok (.iload_n 3, 1) := by decide +kernel
theorem u58_55 : zEv sc 58 55 [l0, l1, l2, .int x] [] h Q ↔ zEv sc 58 56 [l0, l1, l2, .int x] [.int x] h Q := zE_pure (q := (56, [l0, l1, l2, .int x], [.int x])) dz58_55 rfl rfl rfl
theorem dz58_56 : decode (z_code 58) 56 = .ok (.ireturn, 1) := by decide +kernel
theorem u58_56 : zEv sc 58 56 [l0, l1, l2, l3] [.int x] h Q ↔ Q (some (.int x)) h := zE_ri dz58_56 (by decide +kernel)
theorem dz58_21 : decode (z_code 58) 21 = .ok (.ldc 71, 2) := by decide +kernel
theorem u58_21 : zEv sc 58 21 [l0, l1, l2, l3] [] h Q ↔ zEv sc 58 23 [l0, l1, l2, l3] [.int (-1000001)] h Q := zE_ldc (by decide +kernel : z_lkK zKT (z_cls 58) 71 = some ((-1000001), 319)) dz58_21
theorem dz58_23 : decode (z_code 58) 23 = .ok (.ireturn, 1) := by decide +kernel
theorem u58_23 : zEv sc 58 23 [l0, l1, l2, l3] [.int x] h Q ↔ Q (some (.int x)) h := zE_ri dz58_23 (by decide +kernel)
/-! method 59: FieldMixtures.resources(II)I -/
theorem dz59_0 : decode (z_code 59) 0 = .ok (.iload_n 1, 1) := by decide +kernel
theorem u59_0 : zEv sc 59 0 [l0, .int x, l2, l3] [] h Q ↔ zEv sc 59 1 [l0, .int x, l2, l3] [.int x] h Q := zE_pure (q := (1, [l0, .int x, l2, l3], [.int x])) dz59_0 rfl rfl rfl
theorem dz59_1 : decode (z_code 59) 1 = .ok (.invokestatic 92, 3) := by decide +kernel
theorem u59_1 : zEv sc 59 1 [l0, l1, l2, l3] [.int z0] h Q ↔ zEv sc 47 0 [.int z0] [] h (fun r h9 => zEv sc 59 4 [l0, l1, l2, l3] (r.toList ++ []) h9 Q) := zE_call (kd := 1) (na := 1) (nr := 0) (as := [.int z0]) (rest := []) (Or.inr ⟨rfl, rfl⟩) dz59_1 (by decide +kernel : z_lk2 zCT (z_cls 59) 92 = some (47, 0, 359)) (fun _ => ⟨by decide +kernel, by decide +kernel⟩) rfl rfl rfl (by decide +kernel) rfl rfl (Or.inl rfl)
theorem dz59_4 : decode (z_code 59) 4 = .ok (.ifCond .eq 13, 3) := by decide +kernel
theorem u59_4 : zEv sc 59 4 [l0, l1, l2, l3] [.int x] h Q ↔ (if x = 0 then zEv sc 59 17 [l0, l1, l2, l3] [] h Q else zEv sc 59 7 [l0, l1, l2, l3] [] h Q) := zE_ifP (P := x = 0) inferInstance 17 dz59_4 rfl rfl
theorem dz59_7 : decode (z_code 59) 7 = .ok (.iload_n 2, 1) := by decide +kernel
theorem u59_7 : zEv sc 59 7 [l0, l1, .int x, l3] [] h Q ↔ zEv sc 59 8 [l0, l1, .int x, l3] [.int x] h Q := zE_pure (q := (8, [l0, l1, .int x, l3], [.int x])) dz59_7 rfl rfl rfl
theorem dz59_8 : decode (z_code 59) 8 = .ok (.iconst 0, 1) := by decide +kernel
theorem u59_8 : zEv sc 59 8 [l0, l1, l2, l3] [t0] h Q ↔ zEv sc 59 9 [l0, l1, l2, l3] [.int 0, t0] h Q := zE_iconst dz59_8 (by decide +kernel)
theorem dz59_9 : decode (z_code 59) 9 = .ok (.bipush 8, 2) := by decide +kernel
theorem u59_9 : zEv sc 59 9 [l0, l1, l2, l3] [t0, t1] h Q ↔ zEv sc 59 11 [l0, l1, l2, l3] [.int 8, t0, t1] h Q := zE_bipush dz59_9 (by decide +kernel)
theorem dz59_11 : decode (z_code 59) 11 = .ok (.invokestatic 67, 3) := by decide +kernel
theorem u59_11 : zEv sc 59 11 [l0, l1, l2, l3] [.int z2, .int z1, .int z0] h Q ↔ zEv sc 15 0 [.int z0, .int z1, .int z2] [] h (fun r h9 => zEv sc 59 14 [l0, l1, l2, l3] (r.toList ++ []) h9 Q) := zE_call (kd := 1) (na := 3) (nr := 0) (as := [.int z0, .int z1, .int z2]) (rest := []) (Or.inr ⟨rfl, rfl⟩) dz59_11 (by decide +kernel : z_lk2 zCT (z_cls 59) 67 = some (15, 0, 304)) (fun _ => ⟨by decide +kernel, by decide +kernel⟩) rfl rfl rfl (by decide +kernel) rfl rfl (Or.inl rfl)
theorem dz59_14 : decode (z_code 59) 14 = .ok (.ifCond .ne 6, 3) := by decide +kernel
theorem u59_14 : zEv sc 59 14 [l0, l1, l2, l3] [.int x] h Q ↔ (if ¬ x = 0 then zEv sc 59 20 [l0, l1, l2, l3] [] h Q else zEv sc 59 17 [l0, l1, l2, l3] [] h Q) := zE_ifP (P := ¬ x = 0) inferInstance 20 dz59_14 rfl rfl
theorem dz59_20 : decode (z_code 59) 20 = .ok (.aload_n 0, 1) := by decide +kernel
theorem u59_20 : zEv sc 59 20 [.ref a, l1, l2, l3] [] h Q ↔ zEv sc 59 21 [.ref a, l1, l2, l3] [.ref a] h Q := zE_pure (q := (21, [.ref a, l1, l2, l3], [.ref a])) dz59_20 rfl rfl rfl
theorem dz59_21 : decode (z_code 59) 21 = .ok (.getfield 22, 3) := by decide +kernel
theorem u59_21 (ho : zO a 9) : zEv sc 59 21 [l0, l1, l2, l3] [.ref a] (zst p iv) Q ↔ zRef (zRV p a 2) (fun j => zEv sc 59 24 [l0, l1, l2, l3] [.ref j] (zst p iv) Q) := zE_gfR dz59_21 (by decide +kernel : z_lk3 zFT (z_cls 59) 22 = some (9, 2, 0, 271)) (by decide +kernel) ho
theorem dz59_24 : decode (z_code 59) 24 = .ok (.aload_n 0, 1) := by decide +kernel
theorem u59_24 : zEv sc 59 24 [.ref a, l1, l2, l3] [t0] h Q ↔ zEv sc 59 25 [.ref a, l1, l2, l3] [.ref a, t0] h Q := zE_pure (q := (25, [.ref a, l1, l2, l3], [.ref a, t0])) dz59_24 rfl rfl rfl
theorem dz59_25 : decode (z_code 59) 25 = .ok (.getfield 10, 3) := by decide +kernel
theorem u59_25 (ho : zO a 9) : zEv sc 59 25 [l0, l1, l2, l3] [.ref a, t0] (zst p iv) Q ↔ zRef (zRV p a 0) (fun j => zEv sc 59 28 [l0, l1, l2, l3] [.ref j, t0] (zst p iv) Q) := zE_gfR dz59_25 (by decide +kernel : z_lk3 zFT (z_cls 59) 10 = some (9, 0, 0, 269)) (by decide +kernel) ho
theorem dz59_28 : decode (z_code 59) 28 = .ok (.invokevirtual 76, 3) := by decide +kernel
theorem u59_28 (ho : zO a 3) : zEv sc 59 28 [l0, l1, l2, l3] [.ref b0, .ref a] (zst p iv) Q ↔ zEv sc 26 0 [.ref a, .ref b0] [] (zst p iv) (fun r h9 => zEv sc 59 31 [l0, l1, l2, l3] (r.toList ++ []) h9 Q) := zE_call (kd := 0) (na := 2) (nr := 0) (as := [.ref a, .ref b0]) (rest := []) (Or.inl ⟨rfl, rfl⟩) dz59_28 (by decide +kernel : z_lk2 zCT (z_cls 59) 76 = some (26, 1, 488)) (fun z => by cases z) rfl rfl rfl (by decide +kernel) rfl rfl (Or.inr (zE_rc ho))
theorem dz59_31 : decode (z_code 59) 31 = .ok (.aload_n 0, 1) := by decide +kernel
theorem u59_31 : zEv sc 59 31 [.ref a, l1, l2, l3] [] h Q ↔ zEv sc 59 32 [.ref a, l1, l2, l3] [.ref a] h Q := zE_pure (q := (32, [.ref a, l1, l2, l3], [.ref a])) dz59_31 rfl rfl rfl
theorem dz59_32 : decode (z_code 59) 32 = .ok (.getfield 10, 3) := by decide +kernel
theorem u59_32 (ho : zO a 9) : zEv sc 59 32 [l0, l1, l2, l3] [.ref a] (zst p iv) Q ↔ zRef (zRV p a 0) (fun j => zEv sc 59 35 [l0, l1, l2, l3] [.ref j] (zst p iv) Q) := zE_gfR dz59_32 (by decide +kernel : z_lk3 zFT (z_cls 59) 10 = some (9, 0, 0, 269)) (by decide +kernel) ho
theorem dz59_35 : decode (z_code 59) 35 = .ok (.iload_n 1, 1) := by decide +kernel
theorem u59_35 : zEv sc 59 35 [l0, .int x, l2, l3] [t0] h Q ↔ zEv sc 59 36 [l0, .int x, l2, l3] [.int x, t0] h Q := zE_pure (q := (36, [l0, .int x, l2, l3], [.int x, t0])) dz59_35 rfl rfl rfl
theorem dz59_36 : decode (z_code 59) 36 = .ok (.invokevirtual 95, 3) := by decide +kernel
theorem u59_36 (ho : zO a 2) : zEv sc 59 36 [l0, l1, l2, l3] [.int z0, .ref a] (zst p iv) Q ↔ zEv sc 14 0 [.ref a, .int z0] [] (zst p iv) (fun r h9 => zEv sc 59 39 [l0, l1, l2, l3] (r.toList ++ []) h9 Q) := zE_call (kd := 0) (na := 2) (nr := 0) (as := [.ref a, .int z0]) (rest := []) (Or.inl ⟨rfl, rfl⟩) dz59_36 (by decide +kernel : z_lk2 zCT (z_cls 59) 95 = some (14, 1, 307)) (fun z => by cases z) rfl rfl rfl (by decide +kernel) rfl rfl (Or.inr (zE_rc ho))
theorem dz59_39 : decode (z_code 59) 39 = .ok (.astore_n 3, 1) := by decide +kernel
theorem u59_39 : zEv sc 59 39 [l0, l1, l2, l3] [.ref a] h Q ↔ zEv sc 59 40 [l0, l1, l2, .ref a] [] h Q := zE_pure (q := (40, [l0, l1, l2, .ref a], [])) dz59_39 rfl rfl rfl
theorem dz59_40 : decode (z_code 59) 40 = .ok (.aload_n 3, 1) := by decide +kernel
theorem u59_40 : zEv sc 59 40 [l0, l1, l2, .ref a] [] h Q ↔ zEv sc 59 41 [l0, l1, l2, .ref a] [.ref a] h Q := zE_pure (q := (41, [l0, l1, l2, .ref a], [.ref a])) dz59_40 rfl rfl rfl
theorem dz59_41 : decode (z_code 59) 41 = .ok (.iload_n 2, 1) := by decide +kernel
theorem u59_41 : zEv sc 59 41 [l0, l1, .int x, l3] [t0] h Q ↔ zEv sc 59 42 [l0, l1, .int x, l3] [.int x, t0] h Q := zE_pure (q := (42, [l0, l1, .int x, l3], [.int x, t0])) dz59_41 rfl rfl rfl
theorem dz59_42 : decode (z_code 59) 42 = .ok (.putfield 99, 3) := by decide +kernel
theorem u59_42 (ho : zO a 6) : zEv sc 59 42 [l0, l1, l2, l3] [.int x, .ref a] (zst p iv) Q ↔ zEv sc 59 45 [l0, l1, l2, l3] [] (zst p (w2 iv a 0 x)) Q := zE_pfI dz59_42 (by decide +kernel : z_lk3 zFT (z_cls 59) 99 = some (6, 0, 1, 107)) (by decide +kernel) (by decide +kernel) (by decide +kernel) ho
theorem dz59_45 : decode (z_code 59) 45 = .ok (.aload_n 3, 1) := by decide +kernel
theorem u59_45 : zEv sc 59 45 [l0, l1, l2, .ref a] [] h Q ↔ zEv sc 59 46 [l0, l1, l2, .ref a] [.ref a] h Q := zE_pure (q := (46, [l0, l1, l2, .ref a], [.ref a])) dz59_45 rfl rfl rfl
theorem dz59_46 : decode (z_code 59) 46 = .ok (.aload_n 0, 1) := by decide +kernel
theorem u59_46 : zEv sc 59 46 [.ref a, l1, l2, l3] [t0] h Q ↔ zEv sc 59 47 [.ref a, l1, l2, l3] [.ref a, t0] h Q := zE_pure (q := (47, [.ref a, l1, l2, l3], [.ref a, t0])) dz59_46 rfl rfl rfl
theorem dz59_47 : decode (z_code 59) 47 = .ok (.getfield 10, 3) := by decide +kernel
theorem u59_47 (ho : zO a 9) : zEv sc 59 47 [l0, l1, l2, l3] [.ref a, t0] (zst p iv) Q ↔ zRef (zRV p a 0) (fun j => zEv sc 59 50 [l0, l1, l2, l3] [.ref j, t0] (zst p iv) Q) := zE_gfR dz59_47 (by decide +kernel : z_lk3 zFT (z_cls 59) 10 = some (9, 0, 0, 269)) (by decide +kernel) ho
theorem dz59_50 : decode (z_code 59) 50 = .ok (.getfield 72, 3) := by decide +kernel
theorem u59_50 (ho : zO a 2) : zEv sc 59 50 [l0, l1, l2, l3] [.ref a, t0] (zst p iv) Q ↔ zEv sc 59 53 [l0, l1, l2, l3] [.int (iv a 0), t0] (zst p iv) Q := zE_gfI dz59_50 (by decide +kernel : z_lk3 zFT (z_cls 59) 72 = some (2, 0, 1, 132)) (by decide +kernel) ho
theorem dz59_53 : decode (z_code 59) 53 = .ok (.invokevirtual 104, 3) := by decide +kernel
theorem u59_53 (ho : zO a 6) : zEv sc 59 53 [l0, l1, l2, l3] [.int z0, .ref a] (zst p iv) Q ↔ zEv sc 41 0 [.ref a, .int z0, .null] [] (zst p iv) (fun r h9 => zEv sc 59 56 [l0, l1, l2, l3] (r.toList ++ []) h9 Q) := zE_call (kd := 0) (na := 2) (nr := 0) (as := [.ref a, .int z0]) (rest := []) (Or.inl ⟨rfl, rfl⟩) dz59_53 (by decide +kernel : z_lk2 zCT (z_cls 59) 104 = some (41, 1, 550)) (fun z => by cases z) rfl rfl rfl (by decide +kernel) rfl rfl (Or.inr (zE_rc ho))
theorem dz59_56 : decode (z_code 59) 56 = .ok (.aload_n 3, 1) := by decide +kernel
theorem u59_56 : zEv sc 59 56 [l0, l1, l2, .ref a] [] h Q ↔ zEv sc 59 57 [l0, l1, l2, .ref a] [.ref a] h Q := zE_pure (q := (57, [l0, l1, l2, .ref a], [.ref a])) dz59_56 rfl rfl rfl
theorem dz59_57 : decode (z_code 59) 57 = .ok (.getfield 107, 3) := by decide +kernel
theorem u59_57 (ho : zO a 6) : zEv sc 59 57 [l0, l1, l2, l3] [.ref a] (zst p iv) Q ↔ zRef (zRV p a 2) (fun j => zEv sc 59 60 [l0, l1, l2, l3] [.ref j] (zst p iv) Q) := zE_gfR dz59_57 (by decide +kernel : z_lk3 zFT (z_cls 59) 107 = some (6, 2, 1, 114)) (by decide +kernel) ho
theorem dz59_60 : decode (z_code 59) 60 = .ok (.getfield 111, 3) := by decide +kernel
theorem u59_60 (ho : zO a 4) : zEv sc 59 60 [l0, l1, l2, l3] [.ref a] (zst p iv) Q ↔ zEv sc 59 63 [l0, l1, l2, l3] [.int (iv a 0)] (zst p iv) Q := zE_gfI dz59_60 (by decide +kernel : z_lk3 zFT (z_cls 59) 111 = some (4, 0, 1, 88)) (by decide +kernel) ho
theorem dz59_63 : decode (z_code 59) 63 = .ok (.ireturn, 1) := by decide +kernel
theorem u59_63 : zEv sc 59 63 [l0, l1, l2, l3] [.int x] h Q ↔ Q (some (.int x)) h := zE_ri dz59_63 (by decide +kernel)
theorem dz59_17 : decode (z_code 59) 17 = .ok (.ldc 71, 2) := by decide +kernel
theorem u59_17 : zEv sc 59 17 [l0, l1, l2, l3] [] h Q ↔ zEv sc 59 19 [l0, l1, l2, l3] [.int (-1000001)] h Q := zE_ldc (by decide +kernel : z_lkK zKT (z_cls 59) 71 = some ((-1000001), 319)) dz59_17
theorem dz59_19 : decode (z_code 59) 19 = .ok (.ireturn, 1) := by decide +kernel
theorem u59_19 : zEv sc 59 19 [l0, l1, l2, l3] [.int x] h Q ↔ Q (some (.int x)) h := zE_ri dz59_19 (by decide +kernel)
/-! method 60: FieldMixtures.bound(III)I -/
theorem dz60_0 : decode (z_code 60) 0 = .ok (.iload_n 1, 1) := by decide +kernel
theorem u60_0 : zEv sc 60 0 [l0, .int x, l2, l3, l4] [] h Q ↔ zEv sc 60 1 [l0, .int x, l2, l3, l4] [.int x] h Q := zE_pure (q := (1, [l0, .int x, l2, l3, l4], [.int x])) dz60_0 rfl rfl rfl
theorem dz60_1 : decode (z_code 60) 1 = .ok (.invokestatic 92, 3) := by decide +kernel
theorem u60_1 : zEv sc 60 1 [l0, l1, l2, l3, l4] [.int z0] h Q ↔ zEv sc 47 0 [.int z0] [] h (fun r h9 => zEv sc 60 4 [l0, l1, l2, l3, l4] (r.toList ++ []) h9 Q) := zE_call (kd := 1) (na := 1) (nr := 0) (as := [.int z0]) (rest := []) (Or.inr ⟨rfl, rfl⟩) dz60_1 (by decide +kernel : z_lk2 zCT (z_cls 60) 92 = some (47, 0, 359)) (fun _ => ⟨by decide +kernel, by decide +kernel⟩) rfl rfl rfl (by decide +kernel) rfl rfl (Or.inl rfl)
theorem dz60_4 : decode (z_code 60) 4 = .ok (.ifCond .eq 24, 3) := by decide +kernel
theorem u60_4 : zEv sc 60 4 [l0, l1, l2, l3, l4] [.int x] h Q ↔ (if x = 0 then zEv sc 60 28 [l0, l1, l2, l3, l4] [] h Q else zEv sc 60 7 [l0, l1, l2, l3, l4] [] h Q) := zE_ifP (P := x = 0) inferInstance 28 dz60_4 rfl rfl
theorem dz60_7 : decode (z_code 60) 7 = .ok (.aload_n 0, 1) := by decide +kernel
theorem u60_7 : zEv sc 60 7 [.ref a, l1, l2, l3, l4] [] h Q ↔ zEv sc 60 8 [.ref a, l1, l2, l3, l4] [.ref a] h Q := zE_pure (q := (8, [.ref a, l1, l2, l3, l4], [.ref a])) dz60_7 rfl rfl rfl
theorem dz60_8 : decode (z_code 60) 8 = .ok (.getfield 10, 3) := by decide +kernel
theorem u60_8 (ho : zO a 9) : zEv sc 60 8 [l0, l1, l2, l3, l4] [.ref a] (zst p iv) Q ↔ zRef (zRV p a 0) (fun j => zEv sc 60 11 [l0, l1, l2, l3, l4] [.ref j] (zst p iv) Q) := zE_gfR dz60_8 (by decide +kernel : z_lk3 zFT (z_cls 60) 10 = some (9, 0, 0, 269)) (by decide +kernel) ho
theorem dz60_11 : decode (z_code 60) 11 = .ok (.iload_n 2, 1) := by decide +kernel
theorem u60_11 : zEv sc 60 11 [l0, l1, .int x, l3, l4] [t0] h Q ↔ zEv sc 60 12 [l0, l1, .int x, l3, l4] [.int x, t0] h Q := zE_pure (q := (12, [l0, l1, .int x, l3, l4], [.int x, t0])) dz60_11 rfl rfl rfl
theorem dz60_12 : decode (z_code 60) 12 = .ok (.invokevirtual 84, 3) := by decide +kernel
theorem u60_12 (ho : zO a 2) : zEv sc 60 12 [l0, l1, l2, l3, l4] [.int z0, .ref a] (zst p iv) Q ↔ zEv sc 16 0 [.ref a, .int z0] [] (zst p iv) (fun r h9 => zEv sc 60 15 [l0, l1, l2, l3, l4] (r.toList ++ []) h9 Q) := zE_call (kd := 0) (na := 2) (nr := 0) (as := [.ref a, .int z0]) (rest := []) (Or.inl ⟨rfl, rfl⟩) dz60_12 (by decide +kernel : z_lk2 zCT (z_cls 60) 84 = some (16, 1, 421)) (fun z => by cases z) rfl rfl rfl (by decide +kernel) rfl rfl (Or.inr (zE_rc ho))
theorem dz60_15 : decode (z_code 60) 15 = .ok (.ifCond .eq 13, 3) := by decide +kernel
theorem u60_15 : zEv sc 60 15 [l0, l1, l2, l3, l4] [.int x] h Q ↔ (if x = 0 then zEv sc 60 28 [l0, l1, l2, l3, l4] [] h Q else zEv sc 60 18 [l0, l1, l2, l3, l4] [] h Q) := zE_ifP (P := x = 0) inferInstance 28 dz60_15 rfl rfl
theorem dz60_18 : decode (z_code 60) 18 = .ok (.iload_n 3, 1) := by decide +kernel
theorem u60_18 : zEv sc 60 18 [l0, l1, l2, .int x, l4] [] h Q ↔ zEv sc 60 19 [l0, l1, l2, .int x, l4] [.int x] h Q := zE_pure (q := (19, [l0, l1, l2, .int x, l4], [.int x])) dz60_18 rfl rfl rfl
theorem dz60_19 : decode (z_code 60) 19 = .ok (.iconst 0, 1) := by decide +kernel
theorem u60_19 : zEv sc 60 19 [l0, l1, l2, l3, l4] [t0] h Q ↔ zEv sc 60 20 [l0, l1, l2, l3, l4] [.int 0, t0] h Q := zE_iconst dz60_19 (by decide +kernel)
theorem dz60_20 : decode (z_code 60) 20 = .ok (.bipush 8, 2) := by decide +kernel
theorem u60_20 : zEv sc 60 20 [l0, l1, l2, l3, l4] [t0, t1] h Q ↔ zEv sc 60 22 [l0, l1, l2, l3, l4] [.int 8, t0, t1] h Q := zE_bipush dz60_20 (by decide +kernel)
theorem dz60_22 : decode (z_code 60) 22 = .ok (.invokestatic 67, 3) := by decide +kernel
theorem u60_22 : zEv sc 60 22 [l0, l1, l2, l3, l4] [.int z2, .int z1, .int z0] h Q ↔ zEv sc 15 0 [.int z0, .int z1, .int z2] [] h (fun r h9 => zEv sc 60 25 [l0, l1, l2, l3, l4] (r.toList ++ []) h9 Q) := zE_call (kd := 1) (na := 3) (nr := 0) (as := [.int z0, .int z1, .int z2]) (rest := []) (Or.inr ⟨rfl, rfl⟩) dz60_22 (by decide +kernel : z_lk2 zCT (z_cls 60) 67 = some (15, 0, 304)) (fun _ => ⟨by decide +kernel, by decide +kernel⟩) rfl rfl rfl (by decide +kernel) rfl rfl (Or.inl rfl)
theorem dz60_25 : decode (z_code 60) 25 = .ok (.ifCond .ne 6, 3) := by decide +kernel
theorem u60_25 : zEv sc 60 25 [l0, l1, l2, l3, l4] [.int x] h Q ↔ (if ¬ x = 0 then zEv sc 60 31 [l0, l1, l2, l3, l4] [] h Q else zEv sc 60 28 [l0, l1, l2, l3, l4] [] h Q) := zE_ifP (P := ¬ x = 0) inferInstance 31 dz60_25 rfl rfl
theorem dz60_31 : decode (z_code 60) 31 = .ok (.aload_n 0, 1) := by decide +kernel
theorem u60_31 : zEv sc 60 31 [.ref a, l1, l2, l3, l4] [] h Q ↔ zEv sc 60 32 [.ref a, l1, l2, l3, l4] [.ref a] h Q := zE_pure (q := (32, [.ref a, l1, l2, l3, l4], [.ref a])) dz60_31 rfl rfl rfl
theorem dz60_32 : decode (z_code 60) 32 = .ok (.getfield 22, 3) := by decide +kernel
theorem u60_32 (ho : zO a 9) : zEv sc 60 32 [l0, l1, l2, l3, l4] [.ref a] (zst p iv) Q ↔ zRef (zRV p a 2) (fun j => zEv sc 60 35 [l0, l1, l2, l3, l4] [.ref j] (zst p iv) Q) := zE_gfR dz60_32 (by decide +kernel : z_lk3 zFT (z_cls 60) 22 = some (9, 2, 0, 271)) (by decide +kernel) ho
theorem dz60_35 : decode (z_code 60) 35 = .ok (.aload_n 0, 1) := by decide +kernel
theorem u60_35 : zEv sc 60 35 [.ref a, l1, l2, l3, l4] [t0] h Q ↔ zEv sc 60 36 [.ref a, l1, l2, l3, l4] [.ref a, t0] h Q := zE_pure (q := (36, [.ref a, l1, l2, l3, l4], [.ref a, t0])) dz60_35 rfl rfl rfl
theorem dz60_36 : decode (z_code 60) 36 = .ok (.getfield 10, 3) := by decide +kernel
theorem u60_36 (ho : zO a 9) : zEv sc 60 36 [l0, l1, l2, l3, l4] [.ref a, t0] (zst p iv) Q ↔ zRef (zRV p a 0) (fun j => zEv sc 60 39 [l0, l1, l2, l3, l4] [.ref j, t0] (zst p iv) Q) := zE_gfR dz60_36 (by decide +kernel : z_lk3 zFT (z_cls 60) 10 = some (9, 0, 0, 269)) (by decide +kernel) ho
theorem dz60_39 : decode (z_code 60) 39 = .ok (.invokevirtual 76, 3) := by decide +kernel
theorem u60_39 (ho : zO a 3) : zEv sc 60 39 [l0, l1, l2, l3, l4] [.ref b0, .ref a] (zst p iv) Q ↔ zEv sc 26 0 [.ref a, .ref b0] [] (zst p iv) (fun r h9 => zEv sc 60 42 [l0, l1, l2, l3, l4] (r.toList ++ []) h9 Q) := zE_call (kd := 0) (na := 2) (nr := 0) (as := [.ref a, .ref b0]) (rest := []) (Or.inl ⟨rfl, rfl⟩) dz60_39 (by decide +kernel : z_lk2 zCT (z_cls 60) 76 = some (26, 1, 488)) (fun z => by cases z) rfl rfl rfl (by decide +kernel) rfl rfl (Or.inr (zE_rc ho))
theorem dz60_42 : decode (z_code 60) 42 = .ok (.aload_n 0, 1) := by decide +kernel
theorem u60_42 : zEv sc 60 42 [.ref a, l1, l2, l3, l4] [] h Q ↔ zEv sc 60 43 [.ref a, l1, l2, l3, l4] [.ref a] h Q := zE_pure (q := (43, [.ref a, l1, l2, l3, l4], [.ref a])) dz60_42 rfl rfl rfl
theorem dz60_43 : decode (z_code 60) 43 = .ok (.getfield 10, 3) := by decide +kernel
theorem u60_43 (ho : zO a 9) : zEv sc 60 43 [l0, l1, l2, l3, l4] [.ref a] (zst p iv) Q ↔ zRef (zRV p a 0) (fun j => zEv sc 60 46 [l0, l1, l2, l3, l4] [.ref j] (zst p iv) Q) := zE_gfR dz60_43 (by decide +kernel : z_lk3 zFT (z_cls 60) 10 = some (9, 0, 0, 269)) (by decide +kernel) ho
theorem dz60_46 : decode (z_code 60) 46 = .ok (.iload_n 1, 1) := by decide +kernel
theorem u60_46 : zEv sc 60 46 [l0, .int x, l2, l3, l4] [t0] h Q ↔ zEv sc 60 47 [l0, .int x, l2, l3, l4] [.int x, t0] h Q := zE_pure (q := (47, [l0, .int x, l2, l3, l4], [.int x, t0])) dz60_46 rfl rfl rfl
theorem dz60_47 : decode (z_code 60) 47 = .ok (.invokevirtual 95, 3) := by decide +kernel
theorem u60_47 (ho : zO a 2) : zEv sc 60 47 [l0, l1, l2, l3, l4] [.int z0, .ref a] (zst p iv) Q ↔ zEv sc 14 0 [.ref a, .int z0] [] (zst p iv) (fun r h9 => zEv sc 60 50 [l0, l1, l2, l3, l4] (r.toList ++ []) h9 Q) := zE_call (kd := 0) (na := 2) (nr := 0) (as := [.ref a, .int z0]) (rest := []) (Or.inl ⟨rfl, rfl⟩) dz60_47 (by decide +kernel : z_lk2 zCT (z_cls 60) 95 = some (14, 1, 307)) (fun z => by cases z) rfl rfl rfl (by decide +kernel) rfl rfl (Or.inr (zE_rc ho))
theorem dz60_50 : decode (z_code 60) 50 = .ok (.astore 4, 2) := by decide +kernel
theorem u60_50 : zEv sc 60 50 [l0, l1, l2, l3, l4] [.ref a] h Q ↔ zEv sc 60 52 [l0, l1, l2, l3, .ref a] [] h Q := zE_pure (q := (52, [l0, l1, l2, l3, .ref a], [])) dz60_50 rfl rfl rfl
theorem dz60_52 : decode (z_code 60) 52 = .ok (.aload 4, 2) := by decide +kernel
theorem u60_52 : zEv sc 60 52 [l0, l1, l2, l3, .ref a] [] h Q ↔ zEv sc 60 54 [l0, l1, l2, l3, .ref a] [.ref a] h Q := zE_pure (q := (54, [l0, l1, l2, l3, .ref a], [.ref a])) dz60_52 rfl rfl rfl
theorem dz60_54 : decode (z_code 60) 54 = .ok (.getfield 116, 3) := by decide +kernel
theorem u60_54 (ho : zO a 6) : zEv sc 60 54 [l0, l1, l2, l3, l4] [.ref a] (zst p iv) Q ↔ zRef (zRV p a 1) (fun j => zEv sc 60 57 [l0, l1, l2, l3, l4] [.ref j] (zst p iv) Q) := zE_gfR dz60_54 (by decide +kernel : z_lk3 zFT (z_cls 60) 116 = some (6, 1, 1, 109)) (by decide +kernel) ho
theorem dz60_57 : decode (z_code 60) 57 = .ok (.iload_n 2, 1) := by decide +kernel
theorem u60_57 : zEv sc 60 57 [l0, l1, .int x, l3, l4] [t0] h Q ↔ zEv sc 60 58 [l0, l1, .int x, l3, l4] [.int x, t0] h Q := zE_pure (q := (58, [l0, l1, .int x, l3, l4], [.int x, t0])) dz60_57 rfl rfl rfl
theorem dz60_58 : decode (z_code 60) 58 = .ok (.iload_n 3, 1) := by decide +kernel
theorem u60_58 : zEv sc 60 58 [l0, l1, l2, .int x, l4] [t0, t1] h Q ↔ zEv sc 60 59 [l0, l1, l2, .int x, l4] [.int x, t0, t1] h Q := zE_pure (q := (59, [l0, l1, l2, .int x, l4], [.int x, t0, t1])) dz60_58 rfl rfl rfl
theorem dz60_59 : decode (z_code 60) 59 = .ok (.iastore, 1) := by decide +kernel
theorem u60_59 (ho : zO a 100) : zEv sc 60 59 [l0, l1, l2, l3, l4] [.int x2, .int x1, .ref a] (zst p iv) Q ↔ (vp_in x1 (zLn a) ∧ zEv sc 60 60 [l0, l1, l2, l3, l4] [] (zst p (w2 iv a x1.toNatClampNeg x2)) Q) := zE_ast (Or.inl ⟨rfl, rfl, rfl⟩) dz60_59 ho
theorem dz60_60 : decode (z_code 60) 60 = .ok (.aload 4, 2) := by decide +kernel
theorem u60_60 : zEv sc 60 60 [l0, l1, l2, l3, .ref a] [] h Q ↔ zEv sc 60 62 [l0, l1, l2, l3, .ref a] [.ref a] h Q := zE_pure (q := (62, [l0, l1, l2, l3, .ref a], [.ref a])) dz60_60 rfl rfl rfl
theorem dz60_62 : decode (z_code 60) 62 = .ok (.aload_n 0, 1) := by decide +kernel
theorem u60_62 : zEv sc 60 62 [.ref a, l1, l2, l3, l4] [t0] h Q ↔ zEv sc 60 63 [.ref a, l1, l2, l3, l4] [.ref a, t0] h Q := zE_pure (q := (63, [.ref a, l1, l2, l3, l4], [.ref a, t0])) dz60_62 rfl rfl rfl
theorem dz60_63 : decode (z_code 60) 63 = .ok (.getfield 10, 3) := by decide +kernel
theorem u60_63 (ho : zO a 9) : zEv sc 60 63 [l0, l1, l2, l3, l4] [.ref a, t0] (zst p iv) Q ↔ zRef (zRV p a 0) (fun j => zEv sc 60 66 [l0, l1, l2, l3, l4] [.ref j, t0] (zst p iv) Q) := zE_gfR dz60_63 (by decide +kernel : z_lk3 zFT (z_cls 60) 10 = some (9, 0, 0, 269)) (by decide +kernel) ho
theorem dz60_66 : decode (z_code 60) 66 = .ok (.getfield 72, 3) := by decide +kernel
theorem u60_66 (ho : zO a 2) : zEv sc 60 66 [l0, l1, l2, l3, l4] [.ref a, t0] (zst p iv) Q ↔ zEv sc 60 69 [l0, l1, l2, l3, l4] [.int (iv a 0), t0] (zst p iv) Q := zE_gfI dz60_66 (by decide +kernel : z_lk3 zFT (z_cls 60) 72 = some (2, 0, 1, 132)) (by decide +kernel) ho
theorem dz60_69 : decode (z_code 60) 69 = .ok (.invokevirtual 104, 3) := by decide +kernel
theorem u60_69 (ho : zO a 6) : zEv sc 60 69 [l0, l1, l2, l3, l4] [.int z0, .ref a] (zst p iv) Q ↔ zEv sc 41 0 [.ref a, .int z0, .null] [] (zst p iv) (fun r h9 => zEv sc 60 72 [l0, l1, l2, l3, l4] (r.toList ++ []) h9 Q) := zE_call (kd := 0) (na := 2) (nr := 0) (as := [.ref a, .int z0]) (rest := []) (Or.inl ⟨rfl, rfl⟩) dz60_69 (by decide +kernel : z_lk2 zCT (z_cls 60) 104 = some (41, 1, 550)) (fun z => by cases z) rfl rfl rfl (by decide +kernel) rfl rfl (Or.inr (zE_rc ho))
theorem dz60_72 : decode (z_code 60) 72 = .ok (.aload 4, 2) := by decide +kernel
theorem u60_72 : zEv sc 60 72 [l0, l1, l2, l3, .ref a] [] h Q ↔ zEv sc 60 74 [l0, l1, l2, l3, .ref a] [.ref a] h Q := zE_pure (q := (74, [l0, l1, l2, l3, .ref a], [.ref a])) dz60_72 rfl rfl rfl
theorem dz60_74 : decode (z_code 60) 74 = .ok (.getfield 107, 3) := by decide +kernel
theorem u60_74 (ho : zO a 6) : zEv sc 60 74 [l0, l1, l2, l3, l4] [.ref a] (zst p iv) Q ↔ zRef (zRV p a 2) (fun j => zEv sc 60 77 [l0, l1, l2, l3, l4] [.ref j] (zst p iv) Q) := zE_gfR dz60_74 (by decide +kernel : z_lk3 zFT (z_cls 60) 107 = some (6, 2, 1, 114)) (by decide +kernel) ho
theorem dz60_77 : decode (z_code 60) 77 = .ok (.getfield 111, 3) := by decide +kernel
theorem u60_77 (ho : zO a 4) : zEv sc 60 77 [l0, l1, l2, l3, l4] [.ref a] (zst p iv) Q ↔ zEv sc 60 80 [l0, l1, l2, l3, l4] [.int (iv a 0)] (zst p iv) Q := zE_gfI dz60_77 (by decide +kernel : z_lk3 zFT (z_cls 60) 111 = some (4, 0, 1, 88)) (by decide +kernel) ho
theorem dz60_80 : decode (z_code 60) 80 = .ok (.ireturn, 1) := by decide +kernel
theorem u60_80 : zEv sc 60 80 [l0, l1, l2, l3, l4] [.int x] h Q ↔ Q (some (.int x)) h := zE_ri dz60_80 (by decide +kernel)
theorem dz60_28 : decode (z_code 60) 28 = .ok (.ldc 71, 2) := by decide +kernel
theorem u60_28 : zEv sc 60 28 [l0, l1, l2, l3, l4] [] h Q ↔ zEv sc 60 30 [l0, l1, l2, l3, l4] [.int (-1000001)] h Q := zE_ldc (by decide +kernel : z_lkK zKT (z_cls 60) 71 = some ((-1000001), 319)) dz60_28
theorem dz60_30 : decode (z_code 60) 30 = .ok (.ireturn, 1) := by decide +kernel
theorem u60_30 : zEv sc 60 30 [l0, l1, l2, l3, l4] [.int x] h Q ↔ Q (some (.int x)) h := zE_ri dz60_30 (by decide +kernel)
/-! method 61: FieldMixtures.tie(I)I -/
theorem dz61_0 : decode (z_code 61) 0 = .ok (.iload_n 1, 1) := by decide +kernel
theorem u61_0 : zEv sc 61 0 [l0, .int x, l2] [] h Q ↔ zEv sc 61 1 [l0, .int x, l2] [.int x] h Q := zE_pure (q := (1, [l0, .int x, l2], [.int x])) dz61_0 rfl rfl rfl
theorem dz61_1 : decode (z_code 61) 1 = .ok (.iconst 0, 1) := by decide +kernel
theorem u61_1 : zEv sc 61 1 [l0, l1, l2] [t0] h Q ↔ zEv sc 61 2 [l0, l1, l2] [.int 0, t0] h Q := zE_iconst dz61_1 (by decide +kernel)
theorem dz61_2 : decode (z_code 61) 2 = .ok (.iconst 2, 1) := by decide +kernel
theorem u61_2 : zEv sc 61 2 [l0, l1, l2] [t0, t1] h Q ↔ zEv sc 61 3 [l0, l1, l2] [.int 2, t0, t1] h Q := zE_iconst dz61_2 (by decide +kernel)
theorem dz61_3 : decode (z_code 61) 3 = .ok (.invokestatic 67, 3) := by decide +kernel
theorem u61_3 : zEv sc 61 3 [l0, l1, l2] [.int z2, .int z1, .int z0] h Q ↔ zEv sc 15 0 [.int z0, .int z1, .int z2] [] h (fun r h9 => zEv sc 61 6 [l0, l1, l2] (r.toList ++ []) h9 Q) := zE_call (kd := 1) (na := 3) (nr := 0) (as := [.int z0, .int z1, .int z2]) (rest := []) (Or.inr ⟨rfl, rfl⟩) dz61_3 (by decide +kernel : z_lk2 zCT (z_cls 61) 67 = some (15, 0, 304)) (fun _ => ⟨by decide +kernel, by decide +kernel⟩) rfl rfl rfl (by decide +kernel) rfl rfl (Or.inl rfl)
theorem dz61_6 : decode (z_code 61) 6 = .ok (.ifCond .ne 6, 3) := by decide +kernel
theorem u61_6 : zEv sc 61 6 [l0, l1, l2] [.int x] h Q ↔ (if ¬ x = 0 then zEv sc 61 12 [l0, l1, l2] [] h Q else zEv sc 61 9 [l0, l1, l2] [] h Q) := zE_ifP (P := ¬ x = 0) inferInstance 12 dz61_6 rfl rfl
theorem dz61_9 : decode (z_code 61) 9 = .ok (.ldc 71, 2) := by decide +kernel
theorem u61_9 : zEv sc 61 9 [l0, l1, l2] [] h Q ↔ zEv sc 61 11 [l0, l1, l2] [.int (-1000001)] h Q := zE_ldc (by decide +kernel : z_lkK zKT (z_cls 61) 71 = some ((-1000001), 319)) dz61_9
theorem dz61_11 : decode (z_code 61) 11 = .ok (.ireturn, 1) := by decide +kernel
theorem u61_11 : zEv sc 61 11 [l0, l1, l2] [.int x] h Q ↔ Q (some (.int x)) h := zE_ri dz61_11 (by decide +kernel)
theorem dz61_12 : decode (z_code 61) 12 = .ok (.aload_n 0, 1) := by decide +kernel
theorem u61_12 : zEv sc 61 12 [.ref a, l1, l2] [] h Q ↔ zEv sc 61 13 [.ref a, l1, l2] [.ref a] h Q := zE_pure (q := (13, [.ref a, l1, l2], [.ref a])) dz61_12 rfl rfl rfl
theorem dz61_13 : decode (z_code 61) 13 = .ok (.getfield 10, 3) := by decide +kernel
theorem u61_13 (ho : zO a 9) : zEv sc 61 13 [l0, l1, l2] [.ref a] (zst p iv) Q ↔ zRef (zRV p a 0) (fun j => zEv sc 61 16 [l0, l1, l2] [.ref j] (zst p iv) Q) := zE_gfR dz61_13 (by decide +kernel : z_lk3 zFT (z_cls 61) 10 = some (9, 0, 0, 269)) (by decide +kernel) ho
theorem dz61_16 : decode (z_code 61) 16 = .ok (.getfield 119, 3) := by decide +kernel
theorem u61_16 (ho : zO a 2) : zEv sc 61 16 [l0, l1, l2] [.ref a] (zst p iv) Q ↔ zEv sc 61 19 [l0, l1, l2] [.int (iv a 1)] (zst p iv) Q := zE_gfI dz61_16 (by decide +kernel : z_lk3 zFT (z_cls 61) 119 = some (2, 1, 1, 135)) (by decide +kernel) ho
theorem dz61_19 : decode (z_code 61) 19 = .ok (.istore_n 2, 1) := by decide +kernel
theorem u61_19 : zEv sc 61 19 [l0, l1, l2] [.int x] h Q ↔ zEv sc 61 20 [l0, l1, .int x] [] h Q := zE_pure (q := (20, [l0, l1, .int x], [])) dz61_19 rfl rfl rfl
theorem dz61_20 : decode (z_code 61) 20 = .ok (.aload_n 0, 1) := by decide +kernel
theorem u61_20 : zEv sc 61 20 [.ref a, l1, l2] [] h Q ↔ zEv sc 61 21 [.ref a, l1, l2] [.ref a] h Q := zE_pure (q := (21, [.ref a, l1, l2], [.ref a])) dz61_20 rfl rfl rfl
theorem dz61_21 : decode (z_code 61) 21 = .ok (.getfield 22, 3) := by decide +kernel
theorem u61_21 (ho : zO a 9) : zEv sc 61 21 [l0, l1, l2] [.ref a] (zst p iv) Q ↔ zRef (zRV p a 2) (fun j => zEv sc 61 24 [l0, l1, l2] [.ref j] (zst p iv) Q) := zE_gfR dz61_21 (by decide +kernel : z_lk3 zFT (z_cls 61) 22 = some (9, 2, 0, 271)) (by decide +kernel) ho
theorem dz61_24 : decode (z_code 61) 24 = .ok (.aload_n 0, 1) := by decide +kernel
theorem u61_24 : zEv sc 61 24 [.ref a, l1, l2] [t0] h Q ↔ zEv sc 61 25 [.ref a, l1, l2] [.ref a, t0] h Q := zE_pure (q := (25, [.ref a, l1, l2], [.ref a, t0])) dz61_24 rfl rfl rfl
theorem dz61_25 : decode (z_code 61) 25 = .ok (.getfield 10, 3) := by decide +kernel
theorem u61_25 (ho : zO a 9) : zEv sc 61 25 [l0, l1, l2] [.ref a, t0] (zst p iv) Q ↔ zRef (zRV p a 0) (fun j => zEv sc 61 28 [l0, l1, l2] [.ref j, t0] (zst p iv) Q) := zE_gfR dz61_25 (by decide +kernel : z_lk3 zFT (z_cls 61) 10 = some (9, 0, 0, 269)) (by decide +kernel) ho
theorem dz61_28 : decode (z_code 61) 28 = .ok (.invokevirtual 76, 3) := by decide +kernel
theorem u61_28 (ho : zO a 3) : zEv sc 61 28 [l0, l1, l2] [.ref b0, .ref a] (zst p iv) Q ↔ zEv sc 26 0 [.ref a, .ref b0] [] (zst p iv) (fun r h9 => zEv sc 61 31 [l0, l1, l2] (r.toList ++ []) h9 Q) := zE_call (kd := 0) (na := 2) (nr := 0) (as := [.ref a, .ref b0]) (rest := []) (Or.inl ⟨rfl, rfl⟩) dz61_28 (by decide +kernel : z_lk2 zCT (z_cls 61) 76 = some (26, 1, 488)) (fun z => by cases z) rfl rfl rfl (by decide +kernel) rfl rfl (Or.inr (zE_rc ho))
theorem dz61_31 : decode (z_code 61) 31 = .ok (.aload_n 0, 1) := by decide +kernel
theorem u61_31 : zEv sc 61 31 [.ref a, l1, l2] [] h Q ↔ zEv sc 61 32 [.ref a, l1, l2] [.ref a] h Q := zE_pure (q := (32, [.ref a, l1, l2], [.ref a])) dz61_31 rfl rfl rfl
theorem dz61_32 : decode (z_code 61) 32 = .ok (.getfield 10, 3) := by decide +kernel
theorem u61_32 (ho : zO a 9) : zEv sc 61 32 [l0, l1, l2] [.ref a] (zst p iv) Q ↔ zRef (zRV p a 0) (fun j => zEv sc 61 35 [l0, l1, l2] [.ref j] (zst p iv) Q) := zE_gfR dz61_32 (by decide +kernel : z_lk3 zFT (z_cls 61) 10 = some (9, 0, 0, 269)) (by decide +kernel) ho
theorem dz61_35 : decode (z_code 61) 35 = .ok (.iload_n 1, 1) := by decide +kernel
theorem u61_35 : zEv sc 61 35 [l0, .int x, l2] [t0] h Q ↔ zEv sc 61 36 [l0, .int x, l2] [.int x, t0] h Q := zE_pure (q := (36, [l0, .int x, l2], [.int x, t0])) dz61_35 rfl rfl rfl
theorem dz61_36 : decode (z_code 61) 36 = .ok (.putfield 119, 3) := by decide +kernel
theorem u61_36 (ho : zO a 2) : zEv sc 61 36 [l0, l1, l2] [.int x, .ref a] (zst p iv) Q ↔ zEv sc 61 39 [l0, l1, l2] [] (zst p (w2 iv a 1 x)) Q := zE_pfI dz61_36 (by decide +kernel : z_lk3 zFT (z_cls 61) 119 = some (2, 1, 1, 135)) (by decide +kernel) (by decide +kernel) (by decide +kernel) ho
theorem dz61_39 : decode (z_code 61) 39 = .ok (.iload_n 2, 1) := by decide +kernel
theorem u61_39 : zEv sc 61 39 [l0, l1, .int x] [] h Q ↔ zEv sc 61 40 [l0, l1, .int x] [.int x] h Q := zE_pure (q := (40, [l0, l1, .int x], [.int x])) dz61_39 rfl rfl rfl
theorem dz61_40 : decode (z_code 61) 40 = .ok (.ireturn, 1) := by decide +kernel
theorem u61_40 : zEv sc 61 40 [l0, l1, l2] [.int x] h Q ↔ Q (some (.int x)) h := zE_ri dz61_40 (by decide +kernel)
/-! method 62: FieldMixtures.freshList(I)LFieldMixtures$AllocationList; -/
theorem dz62_0 : decode (z_code 62) 0 = .ok (.iload_n 1, 1) := by decide +kernel
theorem u62_0 : zEv sc 62 0 [l0, .int x, l2] [] h Q ↔ zEv sc 62 1 [l0, .int x, l2] [.int x] h Q := zE_pure (q := (1, [l0, .int x, l2], [.int x])) dz62_0 rfl rfl rfl
theorem dz62_1 : decode (z_code 62) 1 = .ok (.ifCond .ne 10, 3) := by decide +kernel
theorem u62_1 : zEv sc 62 1 [l0, l1, l2] [.int x] h Q ↔ (if ¬ x = 0 then zEv sc 62 11 [l0, l1, l2] [] h Q else zEv sc 62 4 [l0, l1, l2] [] h Q) := zE_ifP (P := ¬ x = 0) inferInstance 11 dz62_1 rfl rfl
theorem dz62_4 : decode (z_code 62) 4 = .ok (.aload_n 0, 1) := by decide +kernel
theorem u62_4 : zEv sc 62 4 [.ref a, l1, l2] [] h Q ↔ zEv sc 62 5 [.ref a, l1, l2] [.ref a] h Q := zE_pure (q := (5, [.ref a, l1, l2], [.ref a])) dz62_4 rfl rfl rfl
theorem dz62_5 : decode (z_code 62) 5 = .ok (.getfield 29, 3) := by decide +kernel
theorem u62_5 (ho : zO a 9) : zEv sc 62 5 [l0, l1, l2] [.ref a] (zst p iv) Q ↔ zRef (zRV p a 3) (fun j => zEv sc 62 8 [l0, l1, l2] [.ref j] (zst p iv) Q) := zE_gfR dz62_5 (by decide +kernel : z_lk3 zFT (z_cls 62) 29 = some (9, 3, 0, 272)) (by decide +kernel) ho
theorem dz62_8 : decode (z_code 62) 8 = .ok (.goto 7, 3) := by decide +kernel
theorem u62_8 : zEv sc 62 8 [l0, l1, l2] [t0] h Q ↔ zEv sc 62 15 [l0, l1, l2] [t0] h Q := zE_go 15 dz62_8 rfl
theorem dz62_15 : decode (z_code 62) 15 = .ok (.astore_n 2, 1) := by decide +kernel
theorem u62_15 : zEv sc 62 15 [l0, l1, l2] [.ref a] h Q ↔ zEv sc 62 16 [l0, l1, .ref a] [] h Q := zE_pure (q := (16, [l0, l1, .ref a], [])) dz62_15 rfl rfl rfl
theorem dz62_16 : decode (z_code 62) 16 = .ok (.aload_n 2, 1) := by decide +kernel
theorem u62_16 : zEv sc 62 16 [l0, l1, .ref a] [] h Q ↔ zEv sc 62 17 [l0, l1, .ref a] [.ref a] h Q := zE_pure (q := (17, [l0, l1, .ref a], [.ref a])) dz62_16 rfl rfl rfl
theorem dz62_17 : decode (z_code 62) 17 = .ok (.aload_n 0, 1) := by decide +kernel
theorem u62_17 : zEv sc 62 17 [.ref a, l1, l2] [t0] h Q ↔ zEv sc 62 18 [.ref a, l1, l2] [.ref a, t0] h Q := zE_pure (q := (18, [.ref a, l1, l2], [.ref a, t0])) dz62_17 rfl rfl rfl
theorem dz62_18 : decode (z_code 62) 18 = .ok (.getfield 10, 3) := by decide +kernel
theorem u62_18 (ho : zO a 9) : zEv sc 62 18 [l0, l1, l2] [.ref a, t0] (zst p iv) Q ↔ zRef (zRV p a 0) (fun j => zEv sc 62 21 [l0, l1, l2] [.ref j, t0] (zst p iv) Q) := zE_gfR dz62_18 (by decide +kernel : z_lk3 zFT (z_cls 62) 10 = some (9, 0, 0, 269)) (by decide +kernel) ho
theorem dz62_21 : decode (z_code 62) 21 = .ok (.iload_n 1, 1) := by decide +kernel
theorem u62_21 : zEv sc 62 21 [l0, .int x, l2] [t0, t1] h Q ↔ zEv sc 62 22 [l0, .int x, l2] [.int x, t0, t1] h Q := zE_pure (q := (22, [l0, .int x, l2], [.int x, t0, t1])) dz62_21 rfl rfl rfl
theorem dz62_22 : decode (z_code 62) 22 = .ok (.invokevirtual 95, 3) := by decide +kernel
theorem u62_22 (ho : zO a 2) : zEv sc 62 22 [l0, l1, l2] [.int z0, .ref a, t0] (zst p iv) Q ↔ zEv sc 14 0 [.ref a, .int z0] [] (zst p iv) (fun r h9 => zEv sc 62 25 [l0, l1, l2] (r.toList ++ [t0]) h9 Q) := zE_call (kd := 0) (na := 2) (nr := 1) (as := [.ref a, .int z0]) (rest := [t0]) (Or.inl ⟨rfl, rfl⟩) dz62_22 (by decide +kernel : z_lk2 zCT (z_cls 62) 95 = some (14, 1, 307)) (fun z => by cases z) rfl rfl rfl (by decide +kernel) rfl rfl (Or.inr (zE_rc ho))
theorem dz62_25 : decode (z_code 62) 25 = .ok (.aload_n 0, 1) := by decide +kernel
theorem u62_25 : zEv sc 62 25 [.ref a, l1, l2] [t0, t1] h Q ↔ zEv sc 62 26 [.ref a, l1, l2] [.ref a, t0, t1] h Q := zE_pure (q := (26, [.ref a, l1, l2], [.ref a, t0, t1])) dz62_25 rfl rfl rfl
theorem dz62_26 : decode (z_code 62) 26 = .ok (.getfield 10, 3) := by decide +kernel
theorem u62_26 (ho : zO a 9) : zEv sc 62 26 [l0, l1, l2] [.ref a, t0, t1] (zst p iv) Q ↔ zRef (zRV p a 0) (fun j => zEv sc 62 29 [l0, l1, l2] [.ref j, t0, t1] (zst p iv) Q) := zE_gfR dz62_26 (by decide +kernel : z_lk3 zFT (z_cls 62) 10 = some (9, 0, 0, 269)) (by decide +kernel) ho
theorem dz62_29 : decode (z_code 62) 29 = .ok (.getfield 72, 3) := by decide +kernel
theorem u62_29 (ho : zO a 2) : zEv sc 62 29 [l0, l1, l2] [.ref a, t0, t1] (zst p iv) Q ↔ zEv sc 62 32 [l0, l1, l2] [.int (iv a 0), t0, t1] (zst p iv) Q := zE_gfI dz62_29 (by decide +kernel : z_lk3 zFT (z_cls 62) 72 = some (2, 0, 1, 132)) (by decide +kernel) ho
theorem dz62_32 : decode (z_code 62) 32 = .ok (.invokevirtual 263, 3) := by decide +kernel
theorem u62_32 (ho : zO a 0) : zEv sc 62 32 [l0, l1, l2] [.int z0, .ref b0, .ref a] (zst p iv) Q ↔ zEv sc 2 0 [.ref a, .ref b0, .int z0, .null, .null] [] (zst p iv) (fun r h9 => zEv sc 62 35 [l0, l1, l2] (r.toList ++ []) h9 Q) := zE_call (kd := 0) (na := 3) (nr := 0) (as := [.ref a, .ref b0, .int z0]) (rest := []) (Or.inl ⟨rfl, rfl⟩) dz62_32 (by decide +kernel : z_lk2 zCT (z_cls 62) 263 = some (2, 1, 408)) (fun z => by cases z) rfl rfl rfl (by decide +kernel) rfl rfl (Or.inr (zE_rc ho))
theorem dz62_35 : decode (z_code 62) 35 = .ok (.aload_n 2, 1) := by decide +kernel
theorem u62_35 : zEv sc 62 35 [l0, l1, .ref a] [] h Q ↔ zEv sc 62 36 [l0, l1, .ref a] [.ref a] h Q := zE_pure (q := (36, [l0, l1, .ref a], [.ref a])) dz62_35 rfl rfl rfl
theorem dz62_36 : decode (z_code 62) 36 = .ok (.areturn, 1) := by decide +kernel
theorem u62_36 : zEv sc 62 36 [l0, l1, l2] [.ref a] h Q ↔ Q (some (.ref a)) h := zE_ra dz62_36 (by decide +kernel)
theorem dz62_11 : decode (z_code 62) 11 = .ok (.aload_n 0, 1) := by decide +kernel
theorem u62_11 : zEv sc 62 11 [.ref a, l1, l2] [] h Q ↔ zEv sc 62 12 [.ref a, l1, l2] [.ref a] h Q := zE_pure (q := (12, [.ref a, l1, l2], [.ref a])) dz62_11 rfl rfl rfl
theorem dz62_12 : decode (z_code 62) 12 = .ok (.getfield 33, 3) := by decide +kernel
theorem u62_12 (ho : zO a 9) : zEv sc 62 12 [l0, l1, l2] [.ref a] (zst p iv) Q ↔ zRef (zRV p a 4) (fun j => zEv sc 62 15 [l0, l1, l2] [.ref j] (zst p iv) Q) := zE_gfR dz62_12 (by decide +kernel : z_lk3 zFT (z_cls 62) 33 = some (9, 4, 0, 273)) (by decide +kernel) ho
/-! method 63: FieldMixtures.allocations(II)I -/
theorem dz63_0 : decode (z_code 63) 0 = .ok (.iload_n 1, 1) := by decide +kernel
theorem u63_0 : zEv sc 63 0 [l0, .int x, l2, l3] [] h Q ↔ zEv sc 63 1 [l0, .int x, l2, l3] [.int x] h Q := zE_pure (q := (1, [l0, .int x, l2, l3], [.int x])) dz63_0 rfl rfl rfl
theorem dz63_1 : decode (z_code 63) 1 = .ok (.invokestatic 92, 3) := by decide +kernel
theorem u63_1 : zEv sc 63 1 [l0, l1, l2, l3] [.int z0] h Q ↔ zEv sc 47 0 [.int z0] [] h (fun r h9 => zEv sc 63 4 [l0, l1, l2, l3] (r.toList ++ []) h9 Q) := zE_call (kd := 1) (na := 1) (nr := 0) (as := [.int z0]) (rest := []) (Or.inr ⟨rfl, rfl⟩) dz63_1 (by decide +kernel : z_lk2 zCT (z_cls 63) 92 = some (47, 0, 359)) (fun _ => ⟨by decide +kernel, by decide +kernel⟩) rfl rfl rfl (by decide +kernel) rfl rfl (Or.inl rfl)
theorem dz63_4 : decode (z_code 63) 4 = .ok (.ifCond .eq 8, 3) := by decide +kernel
theorem u63_4 : zEv sc 63 4 [l0, l1, l2, l3] [.int x] h Q ↔ (if x = 0 then zEv sc 63 12 [l0, l1, l2, l3] [] h Q else zEv sc 63 7 [l0, l1, l2, l3] [] h Q) := zE_ifP (P := x = 0) inferInstance 12 dz63_4 rfl rfl
theorem dz63_7 : decode (z_code 63) 7 = .ok (.iload_n 2, 1) := by decide +kernel
theorem u63_7 : zEv sc 63 7 [l0, l1, .int x, l3] [] h Q ↔ zEv sc 63 8 [l0, l1, .int x, l3] [.int x] h Q := zE_pure (q := (8, [l0, l1, .int x, l3], [.int x])) dz63_7 rfl rfl rfl
theorem dz63_8 : decode (z_code 63) 8 = .ok (.iconst (-1), 1) := by decide +kernel
theorem u63_8 : zEv sc 63 8 [l0, l1, l2, l3] [t0] h Q ↔ zEv sc 63 9 [l0, l1, l2, l3] [.int (-1), t0] h Q := zE_iconst dz63_8 (by decide +kernel)
theorem dz63_9 : decode (z_code 63) 9 = .ok (.if_icmp .ge 6, 3) := by decide +kernel
theorem u63_9 : zEv sc 63 9 [l0, l1, l2, l3] [.int x2, .int x1] h Q ↔ (if x2 ≤ x1 then zEv sc 63 15 [l0, l1, l2, l3] [] h Q else zEv sc 63 12 [l0, l1, l2, l3] [] h Q) := zE_icP (P := x2 ≤ x1) inferInstance 15 dz63_9 rfl rfl
theorem dz63_15 : decode (z_code 63) 15 = .ok (.aload_n 0, 1) := by decide +kernel
theorem u63_15 : zEv sc 63 15 [.ref a, l1, l2, l3] [] h Q ↔ zEv sc 63 16 [.ref a, l1, l2, l3] [.ref a] h Q := zE_pure (q := (16, [.ref a, l1, l2, l3], [.ref a])) dz63_15 rfl rfl rfl
theorem dz63_16 : decode (z_code 63) 16 = .ok (.iload_n 1, 1) := by decide +kernel
theorem u63_16 : zEv sc 63 16 [l0, .int x, l2, l3] [t0] h Q ↔ zEv sc 63 17 [l0, .int x, l2, l3] [.int x, t0] h Q := zE_pure (q := (17, [l0, .int x, l2, l3], [.int x, t0])) dz63_16 rfl rfl rfl
theorem dz63_17 : decode (z_code 63) 17 = .ok (.invokevirtual 122, 3) := by decide +kernel
theorem u63_17 (ho : zO a 9) : zEv sc 63 17 [l0, l1, l2, l3] [.int z0, .ref a] (zst p iv) Q ↔ zEv sc 62 0 [.ref a, .int z0, .null] [] (zst p iv) (fun r h9 => zEv sc 63 20 [l0, l1, l2, l3] (r.toList ++ []) h9 Q) := zE_call (kd := 0) (na := 2) (nr := 0) (as := [.ref a, .int z0]) (rest := []) (Or.inl ⟨rfl, rfl⟩) dz63_17 (by decide +kernel : z_lk2 zCT (z_cls 63) 122 = some (62, 0, 404)) (fun z => by cases z) rfl rfl rfl (by decide +kernel) rfl rfl (Or.inr (zE_rc ho))
theorem dz63_20 : decode (z_code 63) 20 = .ok (.astore_n 3, 1) := by decide +kernel
theorem u63_20 : zEv sc 63 20 [l0, l1, l2, l3] [.ref a] h Q ↔ zEv sc 63 21 [l0, l1, l2, .ref a] [] h Q := zE_pure (q := (21, [l0, l1, l2, .ref a], [])) dz63_20 rfl rfl rfl
theorem dz63_21 : decode (z_code 63) 21 = .ok (.iload_n 2, 1) := by decide +kernel
theorem u63_21 : zEv sc 63 21 [l0, l1, .int x, l3] [] h Q ↔ zEv sc 63 22 [l0, l1, .int x, l3] [.int x] h Q := zE_pure (q := (22, [l0, l1, .int x, l3], [.int x])) dz63_21 rfl rfl rfl
theorem dz63_22 : decode (z_code 63) 22 = .ok (.iconst (-1), 1) := by decide +kernel
theorem u63_22 : zEv sc 63 22 [l0, l1, l2, l3] [t0] h Q ↔ zEv sc 63 23 [l0, l1, l2, l3] [.int (-1), t0] h Q := zE_iconst dz63_22 (by decide +kernel)
theorem dz63_23 : decode (z_code 63) 23 = .ok (.if_icmp .ne 8, 3) := by decide +kernel
theorem u63_23 : zEv sc 63 23 [l0, l1, l2, l3] [.int x2, .int x1] h Q ↔ (if ¬ x1 = x2 then zEv sc 63 31 [l0, l1, l2, l3] [] h Q else zEv sc 63 26 [l0, l1, l2, l3] [] h Q) := zE_icP (P := ¬ x1 = x2) inferInstance 31 dz63_23 rfl rfl
theorem dz63_26 : decode (z_code 63) 26 = .ok (.aload_n 3, 1) := by decide +kernel
theorem u63_26 : zEv sc 63 26 [l0, l1, l2, .ref a] [] h Q ↔ zEv sc 63 27 [l0, l1, l2, .ref a] [.ref a] h Q := zE_pure (q := (27, [l0, l1, l2, .ref a], [.ref a])) dz63_26 rfl rfl rfl
theorem dz63_27 : decode (z_code 63) 27 = .ok (.getfield 126, 3) := by decide +kernel
theorem u63_27 (ho : zO a 0) : zEv sc 63 27 [l0, l1, l2, l3] [.ref a] (zst p iv) Q ↔ zEv sc 63 30 [l0, l1, l2, l3] [.int (iv a 0)] (zst p iv) Q := zE_gfI dz63_27 (by decide +kernel : z_lk3 zFT (z_cls 63) 126 = some (0, 0, 1, 177)) (by decide +kernel) ho
theorem dz63_30 : decode (z_code 63) 30 = .ok (.ireturn, 1) := by decide +kernel
theorem u63_30 : zEv sc 63 30 [l0, l1, l2, l3] [.int x] h Q ↔ Q (some (.int x)) h := zE_ri dz63_30 (by decide +kernel)
theorem dz63_31 : decode (z_code 63) 31 = .ok (.iload_n 2, 1) := by decide +kernel
theorem u63_31 : zEv sc 63 31 [l0, l1, .int x, l3] [] h Q ↔ zEv sc 63 32 [l0, l1, .int x, l3] [.int x] h Q := zE_pure (q := (32, [l0, l1, .int x, l3], [.int x])) dz63_31 rfl rfl rfl
theorem dz63_32 : decode (z_code 63) 32 = .ok (.aload_n 3, 1) := by decide +kernel
theorem u63_32 : zEv sc 63 32 [l0, l1, l2, .ref a] [t0] h Q ↔ zEv sc 63 33 [l0, l1, l2, .ref a] [.ref a, t0] h Q := zE_pure (q := (33, [l0, l1, l2, .ref a], [.ref a, t0])) dz63_32 rfl rfl rfl
theorem dz63_33 : decode (z_code 63) 33 = .ok (.getfield 126, 3) := by decide +kernel
theorem u63_33 (ho : zO a 0) : zEv sc 63 33 [l0, l1, l2, l3] [.ref a, t0] (zst p iv) Q ↔ zEv sc 63 36 [l0, l1, l2, l3] [.int (iv a 0), t0] (zst p iv) Q := zE_gfI dz63_33 (by decide +kernel : z_lk3 zFT (z_cls 63) 126 = some (0, 0, 1, 177)) (by decide +kernel) ho
theorem dz63_36 : decode (z_code 63) 36 = .ok (.if_icmp .ge 12, 3) := by decide +kernel
theorem u63_36 : zEv sc 63 36 [l0, l1, l2, l3] [.int x2, .int x1] h Q ↔ (if x2 ≤ x1 then zEv sc 63 48 [l0, l1, l2, l3] [] h Q else zEv sc 63 39 [l0, l1, l2, l3] [] h Q) := zE_icP (P := x2 ≤ x1) inferInstance 48 dz63_36 rfl rfl
theorem dz63_39 : decode (z_code 63) 39 = .ok (.aload_n 3, 1) := by decide +kernel
theorem u63_39 : zEv sc 63 39 [l0, l1, l2, .ref a] [] h Q ↔ zEv sc 63 40 [l0, l1, l2, .ref a] [.ref a] h Q := zE_pure (q := (40, [l0, l1, l2, .ref a], [.ref a])) dz63_39 rfl rfl rfl
theorem dz63_40 : decode (z_code 63) 40 = .ok (.getfield 127, 3) := by decide +kernel
theorem u63_40 (ho : zO a 0) : zEv sc 63 40 [l0, l1, l2, l3] [.ref a] (zst p iv) Q ↔ zRef (zRV p a 1) (fun j => zEv sc 63 43 [l0, l1, l2, l3] [.ref j] (zst p iv) Q) := zE_gfR dz63_40 (by decide +kernel : z_lk3 zFT (z_cls 63) 127 = some (0, 1, 1, 180)) (by decide +kernel) ho
theorem dz63_43 : decode (z_code 63) 43 = .ok (.iload_n 2, 1) := by decide +kernel
theorem u63_43 : zEv sc 63 43 [l0, l1, .int x, l3] [t0] h Q ↔ zEv sc 63 44 [l0, l1, .int x, l3] [.int x, t0] h Q := zE_pure (q := (44, [l0, l1, .int x, l3], [.int x, t0])) dz63_43 rfl rfl rfl
theorem dz63_44 : decode (z_code 63) 44 = .ok (.iaload, 1) := by decide +kernel
theorem u63_44 (ho : zO a 100) : zEv sc 63 44 [l0, l1, l2, l3] [.int x, .ref a] (zst p iv) Q ↔ (vp_in x (zLn a) ∧ zEv sc 63 45 [l0, l1, l2, l3] [.int (iv a x.toNatClampNeg)] (zst p iv) Q) := zE_ald (Or.inl ⟨rfl, rfl⟩) dz63_44 ho
theorem dz63_45 : decode (z_code 63) 45 = .ok (.goto 5, 3) := by decide +kernel
theorem u63_45 : zEv sc 63 45 [l0, l1, l2, l3] [t0] h Q ↔ zEv sc 63 50 [l0, l1, l2, l3] [t0] h Q := zE_go 50 dz63_45 rfl
theorem dz63_50 : decode (z_code 63) 50 = .ok (.ireturn, 1) := by decide +kernel
theorem u63_50 : zEv sc 63 50 [l0, l1, l2, l3] [.int x] h Q ↔ Q (some (.int x)) h := zE_ri dz63_50 (by decide +kernel)
theorem dz63_48 : decode (z_code 63) 48 = .ok (.ldc 130, 2) := by decide +kernel
theorem u63_48 : zEv sc 63 48 [l0, l1, l2, l3] [] h Q ↔ zEv sc 63 50 [l0, l1, l2, l3] [.int (-1000004)] h Q := zE_ldc (by decide +kernel : z_lkK zKT (z_cls 63) 130 = some ((-1000004), 362)) dz63_48
theorem dz63_12 : decode (z_code 63) 12 = .ok (.ldc 71, 2) := by decide +kernel
theorem u63_12 : zEv sc 63 12 [l0, l1, l2, l3] [] h Q ↔ zEv sc 63 14 [l0, l1, l2, l3] [.int (-1000001)] h Q := zE_ldc (by decide +kernel : z_lkK zKT (z_cls 63) 71 = some ((-1000001), 319)) dz63_12
theorem dz63_14 : decode (z_code 63) 14 = .ok (.ireturn, 1) := by decide +kernel
theorem u63_14 : zEv sc 63 14 [l0, l1, l2, l3] [.int x] h Q ↔ Q (some (.int x)) h := zE_ri dz63_14 (by decide +kernel)
/-! method 64: FieldMixtures.gains(II)I -/
theorem dz64_0 : decode (z_code 64) 0 = .ok (.aload_n 0, 1) := by decide +kernel
theorem u64_0 : zEv sc 64 0 [.ref a, l1, l2] [] h Q ↔ zEv sc 64 1 [.ref a, l1, l2] [.ref a] h Q := zE_pure (q := (1, [.ref a, l1, l2], [.ref a])) dz64_0 rfl rfl rfl
theorem dz64_1 : decode (z_code 64) 1 = .ok (.getfield 10, 3) := by decide +kernel
theorem u64_1 (ho : zO a 9) : zEv sc 64 1 [l0, l1, l2] [.ref a] (zst p iv) Q ↔ zRef (zRV p a 0) (fun j => zEv sc 64 4 [l0, l1, l2] [.ref j] (zst p iv) Q) := zE_gfR dz64_1 (by decide +kernel : z_lk3 zFT (z_cls 64) 10 = some (9, 0, 0, 269)) (by decide +kernel) ho
theorem dz64_4 : decode (z_code 64) 4 = .ok (.iconst 0, 1) := by decide +kernel
theorem u64_4 : zEv sc 64 4 [l0, l1, l2] [t0] h Q ↔ zEv sc 64 5 [l0, l1, l2] [.int 0, t0] h Q := zE_iconst dz64_4 (by decide +kernel)
theorem dz64_5 : decode (z_code 64) 5 = .ok (.iload_n 1, 1) := by decide +kernel
theorem u64_5 : zEv sc 64 5 [l0, .int x, l2] [t0, t1] h Q ↔ zEv sc 64 6 [l0, .int x, l2] [.int x, t0, t1] h Q := zE_pure (q := (6, [l0, .int x, l2], [.int x, t0, t1])) dz64_5 rfl rfl rfl
theorem dz64_6 : decode (z_code 64) 6 = .ok (.invokevirtual 131, 3) := by decide +kernel
theorem u64_6 (ho : zO a 2) : zEv sc 64 6 [l0, l1, l2] [.int z1, .int z0, .ref a] (zst p iv) Q ↔ zEv sc 17 0 [.ref a, .int z0, .int z1] [] (zst p iv) (fun r h9 => zEv sc 64 9 [l0, l1, l2] (r.toList ++ []) h9 Q) := zE_call (kd := 0) (na := 3) (nr := 0) (as := [.ref a, .int z0, .int z1]) (rest := []) (Or.inl ⟨rfl, rfl⟩) dz64_6 (by decide +kernel : z_lk2 zCT (z_cls 64) 131 = some (17, 1, 439)) (fun z => by cases z) rfl rfl rfl (by decide +kernel) rfl rfl (Or.inr (zE_rc ho))
theorem dz64_9 : decode (z_code 64) 9 = .ok (.ifCond .eq 15, 3) := by decide +kernel
theorem u64_9 : zEv sc 64 9 [l0, l1, l2] [.int x] h Q ↔ (if x = 0 then zEv sc 64 24 [l0, l1, l2] [] h Q else zEv sc 64 12 [l0, l1, l2] [] h Q) := zE_ifP (P := x = 0) inferInstance 24 dz64_9 rfl rfl
theorem dz64_12 : decode (z_code 64) 12 = .ok (.aload_n 0, 1) := by decide +kernel
theorem u64_12 : zEv sc 64 12 [.ref a, l1, l2] [] h Q ↔ zEv sc 64 13 [.ref a, l1, l2] [.ref a] h Q := zE_pure (q := (13, [.ref a, l1, l2], [.ref a])) dz64_12 rfl rfl rfl
theorem dz64_13 : decode (z_code 64) 13 = .ok (.getfield 10, 3) := by decide +kernel
theorem u64_13 (ho : zO a 9) : zEv sc 64 13 [l0, l1, l2] [.ref a] (zst p iv) Q ↔ zRef (zRV p a 0) (fun j => zEv sc 64 16 [l0, l1, l2] [.ref j] (zst p iv) Q) := zE_gfR dz64_13 (by decide +kernel : z_lk3 zFT (z_cls 64) 10 = some (9, 0, 0, 269)) (by decide +kernel) ho
theorem dz64_16 : decode (z_code 64) 16 = .ok (.iconst 1, 1) := by decide +kernel
theorem u64_16 : zEv sc 64 16 [l0, l1, l2] [t0] h Q ↔ zEv sc 64 17 [l0, l1, l2] [.int 1, t0] h Q := zE_iconst dz64_16 (by decide +kernel)
theorem dz64_17 : decode (z_code 64) 17 = .ok (.iload_n 2, 1) := by decide +kernel
theorem u64_17 : zEv sc 64 17 [l0, l1, .int x] [t0, t1] h Q ↔ zEv sc 64 18 [l0, l1, .int x] [.int x, t0, t1] h Q := zE_pure (q := (18, [l0, l1, .int x], [.int x, t0, t1])) dz64_17 rfl rfl rfl
theorem dz64_18 : decode (z_code 64) 18 = .ok (.invokevirtual 131, 3) := by decide +kernel
theorem u64_18 (ho : zO a 2) : zEv sc 64 18 [l0, l1, l2] [.int z1, .int z0, .ref a] (zst p iv) Q ↔ zEv sc 17 0 [.ref a, .int z0, .int z1] [] (zst p iv) (fun r h9 => zEv sc 64 21 [l0, l1, l2] (r.toList ++ []) h9 Q) := zE_call (kd := 0) (na := 3) (nr := 0) (as := [.ref a, .int z0, .int z1]) (rest := []) (Or.inl ⟨rfl, rfl⟩) dz64_18 (by decide +kernel : z_lk2 zCT (z_cls 64) 131 = some (17, 1, 439)) (fun z => by cases z) rfl rfl rfl (by decide +kernel) rfl rfl (Or.inr (zE_rc ho))
theorem dz64_21 : decode (z_code 64) 21 = .ok (.ifCond .ne 6, 3) := by decide +kernel
theorem u64_21 : zEv sc 64 21 [l0, l1, l2] [.int x] h Q ↔ (if ¬ x = 0 then zEv sc 64 27 [l0, l1, l2] [] h Q else zEv sc 64 24 [l0, l1, l2] [] h Q) := zE_ifP (P := ¬ x = 0) inferInstance 27 dz64_21 rfl rfl
theorem dz64_27 : decode (z_code 64) 27 = .ok (.sipush 1000, 3) := by decide +kernel
theorem u64_27 : zEv sc 64 27 [l0, l1, l2] [] h Q ↔ zEv sc 64 30 [l0, l1, l2] [.int 1000] h Q := zE_sipush dz64_27 (by decide +kernel)
theorem dz64_30 : decode (z_code 64) 30 = .ok (.aload_n 0, 1) := by decide +kernel
theorem u64_30 : zEv sc 64 30 [.ref a, l1, l2] [t0] h Q ↔ zEv sc 64 31 [.ref a, l1, l2] [.ref a, t0] h Q := zE_pure (q := (31, [.ref a, l1, l2], [.ref a, t0])) dz64_30 rfl rfl rfl
theorem dz64_31 : decode (z_code 64) 31 = .ok (.getfield 10, 3) := by decide +kernel
theorem u64_31 (ho : zO a 9) : zEv sc 64 31 [l0, l1, l2] [.ref a, t0] (zst p iv) Q ↔ zRef (zRV p a 0) (fun j => zEv sc 64 34 [l0, l1, l2] [.ref j, t0] (zst p iv) Q) := zE_gfR dz64_31 (by decide +kernel : z_lk3 zFT (z_cls 64) 10 = some (9, 0, 0, 269)) (by decide +kernel) ho
theorem dz64_34 : decode (z_code 64) 34 = .ok (.iconst 0, 1) := by decide +kernel
theorem u64_34 : zEv sc 64 34 [l0, l1, l2] [t0, t1] h Q ↔ zEv sc 64 35 [l0, l1, l2] [.int 0, t0, t1] h Q := zE_iconst dz64_34 (by decide +kernel)
theorem dz64_35 : decode (z_code 64) 35 = .ok (.iload_n 1, 1) := by decide +kernel
theorem u64_35 : zEv sc 64 35 [l0, .int x, l2] [t0, t1, t2] h Q ↔ zEv sc 64 36 [l0, .int x, l2] [.int x, t0, t1, t2] h Q := zE_pure (q := (36, [l0, .int x, l2], [.int x, t0, t1, t2])) dz64_35 rfl rfl rfl
theorem dz64_36 : decode (z_code 64) 36 = .ok (.iload_n 2, 1) := by decide +kernel
theorem u64_36 : zEv sc 64 36 [l0, l1, .int x] [t0, t1, t2, t3] h Q ↔ zEv sc 64 37 [l0, l1, .int x] [.int x, t0, t1, t2, t3] h Q := zE_pure (q := (37, [l0, l1, .int x], [.int x, t0, t1, t2, t3])) dz64_36 rfl rfl rfl
theorem dz64_37 : decode (z_code 64) 37 = .ok (.invokevirtual 135, 3) := by decide +kernel
theorem u64_37 (ho : zO a 2) : zEv sc 64 37 [l0, l1, l2] [.int z2, .int z1, .int z0, .ref a, t0] (zst p iv) Q ↔ zEv sc 23 0 [.ref a, .int z0, .int z1, .int z2, .null, .null, .null, .null] [] (zst p iv) (fun r h9 => zEv sc 64 40 [l0, l1, l2] (r.toList ++ [t0]) h9 Q) := zE_call (kd := 0) (na := 4) (nr := 1) (as := [.ref a, .int z0, .int z1, .int z2]) (rest := [t0]) (Or.inl ⟨rfl, rfl⟩) dz64_37 (by decide +kernel : z_lk2 zCT (z_cls 64) 135 = some (23, 1, 445)) (fun z => by cases z) rfl rfl rfl (by decide +kernel) rfl rfl (Or.inr (zE_rc ho))
theorem dz64_40 : decode (z_code 64) 40 = .ok (.iadd, 1) := by decide +kernel
theorem u64_40 : zEv sc 64 40 [l0, l1, l2] [.int x2, .int x1] h Q ↔ zEv sc 64 41 [l0, l1, l2] [.int (x1 + x2)] h Q := zE_pure (q := (41, [l0, l1, l2], [.int (x1 + x2)])) dz64_40 rfl rfl rfl
theorem dz64_41 : decode (z_code 64) 41 = .ok (.ireturn, 1) := by decide +kernel
theorem u64_41 : zEv sc 64 41 [l0, l1, l2] [.int x] h Q ↔ Q (some (.int x)) h := zE_ri dz64_41 (by decide +kernel)
theorem dz64_24 : decode (z_code 64) 24 = .ok (.ldc 71, 2) := by decide +kernel
theorem u64_24 : zEv sc 64 24 [l0, l1, l2] [] h Q ↔ zEv sc 64 26 [l0, l1, l2] [.int (-1000001)] h Q := zE_ldc (by decide +kernel : z_lkK zKT (z_cls 64) 71 = some ((-1000001), 319)) dz64_24
theorem dz64_26 : decode (z_code 64) 26 = .ok (.ireturn, 1) := by decide +kernel
theorem u64_26 : zEv sc 64 26 [l0, l1, l2] [.int x] h Q ↔ Q (some (.int x)) h := zE_ri dz64_26 (by decide +kernel)
/-! method 67: FieldMixtures.put(III)I -/
theorem dz67_0 : decode (z_code 67) 0 = .ok (.iload_n 1, 1) := by decide +kernel
theorem u67_0 : zEv sc 67 0 [l0, .int x, l2, l3, l4, l5] [] h Q ↔ zEv sc 67 1 [l0, .int x, l2, l3, l4, l5] [.int x] h Q := zE_pure (q := (1, [l0, .int x, l2, l3, l4, l5], [.int x])) dz67_0 rfl rfl rfl
theorem dz67_1 : decode (z_code 67) 1 = .ok (.invokestatic 92, 3) := by decide +kernel
theorem u67_1 : zEv sc 67 1 [l0, l1, l2, l3, l4, l5] [.int z0] h Q ↔ zEv sc 47 0 [.int z0] [] h (fun r h9 => zEv sc 67 4 [l0, l1, l2, l3, l4, l5] (r.toList ++ []) h9 Q) := zE_call (kd := 1) (na := 1) (nr := 0) (as := [.int z0]) (rest := []) (Or.inr ⟨rfl, rfl⟩) dz67_1 (by decide +kernel : z_lk2 zCT (z_cls 67) 92 = some (47, 0, 359)) (fun _ => ⟨by decide +kernel, by decide +kernel⟩) rfl rfl rfl (by decide +kernel) rfl rfl (Or.inl rfl)
theorem dz67_4 : decode (z_code 67) 4 = .ok (.ifCond .eq 25, 3) := by decide +kernel
theorem u67_4 : zEv sc 67 4 [l0, l1, l2, l3, l4, l5] [.int x] h Q ↔ (if x = 0 then zEv sc 67 29 [l0, l1, l2, l3, l4, l5] [] h Q else zEv sc 67 7 [l0, l1, l2, l3, l4, l5] [] h Q) := zE_ifP (P := x = 0) inferInstance 29 dz67_4 rfl rfl
theorem dz67_7 : decode (z_code 67) 7 = .ok (.aload_n 0, 1) := by decide +kernel
theorem u67_7 : zEv sc 67 7 [.ref a, l1, l2, l3, l4, l5] [] h Q ↔ zEv sc 67 8 [.ref a, l1, l2, l3, l4, l5] [.ref a] h Q := zE_pure (q := (8, [.ref a, l1, l2, l3, l4, l5], [.ref a])) dz67_7 rfl rfl rfl
theorem dz67_8 : decode (z_code 67) 8 = .ok (.getfield 10, 3) := by decide +kernel
theorem u67_8 (ho : zO a 9) : zEv sc 67 8 [l0, l1, l2, l3, l4, l5] [.ref a] (zst p iv) Q ↔ zRef (zRV p a 0) (fun j => zEv sc 67 11 [l0, l1, l2, l3, l4, l5] [.ref j] (zst p iv) Q) := zE_gfR dz67_8 (by decide +kernel : z_lk3 zFT (z_cls 67) 10 = some (9, 0, 0, 269)) (by decide +kernel) ho
theorem dz67_11 : decode (z_code 67) 11 = .ok (.iload_n 1, 1) := by decide +kernel
theorem u67_11 : zEv sc 67 11 [l0, .int x, l2, l3, l4, l5] [t0] h Q ↔ zEv sc 67 12 [l0, .int x, l2, l3, l4, l5] [.int x, t0] h Q := zE_pure (q := (12, [l0, .int x, l2, l3, l4, l5], [.int x, t0])) dz67_11 rfl rfl rfl
theorem dz67_12 : decode (z_code 67) 12 = .ok (.iload_n 2, 1) := by decide +kernel
theorem u67_12 : zEv sc 67 12 [l0, l1, .int x, l3, l4, l5] [t0, t1] h Q ↔ zEv sc 67 13 [l0, l1, .int x, l3, l4, l5] [.int x, t0, t1] h Q := zE_pure (q := (13, [l0, l1, .int x, l3, l4, l5], [.int x, t0, t1])) dz67_12 rfl rfl rfl
theorem dz67_13 : decode (z_code 67) 13 = .ok (.invokevirtual 131, 3) := by decide +kernel
theorem u67_13 (ho : zO a 2) : zEv sc 67 13 [l0, l1, l2, l3, l4, l5] [.int z1, .int z0, .ref a] (zst p iv) Q ↔ zEv sc 17 0 [.ref a, .int z0, .int z1] [] (zst p iv) (fun r h9 => zEv sc 67 16 [l0, l1, l2, l3, l4, l5] (r.toList ++ []) h9 Q) := zE_call (kd := 0) (na := 3) (nr := 0) (as := [.ref a, .int z0, .int z1]) (rest := []) (Or.inl ⟨rfl, rfl⟩) dz67_13 (by decide +kernel : z_lk2 zCT (z_cls 67) 131 = some (17, 1, 439)) (fun z => by cases z) rfl rfl rfl (by decide +kernel) rfl rfl (Or.inr (zE_rc ho))
theorem dz67_16 : decode (z_code 67) 16 = .ok (.ifCond .eq 13, 3) := by decide +kernel
theorem u67_16 : zEv sc 67 16 [l0, l1, l2, l3, l4, l5] [.int x] h Q ↔ (if x = 0 then zEv sc 67 29 [l0, l1, l2, l3, l4, l5] [] h Q else zEv sc 67 19 [l0, l1, l2, l3, l4, l5] [] h Q) := zE_ifP (P := x = 0) inferInstance 29 dz67_16 rfl rfl
theorem dz67_19 : decode (z_code 67) 19 = .ok (.iload_n 3, 1) := by decide +kernel
theorem u67_19 : zEv sc 67 19 [l0, l1, l2, .int x, l4, l5] [] h Q ↔ zEv sc 67 20 [l0, l1, l2, .int x, l4, l5] [.int x] h Q := zE_pure (q := (20, [l0, l1, l2, .int x, l4, l5], [.int x])) dz67_19 rfl rfl rfl
theorem dz67_20 : decode (z_code 67) 20 = .ok (.iconst 1, 1) := by decide +kernel
theorem u67_20 : zEv sc 67 20 [l0, l1, l2, l3, l4, l5] [t0] h Q ↔ zEv sc 67 21 [l0, l1, l2, l3, l4, l5] [.int 1, t0] h Q := zE_iconst dz67_20 (by decide +kernel)
theorem dz67_21 : decode (z_code 67) 21 = .ok (.bipush 99, 2) := by decide +kernel
theorem u67_21 : zEv sc 67 21 [l0, l1, l2, l3, l4, l5] [t0, t1] h Q ↔ zEv sc 67 23 [l0, l1, l2, l3, l4, l5] [.int 99, t0, t1] h Q := zE_bipush dz67_21 (by decide +kernel)
theorem dz67_23 : decode (z_code 67) 23 = .ok (.invokestatic 67, 3) := by decide +kernel
theorem u67_23 : zEv sc 67 23 [l0, l1, l2, l3, l4, l5] [.int z2, .int z1, .int z0] h Q ↔ zEv sc 15 0 [.int z0, .int z1, .int z2] [] h (fun r h9 => zEv sc 67 26 [l0, l1, l2, l3, l4, l5] (r.toList ++ []) h9 Q) := zE_call (kd := 1) (na := 3) (nr := 0) (as := [.int z0, .int z1, .int z2]) (rest := []) (Or.inr ⟨rfl, rfl⟩) dz67_23 (by decide +kernel : z_lk2 zCT (z_cls 67) 67 = some (15, 0, 304)) (fun _ => ⟨by decide +kernel, by decide +kernel⟩) rfl rfl rfl (by decide +kernel) rfl rfl (Or.inl rfl)
theorem dz67_26 : decode (z_code 67) 26 = .ok (.ifCond .ne 6, 3) := by decide +kernel
theorem u67_26 : zEv sc 67 26 [l0, l1, l2, l3, l4, l5] [.int x] h Q ↔ (if ¬ x = 0 then zEv sc 67 32 [l0, l1, l2, l3, l4, l5] [] h Q else zEv sc 67 29 [l0, l1, l2, l3, l4, l5] [] h Q) := zE_ifP (P := ¬ x = 0) inferInstance 32 dz67_26 rfl rfl
theorem dz67_32 : decode (z_code 67) 32 = .ok (.aload_n 0, 1) := by decide +kernel
theorem u67_32 : zEv sc 67 32 [.ref a, l1, l2, l3, l4, l5] [] h Q ↔ zEv sc 67 33 [.ref a, l1, l2, l3, l4, l5] [.ref a] h Q := zE_pure (q := (33, [.ref a, l1, l2, l3, l4, l5], [.ref a])) dz67_32 rfl rfl rfl
theorem dz67_33 : decode (z_code 67) 33 = .ok (.getfield 10, 3) := by decide +kernel
theorem u67_33 (ho : zO a 9) : zEv sc 67 33 [l0, l1, l2, l3, l4, l5] [.ref a] (zst p iv) Q ↔ zRef (zRV p a 0) (fun j => zEv sc 67 36 [l0, l1, l2, l3, l4, l5] [.ref j] (zst p iv) Q) := zE_gfR dz67_33 (by decide +kernel : z_lk3 zFT (z_cls 67) 10 = some (9, 0, 0, 269)) (by decide +kernel) ho
theorem dz67_36 : decode (z_code 67) 36 = .ok (.iload_n 1, 1) := by decide +kernel
theorem u67_36 : zEv sc 67 36 [l0, .int x, l2, l3, l4, l5] [t0] h Q ↔ zEv sc 67 37 [l0, .int x, l2, l3, l4, l5] [.int x, t0] h Q := zE_pure (q := (37, [l0, .int x, l2, l3, l4, l5], [.int x, t0])) dz67_36 rfl rfl rfl
theorem dz67_37 : decode (z_code 67) 37 = .ok (.invokevirtual 95, 3) := by decide +kernel
theorem u67_37 (ho : zO a 2) : zEv sc 67 37 [l0, l1, l2, l3, l4, l5] [.int z0, .ref a] (zst p iv) Q ↔ zEv sc 14 0 [.ref a, .int z0] [] (zst p iv) (fun r h9 => zEv sc 67 40 [l0, l1, l2, l3, l4, l5] (r.toList ++ []) h9 Q) := zE_call (kd := 0) (na := 2) (nr := 0) (as := [.ref a, .int z0]) (rest := []) (Or.inl ⟨rfl, rfl⟩) dz67_37 (by decide +kernel : z_lk2 zCT (z_cls 67) 95 = some (14, 1, 307)) (fun z => by cases z) rfl rfl rfl (by decide +kernel) rfl rfl (Or.inr (zE_rc ho))
theorem dz67_40 : decode (z_code 67) 40 = .ok (.getfield 107, 3) := by decide +kernel
theorem u67_40 (ho : zO a 6) : zEv sc 67 40 [l0, l1, l2, l3, l4, l5] [.ref a] (zst p iv) Q ↔ zRef (zRV p a 2) (fun j => zEv sc 67 43 [l0, l1, l2, l3, l4, l5] [.ref j] (zst p iv) Q) := zE_gfR dz67_40 (by decide +kernel : z_lk3 zFT (z_cls 67) 107 = some (6, 2, 1, 114)) (by decide +kernel) ho
theorem dz67_43 : decode (z_code 67) 43 = .ok (.astore 4, 2) := by decide +kernel
theorem u67_43 : zEv sc 67 43 [l0, l1, l2, l3, l4, l5] [.ref a] h Q ↔ zEv sc 67 45 [l0, l1, l2, l3, .ref a, l5] [] h Q := zE_pure (q := (45, [l0, l1, l2, l3, .ref a, l5], [])) dz67_43 rfl rfl rfl
theorem dz67_45 : decode (z_code 67) 45 = .ok (.aload 4, 2) := by decide +kernel
theorem u67_45 : zEv sc 67 45 [l0, l1, l2, l3, .ref a, l5] [] h Q ↔ zEv sc 67 47 [l0, l1, l2, l3, .ref a, l5] [.ref a] h Q := zE_pure (q := (47, [l0, l1, l2, l3, .ref a, l5], [.ref a])) dz67_45 rfl rfl rfl
theorem dz67_47 : decode (z_code 67) 47 = .ok (.iload_n 2, 1) := by decide +kernel
theorem u67_47 : zEv sc 67 47 [l0, l1, .int x, l3, l4, l5] [t0] h Q ↔ zEv sc 67 48 [l0, l1, .int x, l3, l4, l5] [.int x, t0] h Q := zE_pure (q := (48, [l0, l1, .int x, l3, l4, l5], [.int x, t0])) dz67_47 rfl rfl rfl
theorem dz67_48 : decode (z_code 67) 48 = .ok (.invokevirtual 143, 3) := by decide +kernel
theorem u67_48 (ho : zO a 4) : zEv sc 67 48 [l0, l1, l2, l3, l4, l5] [.int z0, .ref a] (zst p iv) Q ↔ zEv sc 31 0 [.ref a, .int z0] [] (zst p iv) (fun r h9 => zEv sc 67 51 [l0, l1, l2, l3, l4, l5] (r.toList ++ []) h9 Q) := zE_call (kd := 0) (na := 2) (nr := 0) (as := [.ref a, .int z0]) (rest := []) (Or.inl ⟨rfl, rfl⟩) dz67_48 (by decide +kernel : z_lk2 zCT (z_cls 67) 143 = some (31, 1, 470)) (fun z => by cases z) rfl rfl rfl (by decide +kernel) rfl rfl (Or.inr (zE_rc ho))
theorem dz67_51 : decode (z_code 67) 51 = .ok (.ifCond .ne 6, 3) := by decide +kernel
theorem u67_51 : zEv sc 67 51 [l0, l1, l2, l3, l4, l5] [.int x] h Q ↔ (if ¬ x = 0 then zEv sc 67 57 [l0, l1, l2, l3, l4, l5] [] h Q else zEv sc 67 54 [l0, l1, l2, l3, l4, l5] [] h Q) := zE_ifP (P := ¬ x = 0) inferInstance 57 dz67_51 rfl rfl
theorem dz67_54 : decode (z_code 67) 54 = .ok (.ldc 146, 2) := by decide +kernel
theorem u67_54 : zEv sc 67 54 [l0, l1, l2, l3, l4, l5] [] h Q ↔ zEv sc 67 56 [l0, l1, l2, l3, l4, l5] [.int (-1000003)] h Q := zE_ldc (by decide +kernel : z_lkK zKT (z_cls 67) 146 = some ((-1000003), 486)) dz67_54
theorem dz67_56 : decode (z_code 67) 56 = .ok (.ireturn, 1) := by decide +kernel
theorem u67_56 : zEv sc 67 56 [l0, l1, l2, l3, l4, l5] [.int x] h Q ↔ Q (some (.int x)) h := zE_ri dz67_56 (by decide +kernel)
theorem dz67_57 : decode (z_code 67) 57 = .ok (.aload 4, 2) := by decide +kernel
theorem u67_57 : zEv sc 67 57 [l0, l1, l2, l3, .ref a, l5] [] h Q ↔ zEv sc 67 59 [l0, l1, l2, l3, .ref a, l5] [.ref a] h Q := zE_pure (q := (59, [l0, l1, l2, l3, .ref a, l5], [.ref a])) dz67_57 rfl rfl rfl
theorem dz67_59 : decode (z_code 67) 59 = .ok (.iload_n 2, 1) := by decide +kernel
theorem u67_59 : zEv sc 67 59 [l0, l1, .int x, l3, l4, l5] [t0] h Q ↔ zEv sc 67 60 [l0, l1, .int x, l3, l4, l5] [.int x, t0] h Q := zE_pure (q := (60, [l0, l1, .int x, l3, l4, l5], [.int x, t0])) dz67_59 rfl rfl rfl
theorem dz67_60 : decode (z_code 67) 60 = .ok (.invokevirtual 147, 3) := by decide +kernel
theorem u67_60 (ho : zO a 4) : zEv sc 67 60 [l0, l1, l2, l3, l4, l5] [.int z0, .ref a] (zst p iv) Q ↔ zEv sc 30 0 [.ref a, .int z0, .null] [] (zst p iv) (fun r h9 => zEv sc 67 63 [l0, l1, l2, l3, l4, l5] (r.toList ++ []) h9 Q) := zE_call (kd := 0) (na := 2) (nr := 0) (as := [.ref a, .int z0]) (rest := []) (Or.inl ⟨rfl, rfl⟩) dz67_60 (by decide +kernel : z_lk2 zCT (z_cls 67) 147 = some (30, 1, 487)) (fun z => by cases z) rfl rfl rfl (by decide +kernel) rfl rfl (Or.inr (zE_rc ho))
theorem dz67_63 : decode (z_code 67) 63 = .ok (.istore 5, 2) := by decide +kernel
theorem u67_63 : zEv sc 67 63 [l0, l1, l2, l3, l4, l5] [.int x] h Q ↔ zEv sc 67 65 [l0, l1, l2, l3, l4, .int x] [] h Q := zE_pure (q := (65, [l0, l1, l2, l3, l4, .int x], [])) dz67_63 rfl rfl rfl
theorem dz67_65 : decode (z_code 67) 65 = .ok (.aload_n 0, 1) := by decide +kernel
theorem u67_65 : zEv sc 67 65 [.ref a, l1, l2, l3, l4, l5] [] h Q ↔ zEv sc 67 66 [.ref a, l1, l2, l3, l4, l5] [.ref a] h Q := zE_pure (q := (66, [.ref a, l1, l2, l3, l4, l5], [.ref a])) dz67_65 rfl rfl rfl
theorem dz67_66 : decode (z_code 67) 66 = .ok (.getfield 22, 3) := by decide +kernel
theorem u67_66 (ho : zO a 9) : zEv sc 67 66 [l0, l1, l2, l3, l4, l5] [.ref a] (zst p iv) Q ↔ zRef (zRV p a 2) (fun j => zEv sc 67 69 [l0, l1, l2, l3, l4, l5] [.ref j] (zst p iv) Q) := zE_gfR dz67_66 (by decide +kernel : z_lk3 zFT (z_cls 67) 22 = some (9, 2, 0, 271)) (by decide +kernel) ho
theorem dz67_69 : decode (z_code 67) 69 = .ok (.aload_n 0, 1) := by decide +kernel
theorem u67_69 : zEv sc 67 69 [.ref a, l1, l2, l3, l4, l5] [t0] h Q ↔ zEv sc 67 70 [.ref a, l1, l2, l3, l4, l5] [.ref a, t0] h Q := zE_pure (q := (70, [.ref a, l1, l2, l3, l4, l5], [.ref a, t0])) dz67_69 rfl rfl rfl
theorem dz67_70 : decode (z_code 67) 70 = .ok (.getfield 10, 3) := by decide +kernel
theorem u67_70 (ho : zO a 9) : zEv sc 67 70 [l0, l1, l2, l3, l4, l5] [.ref a, t0] (zst p iv) Q ↔ zRef (zRV p a 0) (fun j => zEv sc 67 73 [l0, l1, l2, l3, l4, l5] [.ref j, t0] (zst p iv) Q) := zE_gfR dz67_70 (by decide +kernel : z_lk3 zFT (z_cls 67) 10 = some (9, 0, 0, 269)) (by decide +kernel) ho
theorem dz67_73 : decode (z_code 67) 73 = .ok (.invokevirtual 76, 3) := by decide +kernel
theorem u67_73 (ho : zO a 3) : zEv sc 67 73 [l0, l1, l2, l3, l4, l5] [.ref b0, .ref a] (zst p iv) Q ↔ zEv sc 26 0 [.ref a, .ref b0] [] (zst p iv) (fun r h9 => zEv sc 67 76 [l0, l1, l2, l3, l4, l5] (r.toList ++ []) h9 Q) := zE_call (kd := 0) (na := 2) (nr := 0) (as := [.ref a, .ref b0]) (rest := []) (Or.inl ⟨rfl, rfl⟩) dz67_73 (by decide +kernel : z_lk2 zCT (z_cls 67) 76 = some (26, 1, 488)) (fun z => by cases z) rfl rfl rfl (by decide +kernel) rfl rfl (Or.inr (zE_rc ho))
theorem dz67_76 : decode (z_code 67) 76 = .ok (.aload 4, 2) := by decide +kernel
theorem u67_76 : zEv sc 67 76 [l0, l1, l2, l3, .ref a, l5] [] h Q ↔ zEv sc 67 78 [l0, l1, l2, l3, .ref a, l5] [.ref a] h Q := zE_pure (q := (78, [l0, l1, l2, l3, .ref a, l5], [.ref a])) dz67_76 rfl rfl rfl
theorem dz67_78 : decode (z_code 67) 78 = .ok (.iload_n 2, 1) := by decide +kernel
theorem u67_78 : zEv sc 67 78 [l0, l1, .int x, l3, l4, l5] [t0] h Q ↔ zEv sc 67 79 [l0, l1, .int x, l3, l4, l5] [.int x, t0] h Q := zE_pure (q := (79, [l0, l1, .int x, l3, l4, l5], [.int x, t0])) dz67_78 rfl rfl rfl
theorem dz67_79 : decode (z_code 67) 79 = .ok (.iload_n 3, 1) := by decide +kernel
theorem u67_79 : zEv sc 67 79 [l0, l1, l2, .int x, l4, l5] [t0, t1] h Q ↔ zEv sc 67 80 [l0, l1, l2, .int x, l4, l5] [.int x, t0, t1] h Q := zE_pure (q := (80, [l0, l1, l2, .int x, l4, l5], [.int x, t0, t1])) dz67_79 rfl rfl rfl
theorem dz67_80 : decode (z_code 67) 80 = .ok (.invokevirtual 151, 3) := by decide +kernel
theorem u67_80 (ho : zO a 4) : zEv sc 67 80 [l0, l1, l2, l3, l4, l5] [.int z1, .int z0, .ref a] (zst p iv) Q ↔ zEv sc 33 0 [.ref a, .int z0, .int z1, .null] [] (zst p iv) (fun r h9 => zEv sc 67 83 [l0, l1, l2, l3, l4, l5] (r.toList ++ []) h9 Q) := zE_call (kd := 0) (na := 3) (nr := 0) (as := [.ref a, .int z0, .int z1]) (rest := []) (Or.inl ⟨rfl, rfl⟩) dz67_80 (by decide +kernel : z_lk2 zCT (z_cls 67) 151 = some (33, 1, 496)) (fun z => by cases z) rfl rfl rfl (by decide +kernel) rfl rfl (Or.inr (zE_rc ho))
theorem dz67_83 : decode (z_code 67) 83 = .ok (.iload 5, 2) := by decide +kernel
theorem u67_83 : zEv sc 67 83 [l0, l1, l2, l3, l4, .int x] [] h Q ↔ zEv sc 67 85 [l0, l1, l2, l3, l4, .int x] [.int x] h Q := zE_pure (q := (85, [l0, l1, l2, l3, l4, .int x], [.int x])) dz67_83 rfl rfl rfl
theorem dz67_85 : decode (z_code 67) 85 = .ok (.ireturn, 1) := by decide +kernel
theorem u67_85 : zEv sc 67 85 [l0, l1, l2, l3, l4, l5] [.int x] h Q ↔ Q (some (.int x)) h := zE_ri dz67_85 (by decide +kernel)
theorem dz67_29 : decode (z_code 67) 29 = .ok (.ldc 71, 2) := by decide +kernel
theorem u67_29 : zEv sc 67 29 [l0, l1, l2, l3, l4, l5] [] h Q ↔ zEv sc 67 31 [l0, l1, l2, l3, l4, l5] [.int (-1000001)] h Q := zE_ldc (by decide +kernel : z_lkK zKT (z_cls 67) 71 = some ((-1000001), 319)) dz67_29
theorem dz67_31 : decode (z_code 67) 31 = .ok (.ireturn, 1) := by decide +kernel
theorem u67_31 : zEv sc 67 31 [l0, l1, l2, l3, l4, l5] [.int x] h Q ↔ Q (some (.int x)) h := zE_ri dz67_31 (by decide +kernel)
/-! method 68: FieldMixtures.take(II)I -/
theorem dz68_0 : decode (z_code 68) 0 = .ok (.iload_n 1, 1) := by decide +kernel
theorem u68_0 : zEv sc 68 0 [l0, .int x, l2, l3, l4] [] h Q ↔ zEv sc 68 1 [l0, .int x, l2, l3, l4] [.int x] h Q := zE_pure (q := (1, [l0, .int x, l2, l3, l4], [.int x])) dz68_0 rfl rfl rfl
theorem dz68_1 : decode (z_code 68) 1 = .ok (.invokestatic 92, 3) := by decide +kernel
theorem u68_1 : zEv sc 68 1 [l0, l1, l2, l3, l4] [.int z0] h Q ↔ zEv sc 47 0 [.int z0] [] h (fun r h9 => zEv sc 68 4 [l0, l1, l2, l3, l4] (r.toList ++ []) h9 Q) := zE_call (kd := 1) (na := 1) (nr := 0) (as := [.int z0]) (rest := []) (Or.inr ⟨rfl, rfl⟩) dz68_1 (by decide +kernel : z_lk2 zCT (z_cls 68) 92 = some (47, 0, 359)) (fun _ => ⟨by decide +kernel, by decide +kernel⟩) rfl rfl rfl (by decide +kernel) rfl rfl (Or.inl rfl)
theorem dz68_4 : decode (z_code 68) 4 = .ok (.ifCond .eq 15, 3) := by decide +kernel
theorem u68_4 : zEv sc 68 4 [l0, l1, l2, l3, l4] [.int x] h Q ↔ (if x = 0 then zEv sc 68 19 [l0, l1, l2, l3, l4] [] h Q else zEv sc 68 7 [l0, l1, l2, l3, l4] [] h Q) := zE_ifP (P := x = 0) inferInstance 19 dz68_4 rfl rfl
theorem dz68_7 : decode (z_code 68) 7 = .ok (.aload_n 0, 1) := by decide +kernel
theorem u68_7 : zEv sc 68 7 [.ref a, l1, l2, l3, l4] [] h Q ↔ zEv sc 68 8 [.ref a, l1, l2, l3, l4] [.ref a] h Q := zE_pure (q := (8, [.ref a, l1, l2, l3, l4], [.ref a])) dz68_7 rfl rfl rfl
theorem dz68_8 : decode (z_code 68) 8 = .ok (.getfield 10, 3) := by decide +kernel
theorem u68_8 (ho : zO a 9) : zEv sc 68 8 [l0, l1, l2, l3, l4] [.ref a] (zst p iv) Q ↔ zRef (zRV p a 0) (fun j => zEv sc 68 11 [l0, l1, l2, l3, l4] [.ref j] (zst p iv) Q) := zE_gfR dz68_8 (by decide +kernel : z_lk3 zFT (z_cls 68) 10 = some (9, 0, 0, 269)) (by decide +kernel) ho
theorem dz68_11 : decode (z_code 68) 11 = .ok (.iload_n 1, 1) := by decide +kernel
theorem u68_11 : zEv sc 68 11 [l0, .int x, l2, l3, l4] [t0] h Q ↔ zEv sc 68 12 [l0, .int x, l2, l3, l4] [.int x, t0] h Q := zE_pure (q := (12, [l0, .int x, l2, l3, l4], [.int x, t0])) dz68_11 rfl rfl rfl
theorem dz68_12 : decode (z_code 68) 12 = .ok (.iload_n 2, 1) := by decide +kernel
theorem u68_12 : zEv sc 68 12 [l0, l1, .int x, l3, l4] [t0, t1] h Q ↔ zEv sc 68 13 [l0, l1, .int x, l3, l4] [.int x, t0, t1] h Q := zE_pure (q := (13, [l0, l1, .int x, l3, l4], [.int x, t0, t1])) dz68_12 rfl rfl rfl
theorem dz68_13 : decode (z_code 68) 13 = .ok (.invokevirtual 131, 3) := by decide +kernel
theorem u68_13 (ho : zO a 2) : zEv sc 68 13 [l0, l1, l2, l3, l4] [.int z1, .int z0, .ref a] (zst p iv) Q ↔ zEv sc 17 0 [.ref a, .int z0, .int z1] [] (zst p iv) (fun r h9 => zEv sc 68 16 [l0, l1, l2, l3, l4] (r.toList ++ []) h9 Q) := zE_call (kd := 0) (na := 3) (nr := 0) (as := [.ref a, .int z0, .int z1]) (rest := []) (Or.inl ⟨rfl, rfl⟩) dz68_13 (by decide +kernel : z_lk2 zCT (z_cls 68) 131 = some (17, 1, 439)) (fun z => by cases z) rfl rfl rfl (by decide +kernel) rfl rfl (Or.inr (zE_rc ho))
theorem dz68_16 : decode (z_code 68) 16 = .ok (.ifCond .ne 6, 3) := by decide +kernel
theorem u68_16 : zEv sc 68 16 [l0, l1, l2, l3, l4] [.int x] h Q ↔ (if ¬ x = 0 then zEv sc 68 22 [l0, l1, l2, l3, l4] [] h Q else zEv sc 68 19 [l0, l1, l2, l3, l4] [] h Q) := zE_ifP (P := ¬ x = 0) inferInstance 22 dz68_16 rfl rfl
theorem dz68_22 : decode (z_code 68) 22 = .ok (.aload_n 0, 1) := by decide +kernel
theorem u68_22 : zEv sc 68 22 [.ref a, l1, l2, l3, l4] [] h Q ↔ zEv sc 68 23 [.ref a, l1, l2, l3, l4] [.ref a] h Q := zE_pure (q := (23, [.ref a, l1, l2, l3, l4], [.ref a])) dz68_22 rfl rfl rfl
theorem dz68_23 : decode (z_code 68) 23 = .ok (.getfield 10, 3) := by decide +kernel
theorem u68_23 (ho : zO a 9) : zEv sc 68 23 [l0, l1, l2, l3, l4] [.ref a] (zst p iv) Q ↔ zRef (zRV p a 0) (fun j => zEv sc 68 26 [l0, l1, l2, l3, l4] [.ref j] (zst p iv) Q) := zE_gfR dz68_23 (by decide +kernel : z_lk3 zFT (z_cls 68) 10 = some (9, 0, 0, 269)) (by decide +kernel) ho
theorem dz68_26 : decode (z_code 68) 26 = .ok (.iload_n 1, 1) := by decide +kernel
theorem u68_26 : zEv sc 68 26 [l0, .int x, l2, l3, l4] [t0] h Q ↔ zEv sc 68 27 [l0, .int x, l2, l3, l4] [.int x, t0] h Q := zE_pure (q := (27, [l0, .int x, l2, l3, l4], [.int x, t0])) dz68_26 rfl rfl rfl
theorem dz68_27 : decode (z_code 68) 27 = .ok (.invokevirtual 95, 3) := by decide +kernel
theorem u68_27 (ho : zO a 2) : zEv sc 68 27 [l0, l1, l2, l3, l4] [.int z0, .ref a] (zst p iv) Q ↔ zEv sc 14 0 [.ref a, .int z0] [] (zst p iv) (fun r h9 => zEv sc 68 30 [l0, l1, l2, l3, l4] (r.toList ++ []) h9 Q) := zE_call (kd := 0) (na := 2) (nr := 0) (as := [.ref a, .int z0]) (rest := []) (Or.inl ⟨rfl, rfl⟩) dz68_27 (by decide +kernel : z_lk2 zCT (z_cls 68) 95 = some (14, 1, 307)) (fun z => by cases z) rfl rfl rfl (by decide +kernel) rfl rfl (Or.inr (zE_rc ho))
theorem dz68_30 : decode (z_code 68) 30 = .ok (.getfield 107, 3) := by decide +kernel
theorem u68_30 (ho : zO a 6) : zEv sc 68 30 [l0, l1, l2, l3, l4] [.ref a] (zst p iv) Q ↔ zRef (zRV p a 2) (fun j => zEv sc 68 33 [l0, l1, l2, l3, l4] [.ref j] (zst p iv) Q) := zE_gfR dz68_30 (by decide +kernel : z_lk3 zFT (z_cls 68) 107 = some (6, 2, 1, 114)) (by decide +kernel) ho
theorem dz68_33 : decode (z_code 68) 33 = .ok (.astore_n 3, 1) := by decide +kernel
theorem u68_33 : zEv sc 68 33 [l0, l1, l2, l3, l4] [.ref a] h Q ↔ zEv sc 68 34 [l0, l1, l2, .ref a, l4] [] h Q := zE_pure (q := (34, [l0, l1, l2, .ref a, l4], [])) dz68_33 rfl rfl rfl
theorem dz68_34 : decode (z_code 68) 34 = .ok (.aload_n 3, 1) := by decide +kernel
theorem u68_34 : zEv sc 68 34 [l0, l1, l2, .ref a, l4] [] h Q ↔ zEv sc 68 35 [l0, l1, l2, .ref a, l4] [.ref a] h Q := zE_pure (q := (35, [l0, l1, l2, .ref a, l4], [.ref a])) dz68_34 rfl rfl rfl
theorem dz68_35 : decode (z_code 68) 35 = .ok (.iload_n 2, 1) := by decide +kernel
theorem u68_35 : zEv sc 68 35 [l0, l1, .int x, l3, l4] [t0] h Q ↔ zEv sc 68 36 [l0, l1, .int x, l3, l4] [.int x, t0] h Q := zE_pure (q := (36, [l0, l1, .int x, l3, l4], [.int x, t0])) dz68_35 rfl rfl rfl
theorem dz68_36 : decode (z_code 68) 36 = .ok (.invokevirtual 147, 3) := by decide +kernel
theorem u68_36 (ho : zO a 4) : zEv sc 68 36 [l0, l1, l2, l3, l4] [.int z0, .ref a] (zst p iv) Q ↔ zEv sc 30 0 [.ref a, .int z0, .null] [] (zst p iv) (fun r h9 => zEv sc 68 39 [l0, l1, l2, l3, l4] (r.toList ++ []) h9 Q) := zE_call (kd := 0) (na := 2) (nr := 0) (as := [.ref a, .int z0]) (rest := []) (Or.inl ⟨rfl, rfl⟩) dz68_36 (by decide +kernel : z_lk2 zCT (z_cls 68) 147 = some (30, 1, 487)) (fun z => by cases z) rfl rfl rfl (by decide +kernel) rfl rfl (Or.inr (zE_rc ho))
theorem dz68_39 : decode (z_code 68) 39 = .ok (.istore 4, 2) := by decide +kernel
theorem u68_39 : zEv sc 68 39 [l0, l1, l2, l3, l4] [.int x] h Q ↔ zEv sc 68 41 [l0, l1, l2, l3, .int x] [] h Q := zE_pure (q := (41, [l0, l1, l2, l3, .int x], [])) dz68_39 rfl rfl rfl
theorem dz68_41 : decode (z_code 68) 41 = .ok (.iload 4, 2) := by decide +kernel
theorem u68_41 : zEv sc 68 41 [l0, l1, l2, l3, .int x] [] h Q ↔ zEv sc 68 43 [l0, l1, l2, l3, .int x] [.int x] h Q := zE_pure (q := (43, [l0, l1, l2, l3, .int x], [.int x])) dz68_41 rfl rfl rfl
theorem dz68_43 : decode (z_code 68) 43 = .ok (.ifCond .ne 6, 3) := by decide +kernel
theorem u68_43 : zEv sc 68 43 [l0, l1, l2, l3, l4] [.int x] h Q ↔ (if ¬ x = 0 then zEv sc 68 49 [l0, l1, l2, l3, l4] [] h Q else zEv sc 68 46 [l0, l1, l2, l3, l4] [] h Q) := zE_ifP (P := ¬ x = 0) inferInstance 49 dz68_43 rfl rfl
theorem dz68_46 : decode (z_code 68) 46 = .ok (.ldc 155, 2) := by decide +kernel
theorem u68_46 : zEv sc 68 46 [l0, l1, l2, l3, l4] [] h Q ↔ zEv sc 68 48 [l0, l1, l2, l3, l4] [.int (-1000002)] h Q := zE_ldc (by decide +kernel : z_lkK zKT (z_cls 68) 155 = some ((-1000002), 324)) dz68_46
theorem dz68_48 : decode (z_code 68) 48 = .ok (.ireturn, 1) := by decide +kernel
theorem u68_48 : zEv sc 68 48 [l0, l1, l2, l3, l4] [.int x] h Q ↔ Q (some (.int x)) h := zE_ri dz68_48 (by decide +kernel)
theorem dz68_49 : decode (z_code 68) 49 = .ok (.aload_n 0, 1) := by decide +kernel
theorem u68_49 : zEv sc 68 49 [.ref a, l1, l2, l3, l4] [] h Q ↔ zEv sc 68 50 [.ref a, l1, l2, l3, l4] [.ref a] h Q := zE_pure (q := (50, [.ref a, l1, l2, l3, l4], [.ref a])) dz68_49 rfl rfl rfl
theorem dz68_50 : decode (z_code 68) 50 = .ok (.getfield 22, 3) := by decide +kernel
theorem u68_50 (ho : zO a 9) : zEv sc 68 50 [l0, l1, l2, l3, l4] [.ref a] (zst p iv) Q ↔ zRef (zRV p a 2) (fun j => zEv sc 68 53 [l0, l1, l2, l3, l4] [.ref j] (zst p iv) Q) := zE_gfR dz68_50 (by decide +kernel : z_lk3 zFT (z_cls 68) 22 = some (9, 2, 0, 271)) (by decide +kernel) ho
theorem dz68_53 : decode (z_code 68) 53 = .ok (.aload_n 0, 1) := by decide +kernel
theorem u68_53 : zEv sc 68 53 [.ref a, l1, l2, l3, l4] [t0] h Q ↔ zEv sc 68 54 [.ref a, l1, l2, l3, l4] [.ref a, t0] h Q := zE_pure (q := (54, [.ref a, l1, l2, l3, l4], [.ref a, t0])) dz68_53 rfl rfl rfl
theorem dz68_54 : decode (z_code 68) 54 = .ok (.getfield 10, 3) := by decide +kernel
theorem u68_54 (ho : zO a 9) : zEv sc 68 54 [l0, l1, l2, l3, l4] [.ref a, t0] (zst p iv) Q ↔ zRef (zRV p a 0) (fun j => zEv sc 68 57 [l0, l1, l2, l3, l4] [.ref j, t0] (zst p iv) Q) := zE_gfR dz68_54 (by decide +kernel : z_lk3 zFT (z_cls 68) 10 = some (9, 0, 0, 269)) (by decide +kernel) ho
theorem dz68_57 : decode (z_code 68) 57 = .ok (.invokevirtual 76, 3) := by decide +kernel
theorem u68_57 (ho : zO a 3) : zEv sc 68 57 [l0, l1, l2, l3, l4] [.ref b0, .ref a] (zst p iv) Q ↔ zEv sc 26 0 [.ref a, .ref b0] [] (zst p iv) (fun r h9 => zEv sc 68 60 [l0, l1, l2, l3, l4] (r.toList ++ []) h9 Q) := zE_call (kd := 0) (na := 2) (nr := 0) (as := [.ref a, .ref b0]) (rest := []) (Or.inl ⟨rfl, rfl⟩) dz68_57 (by decide +kernel : z_lk2 zCT (z_cls 68) 76 = some (26, 1, 488)) (fun z => by cases z) rfl rfl rfl (by decide +kernel) rfl rfl (Or.inr (zE_rc ho))
theorem dz68_60 : decode (z_code 68) 60 = .ok (.aload_n 3, 1) := by decide +kernel
theorem u68_60 : zEv sc 68 60 [l0, l1, l2, .ref a, l4] [] h Q ↔ zEv sc 68 61 [l0, l1, l2, .ref a, l4] [.ref a] h Q := zE_pure (q := (61, [l0, l1, l2, .ref a, l4], [.ref a])) dz68_60 rfl rfl rfl
theorem dz68_61 : decode (z_code 68) 61 = .ok (.iload_n 2, 1) := by decide +kernel
theorem u68_61 : zEv sc 68 61 [l0, l1, .int x, l3, l4] [t0] h Q ↔ zEv sc 68 62 [l0, l1, .int x, l3, l4] [.int x, t0] h Q := zE_pure (q := (62, [l0, l1, .int x, l3, l4], [.int x, t0])) dz68_61 rfl rfl rfl
theorem dz68_62 : decode (z_code 68) 62 = .ok (.invokevirtual 156, 3) := by decide +kernel
theorem u68_62 (ho : zO a 4) : zEv sc 68 62 [l0, l1, l2, l3, l4] [.int z0, .ref a] (zst p iv) Q ↔ zEv sc 34 0 [.ref a, .int z0, .null, .null] [] (zst p iv) (fun r h9 => zEv sc 68 65 [l0, l1, l2, l3, l4] (r.toList ++ []) h9 Q) := zE_call (kd := 0) (na := 2) (nr := 0) (as := [.ref a, .int z0]) (rest := []) (Or.inl ⟨rfl, rfl⟩) dz68_62 (by decide +kernel : z_lk2 zCT (z_cls 68) 156 = some (34, 1, 510)) (fun z => by cases z) rfl rfl rfl (by decide +kernel) rfl rfl (Or.inr (zE_rc ho))
theorem dz68_65 : decode (z_code 68) 65 = .ok (.iload 4, 2) := by decide +kernel
theorem u68_65 : zEv sc 68 65 [l0, l1, l2, l3, .int x] [] h Q ↔ zEv sc 68 67 [l0, l1, l2, l3, .int x] [.int x] h Q := zE_pure (q := (67, [l0, l1, l2, l3, .int x], [.int x])) dz68_65 rfl rfl rfl
theorem dz68_67 : decode (z_code 68) 67 = .ok (.ireturn, 1) := by decide +kernel
theorem u68_67 : zEv sc 68 67 [l0, l1, l2, l3, l4] [.int x] h Q ↔ Q (some (.int x)) h := zE_ri dz68_67 (by decide +kernel)
theorem dz68_19 : decode (z_code 68) 19 = .ok (.ldc 71, 2) := by decide +kernel
theorem u68_19 : zEv sc 68 19 [l0, l1, l2, l3, l4] [] h Q ↔ zEv sc 68 21 [l0, l1, l2, l3, l4] [.int (-1000001)] h Q := zE_ldc (by decide +kernel : z_lkK zKT (z_cls 68) 71 = some ((-1000001), 319)) dz68_19
theorem dz68_21 : decode (z_code 68) 21 = .ok (.ireturn, 1) := by decide +kernel
theorem u68_21 : zEv sc 68 21 [l0, l1, l2, l3, l4] [.int x] h Q ↔ Q (some (.int x)) h := zE_ri dz68_21 (by decide +kernel)
/-! method 69: FieldMixtures.playRoundInDraft(LFieldMixtures$AllocationList;LFieldMixtures$AllocationList;)Z -/
theorem dz69_0 : decode (z_code 69) 0 = .ok (.aload_n 0, 1) := by decide +kernel
theorem u69_0 : zEv sc 69 0 [.ref a, l1, l2] [] h Q ↔ zEv sc 69 1 [.ref a, l1, l2] [.ref a] h Q := zE_pure (q := (1, [.ref a, l1, l2], [.ref a])) dz69_0 rfl rfl rfl
theorem dz69_1 : decode (z_code 69) 1 = .ok (.getfield 39, 3) := by decide +kernel
theorem u69_1 (ho : zO a 9) : zEv sc 69 1 [l0, l1, l2] [.ref a] (zst p iv) Q ↔ zRef (zRV p a 5) (fun j => zEv sc 69 4 [l0, l1, l2] [.ref j] (zst p iv) Q) := zE_gfR dz69_1 (by decide +kernel : z_lk3 zFT (z_cls 69) 39 = some (9, 5, 0, 274)) (by decide +kernel) ho
theorem dz69_4 : decode (z_code 69) 4 = .ok (.aload_n 0, 1) := by decide +kernel
theorem u69_4 : zEv sc 69 4 [.ref a, l1, l2] [t0] h Q ↔ zEv sc 69 5 [.ref a, l1, l2] [.ref a, t0] h Q := zE_pure (q := (5, [.ref a, l1, l2], [.ref a, t0])) dz69_4 rfl rfl rfl
theorem dz69_5 : decode (z_code 69) 5 = .ok (.getfield 16, 3) := by decide +kernel
theorem u69_5 (ho : zO a 9) : zEv sc 69 5 [l0, l1, l2] [.ref a, t0] (zst p iv) Q ↔ zRef (zRV p a 1) (fun j => zEv sc 69 8 [l0, l1, l2] [.ref j, t0] (zst p iv) Q) := zE_gfR dz69_5 (by decide +kernel : z_lk3 zFT (z_cls 69) 16 = some (9, 1, 0, 270)) (by decide +kernel) ho
theorem dz69_8 : decode (z_code 69) 8 = .ok (.iconst 0, 1) := by decide +kernel
theorem u69_8 : zEv sc 69 8 [l0, l1, l2] [t0, t1] h Q ↔ zEv sc 69 9 [l0, l1, l2] [.int 0, t0, t1] h Q := zE_iconst dz69_8 (by decide +kernel)
theorem dz69_9 : decode (z_code 69) 9 = .ok (.invokevirtual 183, 3) := by decide +kernel
theorem u69_9 (ho : zO a 5) : zEv sc 69 9 [l0, l1, l2] [.int z0, .ref b0, .ref a] (zst p iv) Q ↔ zEv sc 39 0 [.ref a, .ref b0, .int z0, .null, .null, .null] [] (zst p iv) (fun r h9 => zEv sc 69 12 [l0, l1, l2] (r.toList ++ []) h9 Q) := zE_call (kd := 0) (na := 3) (nr := 0) (as := [.ref a, .ref b0, .int z0]) (rest := []) (Or.inl ⟨rfl, rfl⟩) dz69_9 (by decide +kernel : z_lk2 zCT (z_cls 69) 183 = some (39, 1, 363)) (fun z => by cases z) rfl rfl rfl (by decide +kernel) rfl rfl (Or.inr (zE_rc ho))
theorem dz69_12 : decode (z_code 69) 12 = .ok (.aload_n 0, 1) := by decide +kernel
theorem u69_12 : zEv sc 69 12 [.ref a, l1, l2] [] h Q ↔ zEv sc 69 13 [.ref a, l1, l2] [.ref a] h Q := zE_pure (q := (13, [.ref a, l1, l2], [.ref a])) dz69_12 rfl rfl rfl
theorem dz69_13 : decode (z_code 69) 13 = .ok (.getfield 46, 3) := by decide +kernel
theorem u69_13 (ho : zO a 9) : zEv sc 69 13 [l0, l1, l2] [.ref a] (zst p iv) Q ↔ zRef (zRV p a 6) (fun j => zEv sc 69 16 [l0, l1, l2] [.ref j] (zst p iv) Q) := zE_gfR dz69_13 (by decide +kernel : z_lk3 zFT (z_cls 69) 46 = some (9, 6, 0, 275)) (by decide +kernel) ho
theorem dz69_16 : decode (z_code 69) 16 = .ok (.aload_n 1, 1) := by decide +kernel
theorem u69_16 : zEv sc 69 16 [l0, .ref a, l2] [t0] h Q ↔ zEv sc 69 17 [l0, .ref a, l2] [.ref a, t0] h Q := zE_pure (q := (17, [l0, .ref a, l2], [.ref a, t0])) dz69_16 rfl rfl rfl
theorem dz69_17 : decode (z_code 69) 17 = .ok (.aload_n 0, 1) := by decide +kernel
theorem u69_17 : zEv sc 69 17 [.ref a, l1, l2] [t0, t1] h Q ↔ zEv sc 69 18 [.ref a, l1, l2] [.ref a, t0, t1] h Q := zE_pure (q := (18, [.ref a, l1, l2], [.ref a, t0, t1])) dz69_17 rfl rfl rfl
theorem dz69_18 : decode (z_code 69) 18 = .ok (.getfield 39, 3) := by decide +kernel
theorem u69_18 (ho : zO a 9) : zEv sc 69 18 [l0, l1, l2] [.ref a, t0, t1] (zst p iv) Q ↔ zRef (zRV p a 5) (fun j => zEv sc 69 21 [l0, l1, l2] [.ref j, t0, t1] (zst p iv) Q) := zE_gfR dz69_18 (by decide +kernel : z_lk3 zFT (z_cls 69) 39 = some (9, 5, 0, 274)) (by decide +kernel) ho
theorem dz69_21 : decode (z_code 69) 21 = .ok (.invokevirtual 209, 3) := by decide +kernel
theorem u69_21 (ho : zO a 1) : zEv sc 69 21 [l0, l1, l2] [.ref b1, .ref b0, .ref a] (zst p iv) Q ↔ zEv sc 5 0 [.ref a, .ref b0, .ref b1, .null, .null] [] (zst p iv) (fun r h9 => zEv sc 69 24 [l0, l1, l2] (r.toList ++ []) h9 Q) := zE_call (kd := 0) (na := 3) (nr := 0) (as := [.ref a, .ref b0, .ref b1]) (rest := []) (Or.inl ⟨rfl, rfl⟩) dz69_21 (by decide +kernel : z_lk2 zCT (z_cls 69) 209 = some (5, 1, 523)) (fun z => by cases z) rfl rfl rfl (by decide +kernel) rfl rfl (Or.inr (zE_rc ho))
theorem dz69_24 : decode (z_code 69) 24 = .ok (.aload_n 0, 1) := by decide +kernel
theorem u69_24 : zEv sc 69 24 [.ref a, l1, l2] [] h Q ↔ zEv sc 69 25 [.ref a, l1, l2] [.ref a] h Q := zE_pure (q := (25, [.ref a, l1, l2], [.ref a])) dz69_24 rfl rfl rfl
theorem dz69_25 : decode (z_code 69) 25 = .ok (.getfield 39, 3) := by decide +kernel
theorem u69_25 (ho : zO a 9) : zEv sc 69 25 [l0, l1, l2] [.ref a] (zst p iv) Q ↔ zRef (zRV p a 5) (fun j => zEv sc 69 28 [l0, l1, l2] [.ref j] (zst p iv) Q) := zE_gfR dz69_25 (by decide +kernel : z_lk3 zFT (z_cls 69) 39 = some (9, 5, 0, 274)) (by decide +kernel) ho
theorem dz69_28 : decode (z_code 69) 28 = .ok (.aload_n 0, 1) := by decide +kernel
theorem u69_28 : zEv sc 69 28 [.ref a, l1, l2] [t0] h Q ↔ zEv sc 69 29 [.ref a, l1, l2] [.ref a, t0] h Q := zE_pure (q := (29, [.ref a, l1, l2], [.ref a, t0])) dz69_28 rfl rfl rfl
theorem dz69_29 : decode (z_code 69) 29 = .ok (.getfield 16, 3) := by decide +kernel
theorem u69_29 (ho : zO a 9) : zEv sc 69 29 [l0, l1, l2] [.ref a, t0] (zst p iv) Q ↔ zRef (zRV p a 1) (fun j => zEv sc 69 32 [l0, l1, l2] [.ref j, t0] (zst p iv) Q) := zE_gfR dz69_29 (by decide +kernel : z_lk3 zFT (z_cls 69) 16 = some (9, 1, 0, 270)) (by decide +kernel) ho
theorem dz69_32 : decode (z_code 69) 32 = .ok (.iconst 1, 1) := by decide +kernel
theorem u69_32 : zEv sc 69 32 [l0, l1, l2] [t0, t1] h Q ↔ zEv sc 69 33 [l0, l1, l2] [.int 1, t0, t1] h Q := zE_iconst dz69_32 (by decide +kernel)
theorem dz69_33 : decode (z_code 69) 33 = .ok (.invokevirtual 183, 3) := by decide +kernel
theorem u69_33 (ho : zO a 5) : zEv sc 69 33 [l0, l1, l2] [.int z0, .ref b0, .ref a] (zst p iv) Q ↔ zEv sc 39 0 [.ref a, .ref b0, .int z0, .null, .null, .null] [] (zst p iv) (fun r h9 => zEv sc 69 36 [l0, l1, l2] (r.toList ++ []) h9 Q) := zE_call (kd := 0) (na := 3) (nr := 0) (as := [.ref a, .ref b0, .int z0]) (rest := []) (Or.inl ⟨rfl, rfl⟩) dz69_33 (by decide +kernel : z_lk2 zCT (z_cls 69) 183 = some (39, 1, 363)) (fun z => by cases z) rfl rfl rfl (by decide +kernel) rfl rfl (Or.inr (zE_rc ho))
theorem dz69_36 : decode (z_code 69) 36 = .ok (.aload_n 0, 1) := by decide +kernel
theorem u69_36 : zEv sc 69 36 [.ref a, l1, l2] [] h Q ↔ zEv sc 69 37 [.ref a, l1, l2] [.ref a] h Q := zE_pure (q := (37, [.ref a, l1, l2], [.ref a])) dz69_36 rfl rfl rfl
theorem dz69_37 : decode (z_code 69) 37 = .ok (.getfield 50, 3) := by decide +kernel
theorem u69_37 (ho : zO a 9) : zEv sc 69 37 [l0, l1, l2] [.ref a] (zst p iv) Q ↔ zRef (zRV p a 7) (fun j => zEv sc 69 40 [l0, l1, l2] [.ref j] (zst p iv) Q) := zE_gfR dz69_37 (by decide +kernel : z_lk3 zFT (z_cls 69) 50 = some (9, 7, 0, 276)) (by decide +kernel) ho
theorem dz69_40 : decode (z_code 69) 40 = .ok (.aload_n 2, 1) := by decide +kernel
theorem u69_40 : zEv sc 69 40 [l0, l1, .ref a] [t0] h Q ↔ zEv sc 69 41 [l0, l1, .ref a] [.ref a, t0] h Q := zE_pure (q := (41, [l0, l1, .ref a], [.ref a, t0])) dz69_40 rfl rfl rfl
theorem dz69_41 : decode (z_code 69) 41 = .ok (.aload_n 0, 1) := by decide +kernel
theorem u69_41 : zEv sc 69 41 [.ref a, l1, l2] [t0, t1] h Q ↔ zEv sc 69 42 [.ref a, l1, l2] [.ref a, t0, t1] h Q := zE_pure (q := (42, [.ref a, l1, l2], [.ref a, t0, t1])) dz69_41 rfl rfl rfl
theorem dz69_42 : decode (z_code 69) 42 = .ok (.getfield 39, 3) := by decide +kernel
theorem u69_42 (ho : zO a 9) : zEv sc 69 42 [l0, l1, l2] [.ref a, t0, t1] (zst p iv) Q ↔ zRef (zRV p a 5) (fun j => zEv sc 69 45 [l0, l1, l2] [.ref j, t0, t1] (zst p iv) Q) := zE_gfR dz69_42 (by decide +kernel : z_lk3 zFT (z_cls 69) 39 = some (9, 5, 0, 274)) (by decide +kernel) ho
theorem dz69_45 : decode (z_code 69) 45 = .ok (.invokevirtual 209, 3) := by decide +kernel
theorem u69_45 (ho : zO a 1) : zEv sc 69 45 [l0, l1, l2] [.ref b1, .ref b0, .ref a] (zst p iv) Q ↔ zEv sc 5 0 [.ref a, .ref b0, .ref b1, .null, .null] [] (zst p iv) (fun r h9 => zEv sc 69 48 [l0, l1, l2] (r.toList ++ []) h9 Q) := zE_call (kd := 0) (na := 3) (nr := 0) (as := [.ref a, .ref b0, .ref b1]) (rest := []) (Or.inl ⟨rfl, rfl⟩) dz69_45 (by decide +kernel : z_lk2 zCT (z_cls 69) 209 = some (5, 1, 523)) (fun z => by cases z) rfl rfl rfl (by decide +kernel) rfl rfl (Or.inr (zE_rc ho))
theorem dz69_48 : decode (z_code 69) 48 = .ok (.aload_n 0, 1) := by decide +kernel
theorem u69_48 : zEv sc 69 48 [.ref a, l1, l2] [] h Q ↔ zEv sc 69 49 [.ref a, l1, l2] [.ref a] h Q := zE_pure (q := (49, [.ref a, l1, l2], [.ref a])) dz69_48 rfl rfl rfl
theorem dz69_49 : decode (z_code 69) 49 = .ok (.getfield 16, 3) := by decide +kernel
theorem u69_49 (ho : zO a 9) : zEv sc 69 49 [l0, l1, l2] [.ref a] (zst p iv) Q ↔ zRef (zRV p a 1) (fun j => zEv sc 69 52 [l0, l1, l2] [.ref j] (zst p iv) Q) := zE_gfR dz69_49 (by decide +kernel : z_lk3 zFT (z_cls 69) 16 = some (9, 1, 0, 270)) (by decide +kernel) ho
theorem dz69_52 : decode (z_code 69) 52 = .ok (.iconst 0, 1) := by decide +kernel
theorem u69_52 : zEv sc 69 52 [l0, l1, l2] [t0] h Q ↔ zEv sc 69 53 [l0, l1, l2] [.int 0, t0] h Q := zE_iconst dz69_52 (by decide +kernel)
theorem dz69_53 : decode (z_code 69) 53 = .ok (.invokevirtual 95, 3) := by decide +kernel
theorem u69_53 (ho : zO a 2) : zEv sc 69 53 [l0, l1, l2] [.int z0, .ref a] (zst p iv) Q ↔ zEv sc 14 0 [.ref a, .int z0] [] (zst p iv) (fun r h9 => zEv sc 69 56 [l0, l1, l2] (r.toList ++ []) h9 Q) := zE_call (kd := 0) (na := 2) (nr := 0) (as := [.ref a, .int z0]) (rest := []) (Or.inl ⟨rfl, rfl⟩) dz69_53 (by decide +kernel : z_lk2 zCT (z_cls 69) 95 = some (14, 1, 307)) (fun z => by cases z) rfl rfl rfl (by decide +kernel) rfl rfl (Or.inr (zE_rc ho))
theorem dz69_56 : decode (z_code 69) 56 = .ok (.getfield 107, 3) := by decide +kernel
theorem u69_56 (ho : zO a 6) : zEv sc 69 56 [l0, l1, l2] [.ref a] (zst p iv) Q ↔ zRef (zRV p a 2) (fun j => zEv sc 69 59 [l0, l1, l2] [.ref j] (zst p iv) Q) := zE_gfR dz69_56 (by decide +kernel : z_lk3 zFT (z_cls 69) 107 = some (6, 2, 1, 114)) (by decide +kernel) ho
theorem dz69_59 : decode (z_code 69) 59 = .ok (.aload_n 0, 1) := by decide +kernel
theorem u69_59 : zEv sc 69 59 [.ref a, l1, l2] [t0] h Q ↔ zEv sc 69 60 [.ref a, l1, l2] [.ref a, t0] h Q := zE_pure (q := (60, [.ref a, l1, l2], [.ref a, t0])) dz69_59 rfl rfl rfl
theorem dz69_60 : decode (z_code 69) 60 = .ok (.getfield 46, 3) := by decide +kernel
theorem u69_60 (ho : zO a 9) : zEv sc 69 60 [l0, l1, l2] [.ref a, t0] (zst p iv) Q ↔ zRef (zRV p a 6) (fun j => zEv sc 69 63 [l0, l1, l2] [.ref j, t0] (zst p iv) Q) := zE_gfR dz69_60 (by decide +kernel : z_lk3 zFT (z_cls 69) 46 = some (9, 6, 0, 275)) (by decide +kernel) ho
theorem dz69_63 : decode (z_code 69) 63 = .ok (.getfield 216, 3) := by decide +kernel
theorem u69_63 (ho : zO a 1) : zEv sc 69 63 [l0, l1, l2] [.ref a, t0] (zst p iv) Q ↔ zEv sc 69 66 [l0, l1, l2] [.int (iv a 0), t0] (zst p iv) Q := zE_gfI dz69_63 (by decide +kernel : z_lk3 zFT (z_cls 69) 216 = some (1, 0, 1, 212)) (by decide +kernel) ho
theorem dz69_66 : decode (z_code 69) 66 = .ok (.invokevirtual 267, 3) := by decide +kernel
theorem u69_66 (ho : zO a 4) : zEv sc 69 66 [l0, l1, l2] [.int z0, .ref a] (zst p iv) Q ↔ zEv sc 35 0 [.ref a, .int z0, .null] [] (zst p iv) (fun r h9 => zEv sc 69 69 [l0, l1, l2] (r.toList ++ []) h9 Q) := zE_call (kd := 0) (na := 2) (nr := 0) (as := [.ref a, .int z0]) (rest := []) (Or.inl ⟨rfl, rfl⟩) dz69_66 (by decide +kernel : z_lk2 zCT (z_cls 69) 267 = some (35, 1, 528)) (fun z => by cases z) rfl rfl rfl (by decide +kernel) rfl rfl (Or.inr (zE_rc ho))
theorem dz69_69 : decode (z_code 69) 69 = .ok (.ifCond .eq 31, 3) := by decide +kernel
theorem u69_69 : zEv sc 69 69 [l0, l1, l2] [.int x] h Q ↔ (if x = 0 then zEv sc 69 100 [l0, l1, l2] [] h Q else zEv sc 69 72 [l0, l1, l2] [] h Q) := zE_ifP (P := x = 0) inferInstance 100 dz69_69 rfl rfl
theorem dz69_72 : decode (z_code 69) 72 = .ok (.aload_n 0, 1) := by decide +kernel
theorem u69_72 : zEv sc 69 72 [.ref a, l1, l2] [] h Q ↔ zEv sc 69 73 [.ref a, l1, l2] [.ref a] h Q := zE_pure (q := (73, [.ref a, l1, l2], [.ref a])) dz69_72 rfl rfl rfl
theorem dz69_73 : decode (z_code 69) 73 = .ok (.getfield 16, 3) := by decide +kernel
theorem u69_73 (ho : zO a 9) : zEv sc 69 73 [l0, l1, l2] [.ref a] (zst p iv) Q ↔ zRef (zRV p a 1) (fun j => zEv sc 69 76 [l0, l1, l2] [.ref j] (zst p iv) Q) := zE_gfR dz69_73 (by decide +kernel : z_lk3 zFT (z_cls 69) 16 = some (9, 1, 0, 270)) (by decide +kernel) ho
theorem dz69_76 : decode (z_code 69) 76 = .ok (.iconst 1, 1) := by decide +kernel
theorem u69_76 : zEv sc 69 76 [l0, l1, l2] [t0] h Q ↔ zEv sc 69 77 [l0, l1, l2] [.int 1, t0] h Q := zE_iconst dz69_76 (by decide +kernel)
theorem dz69_77 : decode (z_code 69) 77 = .ok (.invokevirtual 95, 3) := by decide +kernel
theorem u69_77 (ho : zO a 2) : zEv sc 69 77 [l0, l1, l2] [.int z0, .ref a] (zst p iv) Q ↔ zEv sc 14 0 [.ref a, .int z0] [] (zst p iv) (fun r h9 => zEv sc 69 80 [l0, l1, l2] (r.toList ++ []) h9 Q) := zE_call (kd := 0) (na := 2) (nr := 0) (as := [.ref a, .int z0]) (rest := []) (Or.inl ⟨rfl, rfl⟩) dz69_77 (by decide +kernel : z_lk2 zCT (z_cls 69) 95 = some (14, 1, 307)) (fun z => by cases z) rfl rfl rfl (by decide +kernel) rfl rfl (Or.inr (zE_rc ho))
theorem dz69_80 : decode (z_code 69) 80 = .ok (.getfield 107, 3) := by decide +kernel
theorem u69_80 (ho : zO a 6) : zEv sc 69 80 [l0, l1, l2] [.ref a] (zst p iv) Q ↔ zRef (zRV p a 2) (fun j => zEv sc 69 83 [l0, l1, l2] [.ref j] (zst p iv) Q) := zE_gfR dz69_80 (by decide +kernel : z_lk3 zFT (z_cls 69) 107 = some (6, 2, 1, 114)) (by decide +kernel) ho
theorem dz69_83 : decode (z_code 69) 83 = .ok (.aload_n 0, 1) := by decide +kernel
theorem u69_83 : zEv sc 69 83 [.ref a, l1, l2] [t0] h Q ↔ zEv sc 69 84 [.ref a, l1, l2] [.ref a, t0] h Q := zE_pure (q := (84, [.ref a, l1, l2], [.ref a, t0])) dz69_83 rfl rfl rfl
theorem dz69_84 : decode (z_code 69) 84 = .ok (.getfield 50, 3) := by decide +kernel
theorem u69_84 (ho : zO a 9) : zEv sc 69 84 [l0, l1, l2] [.ref a, t0] (zst p iv) Q ↔ zRef (zRV p a 7) (fun j => zEv sc 69 87 [l0, l1, l2] [.ref j, t0] (zst p iv) Q) := zE_gfR dz69_84 (by decide +kernel : z_lk3 zFT (z_cls 69) 50 = some (9, 7, 0, 276)) (by decide +kernel) ho
theorem dz69_87 : decode (z_code 69) 87 = .ok (.getfield 216, 3) := by decide +kernel
theorem u69_87 (ho : zO a 1) : zEv sc 69 87 [l0, l1, l2] [.ref a, t0] (zst p iv) Q ↔ zEv sc 69 90 [l0, l1, l2] [.int (iv a 0), t0] (zst p iv) Q := zE_gfI dz69_87 (by decide +kernel : z_lk3 zFT (z_cls 69) 216 = some (1, 0, 1, 212)) (by decide +kernel) ho
theorem dz69_90 : decode (z_code 69) 90 = .ok (.invokevirtual 267, 3) := by decide +kernel
theorem u69_90 (ho : zO a 4) : zEv sc 69 90 [l0, l1, l2] [.int z0, .ref a] (zst p iv) Q ↔ zEv sc 35 0 [.ref a, .int z0, .null] [] (zst p iv) (fun r h9 => zEv sc 69 93 [l0, l1, l2] (r.toList ++ []) h9 Q) := zE_call (kd := 0) (na := 2) (nr := 0) (as := [.ref a, .int z0]) (rest := []) (Or.inl ⟨rfl, rfl⟩) dz69_90 (by decide +kernel : z_lk2 zCT (z_cls 69) 267 = some (35, 1, 528)) (fun z => by cases z) rfl rfl rfl (by decide +kernel) rfl rfl (Or.inr (zE_rc ho))
theorem dz69_93 : decode (z_code 69) 93 = .ok (.ifCond .eq 7, 3) := by decide +kernel
theorem u69_93 : zEv sc 69 93 [l0, l1, l2] [.int x] h Q ↔ (if x = 0 then zEv sc 69 100 [l0, l1, l2] [] h Q else zEv sc 69 96 [l0, l1, l2] [] h Q) := zE_ifP (P := x = 0) inferInstance 100 dz69_93 rfl rfl
theorem dz69_96 : decode (z_code 69) 96 = .ok (.iconst 1, 1) := by decide +kernel
theorem u69_96 : zEv sc 69 96 [l0, l1, l2] [] h Q ↔ zEv sc 69 97 [l0, l1, l2] [.int 1] h Q := zE_iconst dz69_96 (by decide +kernel)
theorem dz69_97 : decode (z_code 69) 97 = .ok (.goto 4, 3) := by decide +kernel
theorem u69_97 : zEv sc 69 97 [l0, l1, l2] [t0] h Q ↔ zEv sc 69 101 [l0, l1, l2] [t0] h Q := zE_go 101 dz69_97 rfl
theorem dz69_101 : decode (z_code 69) 101 = .ok (.ireturn, 1) := by decide +kernel
theorem u69_101 : zEv sc 69 101 [l0, l1, l2] [.int x] h Q ↔ ((x = 0 ∨ x = 1) ∧ Q (some (.int x)) h) := zE_rz dz69_101 (by decide +kernel)
theorem dz69_100 : decode (z_code 69) 100 = .ok (.iconst 0, 1) := by decide +kernel
theorem u69_100 : zEv sc 69 100 [l0, l1, l2] [] h Q ↔ zEv sc 69 101 [l0, l1, l2] [.int 0] h Q := zE_iconst dz69_100 (by decide +kernel)
/-! method 70: FieldMixtures.changeToDraft()V -/
theorem dz70_0 : decode (z_code 70) 0 = .ok (.aload_n 0, 1) := by decide +kernel
theorem u70_0 : zEv sc 70 0 [.ref a] [] h Q ↔ zEv sc 70 1 [.ref a] [.ref a] h Q := zE_pure (q := (1, [.ref a], [.ref a])) dz70_0 rfl rfl rfl
theorem dz70_1 : decode (z_code 70) 1 = .ok (.getfield 22, 3) := by decide +kernel
theorem u70_1 (ho : zO a 9) : zEv sc 70 1 [l0] [.ref a] (zst p iv) Q ↔ zRef (zRV p a 2) (fun j => zEv sc 70 4 [l0] [.ref j] (zst p iv) Q) := zE_gfR dz70_1 (by decide +kernel : z_lk3 zFT (z_cls 70) 22 = some (9, 2, 0, 271)) (by decide +kernel) ho
theorem dz70_4 : decode (z_code 70) 4 = .ok (.aload_n 0, 1) := by decide +kernel
theorem u70_4 : zEv sc 70 4 [.ref a] [t0] h Q ↔ zEv sc 70 5 [.ref a] [.ref a, t0] h Q := zE_pure (q := (5, [.ref a], [.ref a, t0])) dz70_4 rfl rfl rfl
theorem dz70_5 : decode (z_code 70) 5 = .ok (.getfield 10, 3) := by decide +kernel
theorem u70_5 (ho : zO a 9) : zEv sc 70 5 [l0] [.ref a, t0] (zst p iv) Q ↔ zRef (zRV p a 0) (fun j => zEv sc 70 8 [l0] [.ref j, t0] (zst p iv) Q) := zE_gfR dz70_5 (by decide +kernel : z_lk3 zFT (z_cls 70) 10 = some (9, 0, 0, 269)) (by decide +kernel) ho
theorem dz70_8 : decode (z_code 70) 8 = .ok (.invokevirtual 76, 3) := by decide +kernel
theorem u70_8 (ho : zO a 3) : zEv sc 70 8 [l0] [.ref b0, .ref a] (zst p iv) Q ↔ zEv sc 26 0 [.ref a, .ref b0] [] (zst p iv) (fun r h9 => zEv sc 70 11 [l0] (r.toList ++ []) h9 Q) := zE_call (kd := 0) (na := 2) (nr := 0) (as := [.ref a, .ref b0]) (rest := []) (Or.inl ⟨rfl, rfl⟩) dz70_8 (by decide +kernel : z_lk2 zCT (z_cls 70) 76 = some (26, 1, 488)) (fun z => by cases z) rfl rfl rfl (by decide +kernel) rfl rfl (Or.inr (zE_rc ho))
theorem dz70_11 : decode (z_code 70) 11 = .ok (.aload_n 0, 1) := by decide +kernel
theorem u70_11 : zEv sc 70 11 [.ref a] [] h Q ↔ zEv sc 70 12 [.ref a] [.ref a] h Q := zE_pure (q := (12, [.ref a], [.ref a])) dz70_11 rfl rfl rfl
theorem dz70_12 : decode (z_code 70) 12 = .ok (.getfield 10, 3) := by decide +kernel
theorem u70_12 (ho : zO a 9) : zEv sc 70 12 [l0] [.ref a] (zst p iv) Q ↔ zRef (zRV p a 0) (fun j => zEv sc 70 15 [l0] [.ref j] (zst p iv) Q) := zE_gfR dz70_12 (by decide +kernel : z_lk3 zFT (z_cls 70) 10 = some (9, 0, 0, 269)) (by decide +kernel) ho
theorem dz70_15 : decode (z_code 70) 15 = .ok (.aload_n 0, 1) := by decide +kernel
theorem u70_15 : zEv sc 70 15 [.ref a] [t0] h Q ↔ zEv sc 70 16 [.ref a] [.ref a, t0] h Q := zE_pure (q := (16, [.ref a], [.ref a, t0])) dz70_15 rfl rfl rfl
theorem dz70_16 : decode (z_code 70) 16 = .ok (.getfield 16, 3) := by decide +kernel
theorem u70_16 (ho : zO a 9) : zEv sc 70 16 [l0] [.ref a, t0] (zst p iv) Q ↔ zRef (zRV p a 1) (fun j => zEv sc 70 19 [l0] [.ref j, t0] (zst p iv) Q) := zE_gfR dz70_16 (by decide +kernel : z_lk3 zFT (z_cls 70) 16 = some (9, 1, 0, 270)) (by decide +kernel) ho
theorem dz70_19 : decode (z_code 70) 19 = .ok (.invokevirtual 163, 3) := by decide +kernel
theorem u70_19 (ho : zO a 2) : zEv sc 70 19 [l0] [.ref b0, .ref a] (zst p iv) Q ↔ zEv sc 13 0 [.ref a, .ref b0, .null] [] (zst p iv) (fun r h9 => zEv sc 70 22 [l0] (r.toList ++ []) h9 Q) := zE_call (kd := 0) (na := 2) (nr := 0) (as := [.ref a, .ref b0]) (rest := []) (Or.inl ⟨rfl, rfl⟩) dz70_19 (by decide +kernel : z_lk2 zCT (z_cls 70) 163 = some (13, 1, 518)) (fun z => by cases z) rfl rfl rfl (by decide +kernel) rfl rfl (Or.inr (zE_rc ho))
theorem dz70_22 : decode (z_code 70) 22 = .ok (.return_, 1) := by decide +kernel
theorem u70_22 : zEv sc 70 22 [l0] [] h Q ↔ Q none h := zE_rv dz70_22 (by decide +kernel)
/-! method 71: FieldMixtures.round(I)I -/
theorem dz71_0 : decode (z_code 71) 0 = .ok (.iload_n 1, 1) := by decide +kernel
theorem u71_0 : zEv sc 71 0 [l0, .int x, l2, l3, l4] [] h Q ↔ zEv sc 71 1 [l0, .int x, l2, l3, l4] [.int x] h Q := zE_pure (q := (1, [l0, .int x, l2, l3, l4], [.int x])) dz71_0 rfl rfl rfl
theorem dz71_1 : decode (z_code 71) 1 = .ok (.iconst 1, 1) := by decide +kernel
theorem u71_1 : zEv sc 71 1 [l0, l1, l2, l3, l4] [t0] h Q ↔ zEv sc 71 2 [l0, l1, l2, l3, l4] [.int 1, t0] h Q := zE_iconst dz71_1 (by decide +kernel)
theorem dz71_2 : decode (z_code 71) 2 = .ok (.bipush 20, 2) := by decide +kernel
theorem u71_2 : zEv sc 71 2 [l0, l1, l2, l3, l4] [t0, t1] h Q ↔ zEv sc 71 4 [l0, l1, l2, l3, l4] [.int 20, t0, t1] h Q := zE_bipush dz71_2 (by decide +kernel)
theorem dz71_4 : decode (z_code 71) 4 = .ok (.invokestatic 67, 3) := by decide +kernel
theorem u71_4 : zEv sc 71 4 [l0, l1, l2, l3, l4] [.int z2, .int z1, .int z0] h Q ↔ zEv sc 15 0 [.int z0, .int z1, .int z2] [] h (fun r h9 => zEv sc 71 7 [l0, l1, l2, l3, l4] (r.toList ++ []) h9 Q) := zE_call (kd := 1) (na := 3) (nr := 0) (as := [.int z0, .int z1, .int z2]) (rest := []) (Or.inr ⟨rfl, rfl⟩) dz71_4 (by decide +kernel : z_lk2 zCT (z_cls 71) 67 = some (15, 0, 304)) (fun _ => ⟨by decide +kernel, by decide +kernel⟩) rfl rfl rfl (by decide +kernel) rfl rfl (Or.inl rfl)
theorem dz71_7 : decode (z_code 71) 7 = .ok (.ifCond .ne 6, 3) := by decide +kernel
theorem u71_7 : zEv sc 71 7 [l0, l1, l2, l3, l4] [.int x] h Q ↔ (if ¬ x = 0 then zEv sc 71 13 [l0, l1, l2, l3, l4] [] h Q else zEv sc 71 10 [l0, l1, l2, l3, l4] [] h Q) := zE_ifP (P := ¬ x = 0) inferInstance 13 dz71_7 rfl rfl
theorem dz71_10 : decode (z_code 71) 10 = .ok (.ldc 71, 2) := by decide +kernel
theorem u71_10 : zEv sc 71 10 [l0, l1, l2, l3, l4] [] h Q ↔ zEv sc 71 12 [l0, l1, l2, l3, l4] [.int (-1000001)] h Q := zE_ldc (by decide +kernel : z_lkK zKT (z_cls 71) 71 = some ((-1000001), 319)) dz71_10
theorem dz71_12 : decode (z_code 71) 12 = .ok (.ireturn, 1) := by decide +kernel
theorem u71_12 : zEv sc 71 12 [l0, l1, l2, l3, l4] [.int x] h Q ↔ Q (some (.int x)) h := zE_ri dz71_12 (by decide +kernel)
theorem dz71_13 : decode (z_code 71) 13 = .ok (.aload_n 0, 1) := by decide +kernel
theorem u71_13 : zEv sc 71 13 [.ref a, l1, l2, l3, l4] [] h Q ↔ zEv sc 71 14 [.ref a, l1, l2, l3, l4] [.ref a] h Q := zE_pure (q := (14, [.ref a, l1, l2, l3, l4], [.ref a])) dz71_13 rfl rfl rfl
theorem dz71_14 : decode (z_code 71) 14 = .ok (.getfield 10, 3) := by decide +kernel
theorem u71_14 (ho : zO a 9) : zEv sc 71 14 [l0, l1, l2, l3, l4] [.ref a] (zst p iv) Q ↔ zRef (zRV p a 0) (fun j => zEv sc 71 17 [l0, l1, l2, l3, l4] [.ref j] (zst p iv) Q) := zE_gfR dz71_14 (by decide +kernel : z_lk3 zFT (z_cls 71) 10 = some (9, 0, 0, 269)) (by decide +kernel) ho
theorem dz71_17 : decode (z_code 71) 17 = .ok (.invokevirtual 159, 3) := by decide +kernel
theorem u71_17 (ho : zO a 2) : zEv sc 71 17 [l0, l1, l2, l3, l4] [.ref a] (zst p iv) Q ↔ zEv sc 18 0 [.ref a] [] (zst p iv) (fun r h9 => zEv sc 71 20 [l0, l1, l2, l3, l4] (r.toList ++ []) h9 Q) := zE_call (kd := 0) (na := 1) (nr := 0) (as := [.ref a]) (rest := []) (Or.inl ⟨rfl, rfl⟩) dz71_17 (by decide +kernel : z_lk2 zCT (z_cls 71) 159 = some (18, 1, 454)) (fun z => by cases z) rfl rfl rfl (by decide +kernel) rfl rfl (Or.inr (zE_rc ho))
theorem dz71_20 : decode (z_code 71) 20 = .ok (.ifCond .eq 6, 3) := by decide +kernel
theorem u71_20 : zEv sc 71 20 [l0, l1, l2, l3, l4] [.int x] h Q ↔ (if x = 0 then zEv sc 71 26 [l0, l1, l2, l3, l4] [] h Q else zEv sc 71 23 [l0, l1, l2, l3, l4] [] h Q) := zE_ifP (P := x = 0) inferInstance 26 dz71_20 rfl rfl
theorem dz71_23 : decode (z_code 71) 23 = .ok (.ldc 155, 2) := by decide +kernel
theorem u71_23 : zEv sc 71 23 [l0, l1, l2, l3, l4] [] h Q ↔ zEv sc 71 25 [l0, l1, l2, l3, l4] [.int (-1000002)] h Q := zE_ldc (by decide +kernel : z_lkK zKT (z_cls 71) 155 = some ((-1000002), 324)) dz71_23
theorem dz71_25 : decode (z_code 71) 25 = .ok (.ireturn, 1) := by decide +kernel
theorem u71_25 : zEv sc 71 25 [l0, l1, l2, l3, l4] [.int x] h Q ↔ Q (some (.int x)) h := zE_ri dz71_25 (by decide +kernel)
theorem dz71_26 : decode (z_code 71) 26 = .ok (.aload_n 0, 1) := by decide +kernel
theorem u71_26 : zEv sc 71 26 [.ref a, l1, l2, l3, l4] [] h Q ↔ zEv sc 71 27 [.ref a, l1, l2, l3, l4] [.ref a] h Q := zE_pure (q := (27, [.ref a, l1, l2, l3, l4], [.ref a])) dz71_26 rfl rfl rfl
theorem dz71_27 : decode (z_code 71) 27 = .ok (.getfield 16, 3) := by decide +kernel
theorem u71_27 (ho : zO a 9) : zEv sc 71 27 [l0, l1, l2, l3, l4] [.ref a] (zst p iv) Q ↔ zRef (zRV p a 1) (fun j => zEv sc 71 30 [l0, l1, l2, l3, l4] [.ref j] (zst p iv) Q) := zE_gfR dz71_27 (by decide +kernel : z_lk3 zFT (z_cls 71) 16 = some (9, 1, 0, 270)) (by decide +kernel) ho
theorem dz71_30 : decode (z_code 71) 30 = .ok (.aload_n 0, 1) := by decide +kernel
theorem u71_30 : zEv sc 71 30 [.ref a, l1, l2, l3, l4] [t0] h Q ↔ zEv sc 71 31 [.ref a, l1, l2, l3, l4] [.ref a, t0] h Q := zE_pure (q := (31, [.ref a, l1, l2, l3, l4], [.ref a, t0])) dz71_30 rfl rfl rfl
theorem dz71_31 : decode (z_code 71) 31 = .ok (.getfield 10, 3) := by decide +kernel
theorem u71_31 (ho : zO a 9) : zEv sc 71 31 [l0, l1, l2, l3, l4] [.ref a, t0] (zst p iv) Q ↔ zRef (zRV p a 0) (fun j => zEv sc 71 34 [l0, l1, l2, l3, l4] [.ref j, t0] (zst p iv) Q) := zE_gfR dz71_31 (by decide +kernel : z_lk3 zFT (z_cls 71) 10 = some (9, 0, 0, 269)) (by decide +kernel) ho
theorem dz71_34 : decode (z_code 71) 34 = .ok (.invokevirtual 163, 3) := by decide +kernel
theorem u71_34 (ho : zO a 2) : zEv sc 71 34 [l0, l1, l2, l3, l4] [.ref b0, .ref a] (zst p iv) Q ↔ zEv sc 13 0 [.ref a, .ref b0, .null] [] (zst p iv) (fun r h9 => zEv sc 71 37 [l0, l1, l2, l3, l4] (r.toList ++ []) h9 Q) := zE_call (kd := 0) (na := 2) (nr := 0) (as := [.ref a, .ref b0]) (rest := []) (Or.inl ⟨rfl, rfl⟩) dz71_34 (by decide +kernel : z_lk2 zCT (z_cls 71) 163 = some (13, 1, 518)) (fun z => by cases z) rfl rfl rfl (by decide +kernel) rfl rfl (Or.inr (zE_rc ho))
theorem dz71_37 : decode (z_code 71) 37 = .ok (.aload_n 0, 1) := by decide +kernel
theorem u71_37 : zEv sc 71 37 [.ref a, l1, l2, l3, l4] [] h Q ↔ zEv sc 71 38 [.ref a, l1, l2, l3, l4] [.ref a] h Q := zE_pure (q := (38, [.ref a, l1, l2, l3, l4], [.ref a])) dz71_37 rfl rfl rfl
theorem dz71_38 : decode (z_code 71) 38 = .ok (.iconst 0, 1) := by decide +kernel
theorem u71_38 : zEv sc 71 38 [l0, l1, l2, l3, l4] [t0] h Q ↔ zEv sc 71 39 [l0, l1, l2, l3, l4] [.int 0, t0] h Q := zE_iconst dz71_38 (by decide +kernel)
theorem dz71_39 : decode (z_code 71) 39 = .ok (.invokevirtual 122, 3) := by decide +kernel
theorem u71_39 (ho : zO a 9) : zEv sc 71 39 [l0, l1, l2, l3, l4] [.int z0, .ref a] (zst p iv) Q ↔ zEv sc 62 0 [.ref a, .int z0, .null] [] (zst p iv) (fun r h9 => zEv sc 71 42 [l0, l1, l2, l3, l4] (r.toList ++ []) h9 Q) := zE_call (kd := 0) (na := 2) (nr := 0) (as := [.ref a, .int z0]) (rest := []) (Or.inl ⟨rfl, rfl⟩) dz71_39 (by decide +kernel : z_lk2 zCT (z_cls 71) 122 = some (62, 0, 404)) (fun z => by cases z) rfl rfl rfl (by decide +kernel) rfl rfl (Or.inr (zE_rc ho))
theorem dz71_42 : decode (z_code 71) 42 = .ok (.astore_n 2, 1) := by decide +kernel
theorem u71_42 : zEv sc 71 42 [l0, l1, l2, l3, l4] [.ref a] h Q ↔ zEv sc 71 43 [l0, l1, .ref a, l3, l4] [] h Q := zE_pure (q := (43, [l0, l1, .ref a, l3, l4], [])) dz71_42 rfl rfl rfl
theorem dz71_43 : decode (z_code 71) 43 = .ok (.aload_n 0, 1) := by decide +kernel
theorem u71_43 : zEv sc 71 43 [.ref a, l1, l2, l3, l4] [] h Q ↔ zEv sc 71 44 [.ref a, l1, l2, l3, l4] [.ref a] h Q := zE_pure (q := (44, [.ref a, l1, l2, l3, l4], [.ref a])) dz71_43 rfl rfl rfl
theorem dz71_44 : decode (z_code 71) 44 = .ok (.iconst 1, 1) := by decide +kernel
theorem u71_44 : zEv sc 71 44 [l0, l1, l2, l3, l4] [t0] h Q ↔ zEv sc 71 45 [l0, l1, l2, l3, l4] [.int 1, t0] h Q := zE_iconst dz71_44 (by decide +kernel)
theorem dz71_45 : decode (z_code 71) 45 = .ok (.invokevirtual 122, 3) := by decide +kernel
theorem u71_45 (ho : zO a 9) : zEv sc 71 45 [l0, l1, l2, l3, l4] [.int z0, .ref a] (zst p iv) Q ↔ zEv sc 62 0 [.ref a, .int z0, .null] [] (zst p iv) (fun r h9 => zEv sc 71 48 [l0, l1, l2, l3, l4] (r.toList ++ []) h9 Q) := zE_call (kd := 0) (na := 2) (nr := 0) (as := [.ref a, .int z0]) (rest := []) (Or.inl ⟨rfl, rfl⟩) dz71_45 (by decide +kernel : z_lk2 zCT (z_cls 71) 122 = some (62, 0, 404)) (fun z => by cases z) rfl rfl rfl (by decide +kernel) rfl rfl (Or.inr (zE_rc ho))
theorem dz71_48 : decode (z_code 71) 48 = .ok (.astore_n 3, 1) := by decide +kernel
theorem u71_48 : zEv sc 71 48 [l0, l1, l2, l3, l4] [.ref a] h Q ↔ zEv sc 71 49 [l0, l1, l2, .ref a, l4] [] h Q := zE_pure (q := (49, [l0, l1, l2, .ref a, l4], [])) dz71_48 rfl rfl rfl
theorem dz71_49 : decode (z_code 71) 49 = .ok (.iconst 0, 1) := by decide +kernel
theorem u71_49 : zEv sc 71 49 [l0, l1, l2, l3, l4] [] h Q ↔ zEv sc 71 50 [l0, l1, l2, l3, l4] [.int 0] h Q := zE_iconst dz71_49 (by decide +kernel)
theorem dz71_50 : decode (z_code 71) 50 = .ok (.istore 4, 2) := by decide +kernel
theorem u71_50 : zEv sc 71 50 [l0, l1, l2, l3, l4] [.int x] h Q ↔ zEv sc 71 52 [l0, l1, l2, l3, .int x] [] h Q := zE_pure (q := (52, [l0, l1, l2, l3, .int x], [])) dz71_50 rfl rfl rfl
theorem dz71_52 : decode (z_code 71) 52 = .ok (.iload 4, 2) := by decide +kernel
theorem u71_52 : zEv sc 71 52 [l0, l1, l2, l3, .int x] [] h Q ↔ zEv sc 71 54 [l0, l1, l2, l3, .int x] [.int x] h Q := zE_pure (q := (54, [l0, l1, l2, l3, .int x], [.int x])) dz71_52 rfl rfl rfl
theorem dz71_54 : decode (z_code 71) 54 = .ok (.iload_n 1, 1) := by decide +kernel
theorem u71_54 : zEv sc 71 54 [l0, .int x, l2, l3, l4] [t0] h Q ↔ zEv sc 71 55 [l0, .int x, l2, l3, l4] [.int x, t0] h Q := zE_pure (q := (55, [l0, .int x, l2, l3, l4], [.int x, t0])) dz71_54 rfl rfl rfl
theorem dz71_55 : decode (z_code 71) 55 = .ok (.if_icmp .ge 21, 3) := by decide +kernel
theorem u71_55 : zEv sc 71 55 [l0, l1, l2, l3, l4] [.int x2, .int x1] h Q ↔ (if x2 ≤ x1 then zEv sc 71 76 [l0, l1, l2, l3, l4] [] h Q else zEv sc 71 58 [l0, l1, l2, l3, l4] [] h Q) := zE_icP (P := x2 ≤ x1) inferInstance 76 dz71_55 rfl rfl
theorem dz71_58 : decode (z_code 71) 58 = .ok (.aload_n 0, 1) := by decide +kernel
theorem u71_58 : zEv sc 71 58 [.ref a, l1, l2, l3, l4] [] h Q ↔ zEv sc 71 59 [.ref a, l1, l2, l3, l4] [.ref a] h Q := zE_pure (q := (59, [.ref a, l1, l2, l3, l4], [.ref a])) dz71_58 rfl rfl rfl
theorem dz71_59 : decode (z_code 71) 59 = .ok (.aload_n 2, 1) := by decide +kernel
theorem u71_59 : zEv sc 71 59 [l0, l1, .ref a, l3, l4] [t0] h Q ↔ zEv sc 71 60 [l0, l1, .ref a, l3, l4] [.ref a, t0] h Q := zE_pure (q := (60, [l0, l1, .ref a, l3, l4], [.ref a, t0])) dz71_59 rfl rfl rfl
theorem dz71_60 : decode (z_code 71) 60 = .ok (.aload_n 3, 1) := by decide +kernel
theorem u71_60 : zEv sc 71 60 [l0, l1, l2, .ref a, l4] [t0, t1] h Q ↔ zEv sc 71 61 [l0, l1, l2, .ref a, l4] [.ref a, t0, t1] h Q := zE_pure (q := (61, [l0, l1, l2, .ref a, l4], [.ref a, t0, t1])) dz71_60 rfl rfl rfl
theorem dz71_61 : decode (z_code 71) 61 = .ok (.invokevirtual 166, 3) := by decide +kernel
theorem u71_61 (ho : zO a 9) : zEv sc 71 61 [l0, l1, l2, l3, l4] [.ref b1, .ref b0, .ref a] (zst p iv) Q ↔ zEv sc 69 0 [.ref a, .ref b0, .ref b1] [] (zst p iv) (fun r h9 => zEv sc 71 64 [l0, l1, l2, l3, l4] (r.toList ++ []) h9 Q) := zE_call (kd := 0) (na := 3) (nr := 0) (as := [.ref a, .ref b0, .ref b1]) (rest := []) (Or.inl ⟨rfl, rfl⟩) dz71_61 (by decide +kernel : z_lk2 zCT (z_cls 71) 166 = some (69, 0, 519)) (fun z => by cases z) rfl rfl rfl (by decide +kernel) rfl rfl (Or.inr (zE_rc ho))
theorem dz71_64 : decode (z_code 71) 64 = .ok (.ifCond .ne 6, 3) := by decide +kernel
theorem u71_64 : zEv sc 71 64 [l0, l1, l2, l3, l4] [.int x] h Q ↔ (if ¬ x = 0 then zEv sc 71 70 [l0, l1, l2, l3, l4] [] h Q else zEv sc 71 67 [l0, l1, l2, l3, l4] [] h Q) := zE_ifP (P := ¬ x = 0) inferInstance 70 dz71_64 rfl rfl
theorem dz71_67 : decode (z_code 71) 67 = .ok (.ldc 146, 2) := by decide +kernel
theorem u71_67 : zEv sc 71 67 [l0, l1, l2, l3, l4] [] h Q ↔ zEv sc 71 69 [l0, l1, l2, l3, l4] [.int (-1000003)] h Q := zE_ldc (by decide +kernel : z_lkK zKT (z_cls 71) 146 = some ((-1000003), 486)) dz71_67
theorem dz71_69 : decode (z_code 71) 69 = .ok (.ireturn, 1) := by decide +kernel
theorem u71_69 : zEv sc 71 69 [l0, l1, l2, l3, l4] [.int x] h Q ↔ Q (some (.int x)) h := zE_ri dz71_69 (by decide +kernel)
theorem dz71_70 : decode (z_code 71) 70 = .ok (.iinc 4 1, 3) := by decide +kernel
theorem u71_70 : zEv sc 71 70 [l0, l1, l2, l3, .int x] [] h Q ↔ zEv sc 71 73 [l0, l1, l2, l3, .int (x + 1)] [] h Q := zE_iinc (ls2 := [l0, l1, l2, l3, .int (x + 1)]) dz71_70 (by decide +kernel) rfl (by simp) rfl
theorem dz71_73 : decode (z_code 71) 73 = .ok (.goto (-21), 3) := by decide +kernel
theorem u71_73 : zEv sc 71 73 [l0, l1, l2, l3, l4] [] h Q ↔ zEv sc 71 52 [l0, l1, l2, l3, l4] [] h Q := zE_go 52 dz71_73 rfl
theorem dz71_76 : decode (z_code 71) 76 = .ok (.aload_n 0, 1) := by decide +kernel
theorem u71_76 : zEv sc 71 76 [.ref a, l1, l2, l3, l4] [] h Q ↔ zEv sc 71 77 [.ref a, l1, l2, l3, l4] [.ref a] h Q := zE_pure (q := (77, [.ref a, l1, l2, l3, l4], [.ref a])) dz71_76 rfl rfl rfl
theorem dz71_77 : decode (z_code 71) 77 = .ok (.invokevirtual 170, 3) := by decide +kernel
theorem u71_77 (ho : zO a 9) : zEv sc 71 77 [l0, l1, l2, l3, l4] [.ref a] (zst p iv) Q ↔ zEv sc 70 0 [.ref a] [] (zst p iv) (fun r h9 => zEv sc 71 80 [l0, l1, l2, l3, l4] (r.toList ++ []) h9 Q) := zE_call (kd := 0) (na := 1) (nr := 0) (as := [.ref a]) (rest := []) (Or.inl ⟨rfl, rfl⟩) dz71_77 (by decide +kernel : z_lk2 zCT (z_cls 71) 170 = some (70, 0, 534)) (fun z => by cases z) rfl rfl rfl (by decide +kernel) rfl rfl (Or.inr (zE_rc ho))
theorem dz71_80 : decode (z_code 71) 80 = .ok (.aload_n 0, 1) := by decide +kernel
theorem u71_80 : zEv sc 71 80 [.ref a, l1, l2, l3, l4] [] h Q ↔ zEv sc 71 81 [.ref a, l1, l2, l3, l4] [.ref a] h Q := zE_pure (q := (81, [.ref a, l1, l2, l3, l4], [.ref a])) dz71_80 rfl rfl rfl
theorem dz71_81 : decode (z_code 71) 81 = .ok (.getfield 10, 3) := by decide +kernel
theorem u71_81 (ho : zO a 9) : zEv sc 71 81 [l0, l1, l2, l3, l4] [.ref a] (zst p iv) Q ↔ zRef (zRV p a 0) (fun j => zEv sc 71 84 [l0, l1, l2, l3, l4] [.ref j] (zst p iv) Q) := zE_gfR dz71_81 (by decide +kernel : z_lk3 zFT (z_cls 71) 10 = some (9, 0, 0, 269)) (by decide +kernel) ho
theorem dz71_84 : decode (z_code 71) 84 = .ok (.invokevirtual 173, 3) := by decide +kernel
theorem u71_84 (ho : zO a 2) : zEv sc 71 84 [l0, l1, l2, l3, l4] [.ref a] (zst p iv) Q ↔ zEv sc 19 0 [.ref a] [] (zst p iv) (fun r h9 => zEv sc 71 87 [l0, l1, l2, l3, l4] (r.toList ++ []) h9 Q) := zE_call (kd := 0) (na := 1) (nr := 0) (as := [.ref a]) (rest := []) (Or.inl ⟨rfl, rfl⟩) dz71_84 (by decide +kernel : z_lk2 zCT (z_cls 71) 173 = some (19, 1, 538)) (fun z => by cases z) rfl rfl rfl (by decide +kernel) rfl rfl (Or.inr (zE_rc ho))
theorem dz71_87 : decode (z_code 71) 87 = .ok (.ireturn, 1) := by decide +kernel
theorem u71_87 : zEv sc 71 87 [l0, l1, l2, l3, l4] [.int x] h Q ↔ Q (some (.int x)) h := zE_ri dz71_87 (by decide +kernel)
/-! method 72: FieldMixtures.commonDivisor(II)I -/
theorem dz72_0 : decode (z_code 72) 0 = .ok (.iload_n 0, 1) := by decide +kernel
theorem u72_0 : zEv sc 72 0 [.int x, l1, l2, l3, l4, l5] [] h Q ↔ zEv sc 72 1 [.int x, l1, l2, l3, l4, l5] [.int x] h Q := zE_pure (q := (1, [.int x, l1, l2, l3, l4, l5], [.int x])) dz72_0 rfl rfl rfl
theorem dz72_1 : decode (z_code 72) 1 = .ok (.istore_n 2, 1) := by decide +kernel
theorem u72_1 : zEv sc 72 1 [l0, l1, l2, l3, l4, l5] [.int x] h Q ↔ zEv sc 72 2 [l0, l1, .int x, l3, l4, l5] [] h Q := zE_pure (q := (2, [l0, l1, .int x, l3, l4, l5], [])) dz72_1 rfl rfl rfl
theorem dz72_2 : decode (z_code 72) 2 = .ok (.iload_n 1, 1) := by decide +kernel
theorem u72_2 : zEv sc 72 2 [l0, .int x, l2, l3, l4, l5] [] h Q ↔ zEv sc 72 3 [l0, .int x, l2, l3, l4, l5] [.int x] h Q := zE_pure (q := (3, [l0, .int x, l2, l3, l4, l5], [.int x])) dz72_2 rfl rfl rfl
theorem dz72_3 : decode (z_code 72) 3 = .ok (.istore_n 3, 1) := by decide +kernel
theorem u72_3 : zEv sc 72 3 [l0, l1, l2, l3, l4, l5] [.int x] h Q ↔ zEv sc 72 4 [l0, l1, l2, .int x, l4, l5] [] h Q := zE_pure (q := (4, [l0, l1, l2, .int x, l4, l5], [])) dz72_3 rfl rfl rfl
theorem dz72_4 : decode (z_code 72) 4 = .ok (.iconst 0, 1) := by decide +kernel
theorem u72_4 : zEv sc 72 4 [l0, l1, l2, l3, l4, l5] [] h Q ↔ zEv sc 72 5 [l0, l1, l2, l3, l4, l5] [.int 0] h Q := zE_iconst dz72_4 (by decide +kernel)
theorem dz72_5 : decode (z_code 72) 5 = .ok (.istore 4, 2) := by decide +kernel
theorem u72_5 : zEv sc 72 5 [l0, l1, l2, l3, l4, l5] [.int x] h Q ↔ zEv sc 72 7 [l0, l1, l2, l3, .int x, l5] [] h Q := zE_pure (q := (7, [l0, l1, l2, l3, .int x, l5], [])) dz72_5 rfl rfl rfl
theorem dz72_7 : decode (z_code 72) 7 = .ok (.iload 4, 2) := by decide +kernel
theorem u72_7 : zEv sc 72 7 [l0, l1, l2, l3, .int x, l5] [] h Q ↔ zEv sc 72 9 [l0, l1, l2, l3, .int x, l5] [.int x] h Q := zE_pure (q := (9, [l0, l1, l2, l3, .int x, l5], [.int x])) dz72_7 rfl rfl rfl
theorem dz72_9 : decode (z_code 72) 9 = .ok (.bipush 64, 2) := by decide +kernel
theorem u72_9 : zEv sc 72 9 [l0, l1, l2, l3, l4, l5] [t0] h Q ↔ zEv sc 72 11 [l0, l1, l2, l3, l4, l5] [.int 64, t0] h Q := zE_bipush dz72_9 (by decide +kernel)
theorem dz72_11 : decode (z_code 72) 11 = .ok (.if_icmp .ge 23, 3) := by decide +kernel
theorem u72_11 : zEv sc 72 11 [l0, l1, l2, l3, l4, l5] [.int x2, .int x1] h Q ↔ (if x2 ≤ x1 then zEv sc 72 34 [l0, l1, l2, l3, l4, l5] [] h Q else zEv sc 72 14 [l0, l1, l2, l3, l4, l5] [] h Q) := zE_icP (P := x2 ≤ x1) inferInstance 34 dz72_11 rfl rfl
theorem dz72_14 : decode (z_code 72) 14 = .ok (.iload_n 3, 1) := by decide +kernel
theorem u72_14 : zEv sc 72 14 [l0, l1, l2, .int x, l4, l5] [] h Q ↔ zEv sc 72 15 [l0, l1, l2, .int x, l4, l5] [.int x] h Q := zE_pure (q := (15, [l0, l1, l2, .int x, l4, l5], [.int x])) dz72_14 rfl rfl rfl
theorem dz72_15 : decode (z_code 72) 15 = .ok (.ifCond .le 19, 3) := by decide +kernel
theorem u72_15 : zEv sc 72 15 [l0, l1, l2, l3, l4, l5] [.int x] h Q ↔ (if x ≤ 0 then zEv sc 72 34 [l0, l1, l2, l3, l4, l5] [] h Q else zEv sc 72 18 [l0, l1, l2, l3, l4, l5] [] h Q) := zE_ifP (P := x ≤ 0) inferInstance 34 dz72_15 rfl rfl
theorem dz72_18 : decode (z_code 72) 18 = .ok (.iload_n 2, 1) := by decide +kernel
theorem u72_18 : zEv sc 72 18 [l0, l1, .int x, l3, l4, l5] [] h Q ↔ zEv sc 72 19 [l0, l1, .int x, l3, l4, l5] [.int x] h Q := zE_pure (q := (19, [l0, l1, .int x, l3, l4, l5], [.int x])) dz72_18 rfl rfl rfl
theorem dz72_19 : decode (z_code 72) 19 = .ok (.iload_n 3, 1) := by decide +kernel
theorem u72_19 : zEv sc 72 19 [l0, l1, l2, .int x, l4, l5] [t0] h Q ↔ zEv sc 72 20 [l0, l1, l2, .int x, l4, l5] [.int x, t0] h Q := zE_pure (q := (20, [l0, l1, l2, .int x, l4, l5], [.int x, t0])) dz72_19 rfl rfl rfl
theorem dz72_20 : decode (z_code 72) 20 = .ok (.irem, 1) := by decide +kernel
theorem u72_20 : zEv sc 72 20 [l0, l1, l2, l3, l4, l5] [.int x2, .int x1] h Q ↔ (¬ x2 = 0 ∧ zEv sc 72 21 [l0, l1, l2, l3, l4, l5] [.int (x1 - x1 / x2 * x2)] h Q) := zE_rem dz72_20
theorem dz72_21 : decode (z_code 72) 21 = .ok (.istore 5, 2) := by decide +kernel
theorem u72_21 : zEv sc 72 21 [l0, l1, l2, l3, l4, l5] [.int x] h Q ↔ zEv sc 72 23 [l0, l1, l2, l3, l4, .int x] [] h Q := zE_pure (q := (23, [l0, l1, l2, l3, l4, .int x], [])) dz72_21 rfl rfl rfl
theorem dz72_23 : decode (z_code 72) 23 = .ok (.iload_n 3, 1) := by decide +kernel
theorem u72_23 : zEv sc 72 23 [l0, l1, l2, .int x, l4, l5] [] h Q ↔ zEv sc 72 24 [l0, l1, l2, .int x, l4, l5] [.int x] h Q := zE_pure (q := (24, [l0, l1, l2, .int x, l4, l5], [.int x])) dz72_23 rfl rfl rfl
theorem dz72_24 : decode (z_code 72) 24 = .ok (.istore_n 2, 1) := by decide +kernel
theorem u72_24 : zEv sc 72 24 [l0, l1, l2, l3, l4, l5] [.int x] h Q ↔ zEv sc 72 25 [l0, l1, .int x, l3, l4, l5] [] h Q := zE_pure (q := (25, [l0, l1, .int x, l3, l4, l5], [])) dz72_24 rfl rfl rfl
theorem dz72_25 : decode (z_code 72) 25 = .ok (.iload 5, 2) := by decide +kernel
theorem u72_25 : zEv sc 72 25 [l0, l1, l2, l3, l4, .int x] [] h Q ↔ zEv sc 72 27 [l0, l1, l2, l3, l4, .int x] [.int x] h Q := zE_pure (q := (27, [l0, l1, l2, l3, l4, .int x], [.int x])) dz72_25 rfl rfl rfl
theorem dz72_27 : decode (z_code 72) 27 = .ok (.istore_n 3, 1) := by decide +kernel
theorem u72_27 : zEv sc 72 27 [l0, l1, l2, l3, l4, l5] [.int x] h Q ↔ zEv sc 72 28 [l0, l1, l2, .int x, l4, l5] [] h Q := zE_pure (q := (28, [l0, l1, l2, .int x, l4, l5], [])) dz72_27 rfl rfl rfl
theorem dz72_28 : decode (z_code 72) 28 = .ok (.iinc 4 1, 3) := by decide +kernel
theorem u72_28 : zEv sc 72 28 [l0, l1, l2, l3, .int x, l5] [] h Q ↔ zEv sc 72 31 [l0, l1, l2, l3, .int (x + 1), l5] [] h Q := zE_iinc (ls2 := [l0, l1, l2, l3, .int (x + 1), l5]) dz72_28 (by decide +kernel) rfl (by simp) rfl
theorem dz72_31 : decode (z_code 72) 31 = .ok (.goto (-24), 3) := by decide +kernel
theorem u72_31 : zEv sc 72 31 [l0, l1, l2, l3, l4, l5] [] h Q ↔ zEv sc 72 7 [l0, l1, l2, l3, l4, l5] [] h Q := zE_go 7 dz72_31 rfl
theorem dz72_34 : decode (z_code 72) 34 = .ok (.iload_n 2, 1) := by decide +kernel
theorem u72_34 : zEv sc 72 34 [l0, l1, .int x, l3, l4, l5] [] h Q ↔ zEv sc 72 35 [l0, l1, .int x, l3, l4, l5] [.int x] h Q := zE_pure (q := (35, [l0, l1, .int x, l3, l4, l5], [.int x])) dz72_34 rfl rfl rfl
theorem dz72_35 : decode (z_code 72) 35 = .ok (.iconst 1, 1) := by decide +kernel
theorem u72_35 : zEv sc 72 35 [l0, l1, l2, l3, l4, l5] [t0] h Q ↔ zEv sc 72 36 [l0, l1, l2, l3, l4, l5] [.int 1, t0] h Q := zE_iconst dz72_35 (by decide +kernel)
theorem dz72_36 : decode (z_code 72) 36 = .ok (.invokestatic 260, 3) := by decide +kernel
theorem u72_36 : zEv sc 72 36 [l0, l1, l2, l3, l4, l5] [.int x2, .int x1] h Q ↔ zEv sc 72 39 [l0, l1, l2, l3, l4, l5] [.int (if x1 < x2 then x2 else x1)] h Q := zE_max dz72_36 (by decide +kernel : z_lk1 zXT (z_cls 72) 260 = some (1, 393)) (by decide +kernel) (by decide +kernel)
theorem dz72_39 : decode (z_code 72) 39 = .ok (.ireturn, 1) := by decide +kernel
theorem u72_39 : zEv sc 72 39 [l0, l1, l2, l3, l4, l5] [.int x] h Q ↔ Q (some (.int x)) h := zE_ri dz72_39 (by decide +kernel)
/-! method 73: FieldMixtures.partOf(III)I -/
theorem dz73_0 : decode (z_code 73) 0 = .ok (.iload_n 1, 1) := by decide +kernel
theorem u73_0 : zEv sc 73 0 [l0, .int x, l2, l3] [] h Q ↔ zEv sc 73 1 [l0, .int x, l2, l3] [.int x] h Q := zE_pure (q := (1, [l0, .int x, l2, l3], [.int x])) dz73_0 rfl rfl rfl
theorem dz73_1 : decode (z_code 73) 1 = .ok (.invokestatic 251, 3) := by decide +kernel
theorem u73_1 : zEv sc 73 1 [l0, l1, l2, l3] [.int x] h Q ↔ zEv sc 73 4 [l0, l1, l2, l3] [.int (if 0 ≤ x then x else 0 - x)] h Q := zE_abs dz73_1 (by decide +kernel : z_lk1 zXT (z_cls 73) 251 = some (0, 387)) (by decide +kernel) (by decide +kernel)
theorem dz73_4 : decode (z_code 73) 4 = .ok (.iload_n 2, 1) := by decide +kernel
theorem u73_4 : zEv sc 73 4 [l0, l1, .int x, l3] [t0] h Q ↔ zEv sc 73 5 [l0, l1, .int x, l3] [.int x, t0] h Q := zE_pure (q := (5, [l0, l1, .int x, l3], [.int x, t0])) dz73_4 rfl rfl rfl
theorem dz73_5 : decode (z_code 73) 5 = .ok (.invokestatic 256, 3) := by decide +kernel
theorem u73_5 : zEv sc 73 5 [l0, l1, l2, l3] [.int z1, .int z0] h Q ↔ zEv sc 72 0 [.int z0, .int z1, .null, .null, .null, .null] [] h (fun r h9 => zEv sc 73 8 [l0, l1, l2, l3] (r.toList ++ []) h9 Q) := zE_call (kd := 1) (na := 2) (nr := 0) (as := [.int z0, .int z1]) (rest := []) (Or.inr ⟨rfl, rfl⟩) dz73_5 (by decide +kernel : z_lk2 zCT (z_cls 73) 256 = some (72, 0, 390)) (fun _ => ⟨by decide +kernel, by decide +kernel⟩) rfl rfl rfl (by decide +kernel) rfl rfl (Or.inl rfl)
theorem dz73_8 : decode (z_code 73) 8 = .ok (.istore_n 3, 1) := by decide +kernel
theorem u73_8 : zEv sc 73 8 [l0, l1, l2, l3] [.int x] h Q ↔ zEv sc 73 9 [l0, l1, l2, .int x] [] h Q := zE_pure (q := (9, [l0, l1, l2, .int x], [])) dz73_8 rfl rfl rfl
theorem dz73_9 : decode (z_code 73) 9 = .ok (.iload_n 0, 1) := by decide +kernel
theorem u73_9 : zEv sc 73 9 [.int x, l1, l2, l3] [] h Q ↔ zEv sc 73 10 [.int x, l1, l2, l3] [.int x] h Q := zE_pure (q := (10, [.int x, l1, l2, l3], [.int x])) dz73_9 rfl rfl rfl
theorem dz73_10 : decode (z_code 73) 10 = .ok (.ifCond .ne 13, 3) := by decide +kernel
theorem u73_10 : zEv sc 73 10 [l0, l1, l2, l3] [.int x] h Q ↔ (if ¬ x = 0 then zEv sc 73 23 [l0, l1, l2, l3] [] h Q else zEv sc 73 13 [l0, l1, l2, l3] [] h Q) := zE_ifP (P := ¬ x = 0) inferInstance 23 dz73_10 rfl rfl
theorem dz73_13 : decode (z_code 73) 13 = .ok (.ldc_w 259, 3) := by decide +kernel
theorem u73_13 : zEv sc 73 13 [l0, l1, l2, l3] [] h Q ↔ zEv sc 73 16 [l0, l1, l2, l3] [.int 100000000] h Q := zE_ldc_w (by decide +kernel : z_lkK zKT (z_cls 73) 259 = some (100000000, 396)) dz73_13
theorem dz73_16 : decode (z_code 73) 16 = .ok (.iload_n 1, 1) := by decide +kernel
theorem u73_16 : zEv sc 73 16 [l0, .int x, l2, l3] [t0] h Q ↔ zEv sc 73 17 [l0, .int x, l2, l3] [.int x, t0] h Q := zE_pure (q := (17, [l0, .int x, l2, l3], [.int x, t0])) dz73_16 rfl rfl rfl
theorem dz73_17 : decode (z_code 73) 17 = .ok (.iload_n 3, 1) := by decide +kernel
theorem u73_17 : zEv sc 73 17 [l0, l1, l2, .int x] [t0, t1] h Q ↔ zEv sc 73 18 [l0, l1, l2, .int x] [.int x, t0, t1] h Q := zE_pure (q := (18, [l0, l1, l2, .int x], [.int x, t0, t1])) dz73_17 rfl rfl rfl
theorem dz73_18 : decode (z_code 73) 18 = .ok (.idiv, 1) := by decide +kernel
theorem u73_18 : zEv sc 73 18 [l0, l1, l2, l3] [.int x2, .int x1, t0] h Q ↔ (¬ x2 = 0 ∧ zEv sc 73 19 [l0, l1, l2, l3] [.int (x1 / x2), t0] h Q) := zE_div dz73_18
theorem dz73_19 : decode (z_code 73) 19 = .ok (.iadd, 1) := by decide +kernel
theorem u73_19 : zEv sc 73 19 [l0, l1, l2, l3] [.int x2, .int x1] h Q ↔ zEv sc 73 20 [l0, l1, l2, l3] [.int (x1 + x2)] h Q := zE_pure (q := (20, [l0, l1, l2, l3], [.int (x1 + x2)])) dz73_19 rfl rfl rfl
theorem dz73_20 : decode (z_code 73) 20 = .ok (.goto 6, 3) := by decide +kernel
theorem u73_20 : zEv sc 73 20 [l0, l1, l2, l3] [t0] h Q ↔ zEv sc 73 26 [l0, l1, l2, l3] [t0] h Q := zE_go 26 dz73_20 rfl
theorem dz73_26 : decode (z_code 73) 26 = .ok (.ireturn, 1) := by decide +kernel
theorem u73_26 : zEv sc 73 26 [l0, l1, l2, l3] [.int x] h Q ↔ Q (some (.int x)) h := zE_ri dz73_26 (by decide +kernel)
theorem dz73_23 : decode (z_code 73) 23 = .ok (.iload_n 2, 1) := by decide +kernel
theorem u73_23 : zEv sc 73 23 [l0, l1, .int x, l3] [] h Q ↔ zEv sc 73 24 [l0, l1, .int x, l3] [.int x] h Q := zE_pure (q := (24, [l0, l1, .int x, l3], [.int x])) dz73_23 rfl rfl rfl
theorem dz73_24 : decode (z_code 73) 24 = .ok (.iload_n 3, 1) := by decide +kernel
theorem u73_24 : zEv sc 73 24 [l0, l1, l2, .int x] [t0] h Q ↔ zEv sc 73 25 [l0, l1, l2, .int x] [.int x, t0] h Q := zE_pure (q := (25, [l0, l1, l2, .int x], [.int x, t0])) dz73_24 rfl rfl rfl
theorem dz73_25 : decode (z_code 73) 25 = .ok (.idiv, 1) := by decide +kernel
theorem u73_25 : zEv sc 73 25 [l0, l1, l2, l3] [.int x2, .int x1] h Q ↔ (¬ x2 = 0 ∧ zEv sc 73 26 [l0, l1, l2, l3] [.int (x1 / x2)] h Q) := zE_div dz73_25
/-! method 74: FieldMixtures.mixtureOf(III)I -/
theorem dz74_0 : decode (z_code 74) 0 = .ok (.iload_n 1, 1) := by decide +kernel
theorem u74_0 : zEv sc 74 0 [l0, .int x, l2, l3, l4] [] h Q ↔ zEv sc 74 1 [l0, .int x, l2, l3, l4] [.int x] h Q := zE_pure (q := (1, [l0, .int x, l2, l3, l4], [.int x])) dz74_0 rfl rfl rfl
theorem dz74_1 : decode (z_code 74) 1 = .ok (.invokestatic 92, 3) := by decide +kernel
theorem u74_1 : zEv sc 74 1 [l0, l1, l2, l3, l4] [.int z0] h Q ↔ zEv sc 47 0 [.int z0] [] h (fun r h9 => zEv sc 74 4 [l0, l1, l2, l3, l4] (r.toList ++ []) h9 Q) := zE_call (kd := 1) (na := 1) (nr := 0) (as := [.int z0]) (rest := []) (Or.inr ⟨rfl, rfl⟩) dz74_1 (by decide +kernel : z_lk2 zCT (z_cls 74) 92 = some (47, 0, 359)) (fun _ => ⟨by decide +kernel, by decide +kernel⟩) rfl rfl rfl (by decide +kernel) rfl rfl (Or.inl rfl)
theorem dz74_4 : decode (z_code 74) 4 = .ok (.ifCond .eq 16, 3) := by decide +kernel
theorem u74_4 : zEv sc 74 4 [l0, l1, l2, l3, l4] [.int x] h Q ↔ (if x = 0 then zEv sc 74 20 [l0, l1, l2, l3, l4] [] h Q else zEv sc 74 7 [l0, l1, l2, l3, l4] [] h Q) := zE_ifP (P := x = 0) inferInstance 20 dz74_4 rfl rfl
theorem dz74_7 : decode (z_code 74) 7 = .ok (.iload_n 2, 1) := by decide +kernel
theorem u74_7 : zEv sc 74 7 [l0, l1, .int x, l3, l4] [] h Q ↔ zEv sc 74 8 [l0, l1, .int x, l3, l4] [.int x] h Q := zE_pure (q := (8, [l0, l1, .int x, l3, l4], [.int x])) dz74_7 rfl rfl rfl
theorem dz74_8 : decode (z_code 74) 8 = .ok (.ifCond .lt 12, 3) := by decide +kernel
theorem u74_8 : zEv sc 74 8 [l0, l1, l2, l3, l4] [.int x] h Q ↔ (if x < 0 then zEv sc 74 20 [l0, l1, l2, l3, l4] [] h Q else zEv sc 74 11 [l0, l1, l2, l3, l4] [] h Q) := zE_ifP (P := x < 0) inferInstance 20 dz74_8 rfl rfl
theorem dz74_11 : decode (z_code 74) 11 = .ok (.iload_n 3, 1) := by decide +kernel
theorem u74_11 : zEv sc 74 11 [l0, l1, l2, .int x, l4] [] h Q ↔ zEv sc 74 12 [l0, l1, l2, .int x, l4] [.int x] h Q := zE_pure (q := (12, [l0, l1, l2, .int x, l4], [.int x])) dz74_11 rfl rfl rfl
theorem dz74_12 : decode (z_code 74) 12 = .ok (.iconst 0, 1) := by decide +kernel
theorem u74_12 : zEv sc 74 12 [l0, l1, l2, l3, l4] [t0] h Q ↔ zEv sc 74 13 [l0, l1, l2, l3, l4] [.int 0, t0] h Q := zE_iconst dz74_12 (by decide +kernel)
theorem dz74_13 : decode (z_code 74) 13 = .ok (.iconst 3, 1) := by decide +kernel
theorem u74_13 : zEv sc 74 13 [l0, l1, l2, l3, l4] [t0, t1] h Q ↔ zEv sc 74 14 [l0, l1, l2, l3, l4] [.int 3, t0, t1] h Q := zE_iconst dz74_13 (by decide +kernel)
theorem dz74_14 : decode (z_code 74) 14 = .ok (.invokestatic 67, 3) := by decide +kernel
theorem u74_14 : zEv sc 74 14 [l0, l1, l2, l3, l4] [.int z2, .int z1, .int z0] h Q ↔ zEv sc 15 0 [.int z0, .int z1, .int z2] [] h (fun r h9 => zEv sc 74 17 [l0, l1, l2, l3, l4] (r.toList ++ []) h9 Q) := zE_call (kd := 1) (na := 3) (nr := 0) (as := [.int z0, .int z1, .int z2]) (rest := []) (Or.inr ⟨rfl, rfl⟩) dz74_14 (by decide +kernel : z_lk2 zCT (z_cls 74) 67 = some (15, 0, 304)) (fun _ => ⟨by decide +kernel, by decide +kernel⟩) rfl rfl rfl (by decide +kernel) rfl rfl (Or.inl rfl)
theorem dz74_17 : decode (z_code 74) 17 = .ok (.ifCond .ne 6, 3) := by decide +kernel
theorem u74_17 : zEv sc 74 17 [l0, l1, l2, l3, l4] [.int x] h Q ↔ (if ¬ x = 0 then zEv sc 74 23 [l0, l1, l2, l3, l4] [] h Q else zEv sc 74 20 [l0, l1, l2, l3, l4] [] h Q) := zE_ifP (P := ¬ x = 0) inferInstance 23 dz74_17 rfl rfl
theorem dz74_23 : decode (z_code 74) 23 = .ok (.aload_n 0, 1) := by decide +kernel
theorem u74_23 : zEv sc 74 23 [.ref a, l1, l2, l3, l4] [] h Q ↔ zEv sc 74 24 [.ref a, l1, l2, l3, l4] [.ref a] h Q := zE_pure (q := (24, [.ref a, l1, l2, l3, l4], [.ref a])) dz74_23 rfl rfl rfl
theorem dz74_24 : decode (z_code 74) 24 = .ok (.getfield 10, 3) := by decide +kernel
theorem u74_24 (ho : zO a 9) : zEv sc 74 24 [l0, l1, l2, l3, l4] [.ref a] (zst p iv) Q ↔ zRef (zRV p a 0) (fun j => zEv sc 74 27 [l0, l1, l2, l3, l4] [.ref j] (zst p iv) Q) := zE_gfR dz74_24 (by decide +kernel : z_lk3 zFT (z_cls 74) 10 = some (9, 0, 0, 269)) (by decide +kernel) ho
theorem dz74_27 : decode (z_code 74) 27 = .ok (.iload_n 1, 1) := by decide +kernel
theorem u74_27 : zEv sc 74 27 [l0, .int x, l2, l3, l4] [t0] h Q ↔ zEv sc 74 28 [l0, .int x, l2, l3, l4] [.int x, t0] h Q := zE_pure (q := (28, [l0, .int x, l2, l3, l4], [.int x, t0])) dz74_27 rfl rfl rfl
theorem dz74_28 : decode (z_code 74) 28 = .ok (.invokevirtual 95, 3) := by decide +kernel
theorem u74_28 (ho : zO a 2) : zEv sc 74 28 [l0, l1, l2, l3, l4] [.int z0, .ref a] (zst p iv) Q ↔ zEv sc 14 0 [.ref a, .int z0] [] (zst p iv) (fun r h9 => zEv sc 74 31 [l0, l1, l2, l3, l4] (r.toList ++ []) h9 Q) := zE_call (kd := 0) (na := 2) (nr := 0) (as := [.ref a, .int z0]) (rest := []) (Or.inl ⟨rfl, rfl⟩) dz74_28 (by decide +kernel : z_lk2 zCT (z_cls 74) 95 = some (14, 1, 307)) (fun z => by cases z) rfl rfl rfl (by decide +kernel) rfl rfl (Or.inr (zE_rc ho))
theorem dz74_31 : decode (z_code 74) 31 = .ok (.getfield 107, 3) := by decide +kernel
theorem u74_31 (ho : zO a 6) : zEv sc 74 31 [l0, l1, l2, l3, l4] [.ref a] (zst p iv) Q ↔ zRef (zRV p a 2) (fun j => zEv sc 74 34 [l0, l1, l2, l3, l4] [.ref j] (zst p iv) Q) := zE_gfR dz74_31 (by decide +kernel : z_lk3 zFT (z_cls 74) 107 = some (6, 2, 1, 114)) (by decide +kernel) ho
theorem dz74_34 : decode (z_code 74) 34 = .ok (.astore 4, 2) := by decide +kernel
theorem u74_34 : zEv sc 74 34 [l0, l1, l2, l3, l4] [.ref a] h Q ↔ zEv sc 74 36 [l0, l1, l2, l3, .ref a] [] h Q := zE_pure (q := (36, [l0, l1, l2, l3, .ref a], [])) dz74_34 rfl rfl rfl
theorem dz74_36 : decode (z_code 74) 36 = .ok (.iload_n 3, 1) := by decide +kernel
theorem u74_36 : zEv sc 74 36 [l0, l1, l2, .int x, l4] [] h Q ↔ zEv sc 74 37 [l0, l1, l2, .int x, l4] [.int x] h Q := zE_pure (q := (37, [l0, l1, l2, .int x, l4], [.int x])) dz74_36 rfl rfl rfl
theorem dz74_37 : decode (z_code 74) 37 = .ok (.iconst 2, 1) := by decide +kernel
theorem u74_37 : zEv sc 74 37 [l0, l1, l2, l3, l4] [t0] h Q ↔ zEv sc 74 38 [l0, l1, l2, l3, l4] [.int 2, t0] h Q := zE_iconst dz74_37 (by decide +kernel)
theorem dz74_38 : decode (z_code 74) 38 = .ok (.if_icmp .lt 25, 3) := by decide +kernel
theorem u74_38 : zEv sc 74 38 [l0, l1, l2, l3, l4] [.int x2, .int x1] h Q ↔ (if x1 < x2 then zEv sc 74 63 [l0, l1, l2, l3, l4] [] h Q else zEv sc 74 41 [l0, l1, l2, l3, l4] [] h Q) := zE_icP (P := x1 < x2) inferInstance 63 dz74_38 rfl rfl
theorem dz74_41 : decode (z_code 74) 41 = .ok (.aload_n 0, 1) := by decide +kernel
theorem u74_41 : zEv sc 74 41 [.ref a, l1, l2, l3, l4] [] h Q ↔ zEv sc 74 42 [.ref a, l1, l2, l3, l4] [.ref a] h Q := zE_pure (q := (42, [.ref a, l1, l2, l3, l4], [.ref a])) dz74_41 rfl rfl rfl
theorem dz74_42 : decode (z_code 74) 42 = .ok (.getfield 10, 3) := by decide +kernel
theorem u74_42 (ho : zO a 9) : zEv sc 74 42 [l0, l1, l2, l3, l4] [.ref a] (zst p iv) Q ↔ zRef (zRV p a 0) (fun j => zEv sc 74 45 [l0, l1, l2, l3, l4] [.ref j] (zst p iv) Q) := zE_gfR dz74_42 (by decide +kernel : z_lk3 zFT (z_cls 74) 10 = some (9, 0, 0, 269)) (by decide +kernel) ho
theorem dz74_45 : decode (z_code 74) 45 = .ok (.iconst 1, 1) := by decide +kernel
theorem u74_45 : zEv sc 74 45 [l0, l1, l2, l3, l4] [t0] h Q ↔ zEv sc 74 46 [l0, l1, l2, l3, l4] [.int 1, t0] h Q := zE_iconst dz74_45 (by decide +kernel)
theorem dz74_46 : decode (z_code 74) 46 = .ok (.iload_n 1, 1) := by decide +kernel
theorem u74_46 : zEv sc 74 46 [l0, .int x, l2, l3, l4] [t0, t1] h Q ↔ zEv sc 74 47 [l0, .int x, l2, l3, l4] [.int x, t0, t1] h Q := zE_pure (q := (47, [l0, .int x, l2, l3, l4], [.int x, t0, t1])) dz74_46 rfl rfl rfl
theorem dz74_47 : decode (z_code 74) 47 = .ok (.isub, 1) := by decide +kernel
theorem u74_47 : zEv sc 74 47 [l0, l1, l2, l3, l4] [.int x2, .int x1, t0] h Q ↔ zEv sc 74 48 [l0, l1, l2, l3, l4] [.int (x1 - x2), t0] h Q := zE_pure (q := (48, [l0, l1, l2, l3, l4], [.int (x1 - x2), t0])) dz74_47 rfl rfl rfl
theorem dz74_48 : decode (z_code 74) 48 = .ok (.invokevirtual 95, 3) := by decide +kernel
theorem u74_48 (ho : zO a 2) : zEv sc 74 48 [l0, l1, l2, l3, l4] [.int z0, .ref a] (zst p iv) Q ↔ zEv sc 14 0 [.ref a, .int z0] [] (zst p iv) (fun r h9 => zEv sc 74 51 [l0, l1, l2, l3, l4] (r.toList ++ []) h9 Q) := zE_call (kd := 0) (na := 2) (nr := 0) (as := [.ref a, .int z0]) (rest := []) (Or.inl ⟨rfl, rfl⟩) dz74_48 (by decide +kernel : z_lk2 zCT (z_cls 74) 95 = some (14, 1, 307)) (fun z => by cases z) rfl rfl rfl (by decide +kernel) rfl rfl (Or.inr (zE_rc ho))
theorem dz74_51 : decode (z_code 74) 51 = .ok (.getfield 107, 3) := by decide +kernel
theorem u74_51 (ho : zO a 6) : zEv sc 74 51 [l0, l1, l2, l3, l4] [.ref a] (zst p iv) Q ↔ zRef (zRV p a 2) (fun j => zEv sc 74 54 [l0, l1, l2, l3, l4] [.ref j] (zst p iv) Q) := zE_gfR dz74_51 (by decide +kernel : z_lk3 zFT (z_cls 74) 107 = some (6, 2, 1, 114)) (by decide +kernel) ho
theorem dz74_54 : decode (z_code 74) 54 = .ok (.getfield 111, 3) := by decide +kernel
theorem u74_54 (ho : zO a 4) : zEv sc 74 54 [l0, l1, l2, l3, l4] [.ref a] (zst p iv) Q ↔ zEv sc 74 57 [l0, l1, l2, l3, l4] [.int (iv a 0)] (zst p iv) Q := zE_gfI dz74_54 (by decide +kernel : z_lk3 zFT (z_cls 74) 111 = some (4, 0, 1, 88)) (by decide +kernel) ho
theorem dz74_57 : decode (z_code 74) 57 = .ok (.ifCond .ne 6, 3) := by decide +kernel
theorem u74_57 : zEv sc 74 57 [l0, l1, l2, l3, l4] [.int x] h Q ↔ (if ¬ x = 0 then zEv sc 74 63 [l0, l1, l2, l3, l4] [] h Q else zEv sc 74 60 [l0, l1, l2, l3, l4] [] h Q) := zE_ifP (P := ¬ x = 0) inferInstance 63 dz74_57 rfl rfl
theorem dz74_60 : decode (z_code 74) 60 = .ok (.ldc 155, 2) := by decide +kernel
theorem u74_60 : zEv sc 74 60 [l0, l1, l2, l3, l4] [] h Q ↔ zEv sc 74 62 [l0, l1, l2, l3, l4] [.int (-1000002)] h Q := zE_ldc (by decide +kernel : z_lkK zKT (z_cls 74) 155 = some ((-1000002), 324)) dz74_60
theorem dz74_62 : decode (z_code 74) 62 = .ok (.ireturn, 1) := by decide +kernel
theorem u74_62 : zEv sc 74 62 [l0, l1, l2, l3, l4] [.int x] h Q ↔ Q (some (.int x)) h := zE_ri dz74_62 (by decide +kernel)
theorem dz74_63 : decode (z_code 74) 63 = .ok (.iload_n 2, 1) := by decide +kernel
theorem u74_63 : zEv sc 74 63 [l0, l1, .int x, l3, l4] [] h Q ↔ zEv sc 74 64 [l0, l1, .int x, l3, l4] [.int x] h Q := zE_pure (q := (64, [l0, l1, .int x, l3, l4], [.int x])) dz74_63 rfl rfl rfl
theorem dz74_64 : decode (z_code 74) 64 = .ok (.aload 4, 2) := by decide +kernel
theorem u74_64 : zEv sc 74 64 [l0, l1, l2, l3, .ref a] [t0] h Q ↔ zEv sc 74 66 [l0, l1, l2, l3, .ref a] [.ref a, t0] h Q := zE_pure (q := (66, [l0, l1, l2, l3, .ref a], [.ref a, t0])) dz74_64 rfl rfl rfl
theorem dz74_66 : decode (z_code 74) 66 = .ok (.getfield 111, 3) := by decide +kernel
theorem u74_66 (ho : zO a 4) : zEv sc 74 66 [l0, l1, l2, l3, l4] [.ref a, t0] (zst p iv) Q ↔ zEv sc 74 69 [l0, l1, l2, l3, l4] [.int (iv a 0), t0] (zst p iv) Q := zE_gfI dz74_66 (by decide +kernel : z_lk3 zFT (z_cls 74) 111 = some (4, 0, 1, 88)) (by decide +kernel) ho
theorem dz74_69 : decode (z_code 74) 69 = .ok (.if_icmp .lt 6, 3) := by decide +kernel
theorem u74_69 : zEv sc 74 69 [l0, l1, l2, l3, l4] [.int x2, .int x1] h Q ↔ (if x1 < x2 then zEv sc 74 75 [l0, l1, l2, l3, l4] [] h Q else zEv sc 74 72 [l0, l1, l2, l3, l4] [] h Q) := zE_icP (P := x1 < x2) inferInstance 75 dz74_69 rfl rfl
theorem dz74_72 : decode (z_code 74) 72 = .ok (.ldc 130, 2) := by decide +kernel
theorem u74_72 : zEv sc 74 72 [l0, l1, l2, l3, l4] [] h Q ↔ zEv sc 74 74 [l0, l1, l2, l3, l4] [.int (-1000004)] h Q := zE_ldc (by decide +kernel : z_lkK zKT (z_cls 74) 130 = some ((-1000004), 362)) dz74_72
theorem dz74_74 : decode (z_code 74) 74 = .ok (.ireturn, 1) := by decide +kernel
theorem u74_74 : zEv sc 74 74 [l0, l1, l2, l3, l4] [.int x] h Q ↔ Q (some (.int x)) h := zE_ri dz74_74 (by decide +kernel)
theorem dz74_75 : decode (z_code 74) 75 = .ok (.iload_n 3, 1) := by decide +kernel
theorem u74_75 : zEv sc 74 75 [l0, l1, l2, .int x, l4] [] h Q ↔ zEv sc 74 76 [l0, l1, l2, .int x, l4] [.int x] h Q := zE_pure (q := (76, [l0, l1, l2, .int x, l4], [.int x])) dz74_75 rfl rfl rfl
theorem dz74_76 : decode (z_code 74) 76 = .ok (.iconst 2, 1) := by decide +kernel
theorem u74_76 : zEv sc 74 76 [l0, l1, l2, l3, l4] [t0] h Q ↔ zEv sc 74 77 [l0, l1, l2, l3, l4] [.int 2, t0] h Q := zE_iconst dz74_76 (by decide +kernel)
theorem dz74_77 : decode (z_code 74) 77 = .ok (.if_icmp .ge 25, 3) := by decide +kernel
theorem u74_77 : zEv sc 74 77 [l0, l1, l2, l3, l4] [.int x2, .int x1] h Q ↔ (if x2 ≤ x1 then zEv sc 74 102 [l0, l1, l2, l3, l4] [] h Q else zEv sc 74 80 [l0, l1, l2, l3, l4] [] h Q) := zE_icP (P := x2 ≤ x1) inferInstance 102 dz74_77 rfl rfl
theorem dz74_80 : decode (z_code 74) 80 = .ok (.iload_n 3, 1) := by decide +kernel
theorem u74_80 : zEv sc 74 80 [l0, l1, l2, .int x, l4] [] h Q ↔ zEv sc 74 81 [l0, l1, l2, .int x, l4] [.int x] h Q := zE_pure (q := (81, [l0, l1, l2, .int x, l4], [.int x])) dz74_80 rfl rfl rfl
theorem dz74_81 : decode (z_code 74) 81 = .ok (.ifCond .ne 13, 3) := by decide +kernel
theorem u74_81 : zEv sc 74 81 [l0, l1, l2, l3, l4] [.int x] h Q ↔ (if ¬ x = 0 then zEv sc 74 94 [l0, l1, l2, l3, l4] [] h Q else zEv sc 74 84 [l0, l1, l2, l3, l4] [] h Q) := zE_ifP (P := ¬ x = 0) inferInstance 94 dz74_81 rfl rfl
theorem dz74_84 : decode (z_code 74) 84 = .ok (.aload 4, 2) := by decide +kernel
theorem u74_84 : zEv sc 74 84 [l0, l1, l2, l3, .ref a] [] h Q ↔ zEv sc 74 86 [l0, l1, l2, l3, .ref a] [.ref a] h Q := zE_pure (q := (86, [l0, l1, l2, l3, .ref a], [.ref a])) dz74_84 rfl rfl rfl
theorem dz74_86 : decode (z_code 74) 86 = .ok (.getfield 177, 3) := by decide +kernel
theorem u74_86 (ho : zO a 4) : zEv sc 74 86 [l0, l1, l2, l3, l4] [.ref a] (zst p iv) Q ↔ zRef (zRV p a 1) (fun j => zEv sc 74 89 [l0, l1, l2, l3, l4] [.ref j] (zst p iv) Q) := zE_gfR dz74_86 (by decide +kernel : z_lk3 zFT (z_cls 74) 177 = some (4, 1, 1, 93)) (by decide +kernel) ho
theorem dz74_89 : decode (z_code 74) 89 = .ok (.iload_n 2, 1) := by decide +kernel
theorem u74_89 : zEv sc 74 89 [l0, l1, .int x, l3, l4] [t0] h Q ↔ zEv sc 74 90 [l0, l1, .int x, l3, l4] [.int x, t0] h Q := zE_pure (q := (90, [l0, l1, .int x, l3, l4], [.int x, t0])) dz74_89 rfl rfl rfl
theorem dz74_90 : decode (z_code 74) 90 = .ok (.iaload, 1) := by decide +kernel
theorem u74_90 (ho : zO a 100) : zEv sc 74 90 [l0, l1, l2, l3, l4] [.int x, .ref a] (zst p iv) Q ↔ (vp_in x (zLn a) ∧ zEv sc 74 91 [l0, l1, l2, l3, l4] [.int (iv a x.toNatClampNeg)] (zst p iv) Q) := zE_ald (Or.inl ⟨rfl, rfl⟩) dz74_90 ho
theorem dz74_91 : decode (z_code 74) 91 = .ok (.goto 10, 3) := by decide +kernel
theorem u74_91 : zEv sc 74 91 [l0, l1, l2, l3, l4] [t0] h Q ↔ zEv sc 74 101 [l0, l1, l2, l3, l4] [t0] h Q := zE_go 101 dz74_91 rfl
theorem dz74_101 : decode (z_code 74) 101 = .ok (.ireturn, 1) := by decide +kernel
theorem u74_101 : zEv sc 74 101 [l0, l1, l2, l3, l4] [.int x] h Q ↔ Q (some (.int x)) h := zE_ri dz74_101 (by decide +kernel)
theorem dz74_94 : decode (z_code 74) 94 = .ok (.aload 4, 2) := by decide +kernel
theorem u74_94 : zEv sc 74 94 [l0, l1, l2, l3, .ref a] [] h Q ↔ zEv sc 74 96 [l0, l1, l2, l3, .ref a] [.ref a] h Q := zE_pure (q := (96, [l0, l1, l2, l3, .ref a], [.ref a])) dz74_94 rfl rfl rfl
theorem dz74_96 : decode (z_code 74) 96 = .ok (.getfield 180, 3) := by decide +kernel
theorem u74_96 (ho : zO a 4) : zEv sc 74 96 [l0, l1, l2, l3, l4] [.ref a] (zst p iv) Q ↔ zRef (zRV p a 2) (fun j => zEv sc 74 99 [l0, l1, l2, l3, l4] [.ref j] (zst p iv) Q) := zE_gfR dz74_96 (by decide +kernel : z_lk3 zFT (z_cls 74) 180 = some (4, 2, 1, 96)) (by decide +kernel) ho
theorem dz74_99 : decode (z_code 74) 99 = .ok (.iload_n 2, 1) := by decide +kernel
theorem u74_99 : zEv sc 74 99 [l0, l1, .int x, l3, l4] [t0] h Q ↔ zEv sc 74 100 [l0, l1, .int x, l3, l4] [.int x, t0] h Q := zE_pure (q := (100, [l0, l1, .int x, l3, l4], [.int x, t0])) dz74_99 rfl rfl rfl
theorem dz74_100 : decode (z_code 74) 100 = .ok (.iaload, 1) := by decide +kernel
theorem u74_100 (ho : zO a 100) : zEv sc 74 100 [l0, l1, l2, l3, l4] [.int x, .ref a] (zst p iv) Q ↔ (vp_in x (zLn a) ∧ zEv sc 74 101 [l0, l1, l2, l3, l4] [.int (iv a x.toNatClampNeg)] (zst p iv) Q) := zE_ald (Or.inl ⟨rfl, rfl⟩) dz74_100 ho
theorem dz74_102 : decode (z_code 74) 102 = .ok (.aload_n 0, 1) := by decide +kernel
theorem u74_102 : zEv sc 74 102 [.ref a, l1, l2, l3, l4] [] h Q ↔ zEv sc 74 103 [.ref a, l1, l2, l3, l4] [.ref a] h Q := zE_pure (q := (103, [.ref a, l1, l2, l3, l4], [.ref a])) dz74_102 rfl rfl rfl
theorem dz74_103 : decode (z_code 74) 103 = .ok (.getfield 39, 3) := by decide +kernel
theorem u74_103 (ho : zO a 9) : zEv sc 74 103 [l0, l1, l2, l3, l4] [.ref a] (zst p iv) Q ↔ zRef (zRV p a 5) (fun j => zEv sc 74 106 [l0, l1, l2, l3, l4] [.ref j] (zst p iv) Q) := zE_gfR dz74_103 (by decide +kernel : z_lk3 zFT (z_cls 74) 39 = some (9, 5, 0, 274)) (by decide +kernel) ho
theorem dz74_106 : decode (z_code 74) 106 = .ok (.aload_n 0, 1) := by decide +kernel
theorem u74_106 : zEv sc 74 106 [.ref a, l1, l2, l3, l4] [t0] h Q ↔ zEv sc 74 107 [.ref a, l1, l2, l3, l4] [.ref a, t0] h Q := zE_pure (q := (107, [.ref a, l1, l2, l3, l4], [.ref a, t0])) dz74_106 rfl rfl rfl
theorem dz74_107 : decode (z_code 74) 107 = .ok (.getfield 10, 3) := by decide +kernel
theorem u74_107 (ho : zO a 9) : zEv sc 74 107 [l0, l1, l2, l3, l4] [.ref a, t0] (zst p iv) Q ↔ zRef (zRV p a 0) (fun j => zEv sc 74 110 [l0, l1, l2, l3, l4] [.ref j, t0] (zst p iv) Q) := zE_gfR dz74_107 (by decide +kernel : z_lk3 zFT (z_cls 74) 10 = some (9, 0, 0, 269)) (by decide +kernel) ho
theorem dz74_110 : decode (z_code 74) 110 = .ok (.iload_n 1, 1) := by decide +kernel
theorem u74_110 : zEv sc 74 110 [l0, .int x, l2, l3, l4] [t0, t1] h Q ↔ zEv sc 74 111 [l0, .int x, l2, l3, l4] [.int x, t0, t1] h Q := zE_pure (q := (111, [l0, .int x, l2, l3, l4], [.int x, t0, t1])) dz74_110 rfl rfl rfl
theorem dz74_111 : decode (z_code 74) 111 = .ok (.invokevirtual 183, 3) := by decide +kernel
theorem u74_111 (ho : zO a 5) : zEv sc 74 111 [l0, l1, l2, l3, l4] [.int z0, .ref b0, .ref a] (zst p iv) Q ↔ zEv sc 39 0 [.ref a, .ref b0, .int z0, .null, .null, .null] [] (zst p iv) (fun r h9 => zEv sc 74 114 [l0, l1, l2, l3, l4] (r.toList ++ []) h9 Q) := zE_call (kd := 0) (na := 3) (nr := 0) (as := [.ref a, .ref b0, .int z0]) (rest := []) (Or.inl ⟨rfl, rfl⟩) dz74_111 (by decide +kernel : z_lk2 zCT (z_cls 74) 183 = some (39, 1, 363)) (fun z => by cases z) rfl rfl rfl (by decide +kernel) rfl rfl (Or.inr (zE_rc ho))
theorem dz74_114 : decode (z_code 74) 114 = .ok (.iload_n 3, 1) := by decide +kernel
theorem u74_114 : zEv sc 74 114 [l0, l1, l2, .int x, l4] [] h Q ↔ zEv sc 74 115 [l0, l1, l2, .int x, l4] [.int x] h Q := zE_pure (q := (115, [l0, l1, l2, .int x, l4], [.int x])) dz74_114 rfl rfl rfl
theorem dz74_115 : decode (z_code 74) 115 = .ok (.iconst 2, 1) := by decide +kernel
theorem u74_115 : zEv sc 74 115 [l0, l1, l2, l3, l4] [t0] h Q ↔ zEv sc 74 116 [l0, l1, l2, l3, l4] [.int 2, t0] h Q := zE_iconst dz74_115 (by decide +kernel)
theorem dz74_116 : decode (z_code 74) 116 = .ok (.isub, 1) := by decide +kernel
theorem u74_116 : zEv sc 74 116 [l0, l1, l2, l3, l4] [.int x2, .int x1] h Q ↔ zEv sc 74 117 [l0, l1, l2, l3, l4] [.int (x1 - x2)] h Q := zE_pure (q := (117, [l0, l1, l2, l3, l4], [.int (x1 - x2)])) dz74_116 rfl rfl rfl
theorem dz74_117 : decode (z_code 74) 117 = .ok (.aload_n 0, 1) := by decide +kernel
theorem u74_117 : zEv sc 74 117 [.ref a, l1, l2, l3, l4] [t0] h Q ↔ zEv sc 74 118 [.ref a, l1, l2, l3, l4] [.ref a, t0] h Q := zE_pure (q := (118, [.ref a, l1, l2, l3, l4], [.ref a, t0])) dz74_117 rfl rfl rfl
theorem dz74_118 : decode (z_code 74) 118 = .ok (.getfield 39, 3) := by decide +kernel
theorem u74_118 (ho : zO a 9) : zEv sc 74 118 [l0, l1, l2, l3, l4] [.ref a, t0] (zst p iv) Q ↔ zRef (zRV p a 5) (fun j => zEv sc 74 121 [l0, l1, l2, l3, l4] [.ref j, t0] (zst p iv) Q) := zE_gfR dz74_118 (by decide +kernel : z_lk3 zFT (z_cls 74) 39 = some (9, 5, 0, 274)) (by decide +kernel) ho
theorem dz74_121 : decode (z_code 74) 121 = .ok (.aload 4, 2) := by decide +kernel
theorem u74_121 : zEv sc 74 121 [l0, l1, l2, l3, .ref a] [t0, t1] h Q ↔ zEv sc 74 123 [l0, l1, l2, l3, .ref a] [.ref a, t0, t1] h Q := zE_pure (q := (123, [l0, l1, l2, l3, .ref a], [.ref a, t0, t1])) dz74_121 rfl rfl rfl
theorem dz74_123 : decode (z_code 74) 123 = .ok (.getfield 177, 3) := by decide +kernel
theorem u74_123 (ho : zO a 4) : zEv sc 74 123 [l0, l1, l2, l3, l4] [.ref a, t0, t1] (zst p iv) Q ↔ zRef (zRV p a 1) (fun j => zEv sc 74 126 [l0, l1, l2, l3, l4] [.ref j, t0, t1] (zst p iv) Q) := zE_gfR dz74_123 (by decide +kernel : z_lk3 zFT (z_cls 74) 177 = some (4, 1, 1, 93)) (by decide +kernel) ho
theorem dz74_126 : decode (z_code 74) 126 = .ok (.iload_n 2, 1) := by decide +kernel
theorem u74_126 : zEv sc 74 126 [l0, l1, .int x, l3, l4] [t0, t1, t2] h Q ↔ zEv sc 74 127 [l0, l1, .int x, l3, l4] [.int x, t0, t1, t2] h Q := zE_pure (q := (127, [l0, l1, .int x, l3, l4], [.int x, t0, t1, t2])) dz74_126 rfl rfl rfl
theorem dz74_127 : decode (z_code 74) 127 = .ok (.iaload, 1) := by decide +kernel
theorem u74_127 (ho : zO a 100) : zEv sc 74 127 [l0, l1, l2, l3, l4] [.int x, .ref a, t0, t1] (zst p iv) Q ↔ (vp_in x (zLn a) ∧ zEv sc 74 128 [l0, l1, l2, l3, l4] [.int (iv a x.toNatClampNeg), t0, t1] (zst p iv) Q) := zE_ald (Or.inl ⟨rfl, rfl⟩) dz74_127 ho
theorem dz74_128 : decode (z_code 74) 128 = .ok (.invokevirtual 187, 3) := by decide +kernel
theorem u74_128 (ho : zO a 5) : zEv sc 74 128 [l0, l1, l2, l3, l4] [.int z0, .ref a, t0] (zst p iv) Q ↔ zEv sc 4 0 [.ref a, .int z0, .null, .null, .null] [] (zst p iv) (fun r h9 => zEv sc 74 131 [l0, l1, l2, l3, l4] (r.toList ++ [t0]) h9 Q) := zE_call (kd := 0) (na := 2) (nr := 1) (as := [.ref a, .int z0]) (rest := [t0]) (Or.inl ⟨rfl, rfl⟩) dz74_128 (by decide +kernel : z_lk2 zCT (z_cls 74) 187 = some (4, 1, 380)) (fun z => by cases z) rfl rfl rfl (by decide +kernel) rfl rfl (Or.inr (zE_rc ho))
theorem dz74_131 : decode (z_code 74) 131 = .ok (.aload_n 0, 1) := by decide +kernel
theorem u74_131 : zEv sc 74 131 [.ref a, l1, l2, l3, l4] [t0, t1] h Q ↔ zEv sc 74 132 [.ref a, l1, l2, l3, l4] [.ref a, t0, t1] h Q := zE_pure (q := (132, [.ref a, l1, l2, l3, l4], [.ref a, t0, t1])) dz74_131 rfl rfl rfl
theorem dz74_132 : decode (z_code 74) 132 = .ok (.getfield 39, 3) := by decide +kernel
theorem u74_132 (ho : zO a 9) : zEv sc 74 132 [l0, l1, l2, l3, l4] [.ref a, t0, t1] (zst p iv) Q ↔ zRef (zRV p a 5) (fun j => zEv sc 74 135 [l0, l1, l2, l3, l4] [.ref j, t0, t1] (zst p iv) Q) := zE_gfR dz74_132 (by decide +kernel : z_lk3 zFT (z_cls 74) 39 = some (9, 5, 0, 274)) (by decide +kernel) ho
theorem dz74_135 : decode (z_code 74) 135 = .ok (.getfield 190, 3) := by decide +kernel
theorem u74_135 (ho : zO a 5) : zEv sc 74 135 [l0, l1, l2, l3, l4] [.ref a, t0, t1] (zst p iv) Q ↔ zEv sc 74 138 [l0, l1, l2, l3, l4] [.int (iv a 1), t0, t1] (zst p iv) Q := zE_gfI dz74_135 (by decide +kernel : z_lk3 zFT (z_cls 74) 190 = some (5, 1, 1, 196)) (by decide +kernel) ho
theorem dz74_138 : decode (z_code 74) 138 = .ok (.invokestatic 193, 3) := by decide +kernel
theorem u74_138 : zEv sc 74 138 [l0, l1, l2, l3, l4] [.int z2, .int z1, .int z0] h Q ↔ zEv sc 73 0 [.int z0, .int z1, .int z2, .null] [] h (fun r h9 => zEv sc 74 141 [l0, l1, l2, l3, l4] (r.toList ++ []) h9 Q) := zE_call (kd := 1) (na := 3) (nr := 0) (as := [.int z0, .int z1, .int z2]) (rest := []) (Or.inr ⟨rfl, rfl⟩) dz74_138 (by decide +kernel : z_lk2 zCT (z_cls 74) 193 = some (73, 0, 384)) (fun _ => ⟨by decide +kernel, by decide +kernel⟩) rfl rfl rfl (by decide +kernel) rfl rfl (Or.inl rfl)
theorem dz74_141 : decode (z_code 74) 141 = .ok (.ireturn, 1) := by decide +kernel
theorem u74_141 : zEv sc 74 141 [l0, l1, l2, l3, l4] [.int x] h Q ↔ Q (some (.int x)) h := zE_ri dz74_141 (by decide +kernel)
theorem dz74_20 : decode (z_code 74) 20 = .ok (.ldc 71, 2) := by decide +kernel
theorem u74_20 : zEv sc 74 20 [l0, l1, l2, l3, l4] [] h Q ↔ zEv sc 74 22 [l0, l1, l2, l3, l4] [.int (-1000001)] h Q := zE_ldc (by decide +kernel : z_lkK zKT (z_cls 74) 71 = some ((-1000001), 319)) dz74_20
theorem dz74_22 : decode (z_code 74) 22 = .ok (.ireturn, 1) := by decide +kernel
theorem u74_22 : zEv sc 74 22 [l0, l1, l2, l3, l4] [.int x] h Q ↔ Q (some (.int x)) h := zE_ri dz74_22 (by decide +kernel)
/-! method 75: FieldMixtures.marginal(III)I -/
theorem dz75_0 : decode (z_code 75) 0 = .ok (.iload_n 1, 1) := by decide +kernel
theorem u75_0 : zEv sc 75 0 [l0, .int x, l2, l3, l4, l5, l6] [] h Q ↔ zEv sc 75 1 [l0, .int x, l2, l3, l4, l5, l6] [.int x] h Q := zE_pure (q := (1, [l0, .int x, l2, l3, l4, l5, l6], [.int x])) dz75_0 rfl rfl rfl
theorem dz75_1 : decode (z_code 75) 1 = .ok (.invokestatic 92, 3) := by decide +kernel
theorem u75_1 : zEv sc 75 1 [l0, l1, l2, l3, l4, l5, l6] [.int z0] h Q ↔ zEv sc 47 0 [.int z0] [] h (fun r h9 => zEv sc 75 4 [l0, l1, l2, l3, l4, l5, l6] (r.toList ++ []) h9 Q) := zE_call (kd := 1) (na := 1) (nr := 0) (as := [.int z0]) (rest := []) (Or.inr ⟨rfl, rfl⟩) dz75_1 (by decide +kernel : z_lk2 zCT (z_cls 75) 92 = some (47, 0, 359)) (fun _ => ⟨by decide +kernel, by decide +kernel⟩) rfl rfl rfl (by decide +kernel) rfl rfl (Or.inl rfl)
theorem dz75_4 : decode (z_code 75) 4 = .ok (.ifCond .eq 24, 3) := by decide +kernel
theorem u75_4 : zEv sc 75 4 [l0, l1, l2, l3, l4, l5, l6] [.int x] h Q ↔ (if x = 0 then zEv sc 75 28 [l0, l1, l2, l3, l4, l5, l6] [] h Q else zEv sc 75 7 [l0, l1, l2, l3, l4, l5, l6] [] h Q) := zE_ifP (P := x = 0) inferInstance 28 dz75_4 rfl rfl
theorem dz75_7 : decode (z_code 75) 7 = .ok (.aload_n 0, 1) := by decide +kernel
theorem u75_7 : zEv sc 75 7 [.ref a, l1, l2, l3, l4, l5, l6] [] h Q ↔ zEv sc 75 8 [.ref a, l1, l2, l3, l4, l5, l6] [.ref a] h Q := zE_pure (q := (8, [.ref a, l1, l2, l3, l4, l5, l6], [.ref a])) dz75_7 rfl rfl rfl
theorem dz75_8 : decode (z_code 75) 8 = .ok (.getfield 10, 3) := by decide +kernel
theorem u75_8 (ho : zO a 9) : zEv sc 75 8 [l0, l1, l2, l3, l4, l5, l6] [.ref a] (zst p iv) Q ↔ zRef (zRV p a 0) (fun j => zEv sc 75 11 [l0, l1, l2, l3, l4, l5, l6] [.ref j] (zst p iv) Q) := zE_gfR dz75_8 (by decide +kernel : z_lk3 zFT (z_cls 75) 10 = some (9, 0, 0, 269)) (by decide +kernel) ho
theorem dz75_11 : decode (z_code 75) 11 = .ok (.iload_n 2, 1) := by decide +kernel
theorem u75_11 : zEv sc 75 11 [l0, l1, .int x, l3, l4, l5, l6] [t0] h Q ↔ zEv sc 75 12 [l0, l1, .int x, l3, l4, l5, l6] [.int x, t0] h Q := zE_pure (q := (12, [l0, l1, .int x, l3, l4, l5, l6], [.int x, t0])) dz75_11 rfl rfl rfl
theorem dz75_12 : decode (z_code 75) 12 = .ok (.invokevirtual 84, 3) := by decide +kernel
theorem u75_12 (ho : zO a 2) : zEv sc 75 12 [l0, l1, l2, l3, l4, l5, l6] [.int z0, .ref a] (zst p iv) Q ↔ zEv sc 16 0 [.ref a, .int z0] [] (zst p iv) (fun r h9 => zEv sc 75 15 [l0, l1, l2, l3, l4, l5, l6] (r.toList ++ []) h9 Q) := zE_call (kd := 0) (na := 2) (nr := 0) (as := [.ref a, .int z0]) (rest := []) (Or.inl ⟨rfl, rfl⟩) dz75_12 (by decide +kernel : z_lk2 zCT (z_cls 75) 84 = some (16, 1, 421)) (fun z => by cases z) rfl rfl rfl (by decide +kernel) rfl rfl (Or.inr (zE_rc ho))
theorem dz75_15 : decode (z_code 75) 15 = .ok (.ifCond .eq 13, 3) := by decide +kernel
theorem u75_15 : zEv sc 75 15 [l0, l1, l2, l3, l4, l5, l6] [.int x] h Q ↔ (if x = 0 then zEv sc 75 28 [l0, l1, l2, l3, l4, l5, l6] [] h Q else zEv sc 75 18 [l0, l1, l2, l3, l4, l5, l6] [] h Q) := zE_ifP (P := x = 0) inferInstance 28 dz75_15 rfl rfl
theorem dz75_18 : decode (z_code 75) 18 = .ok (.iload_n 3, 1) := by decide +kernel
theorem u75_18 : zEv sc 75 18 [l0, l1, l2, .int x, l4, l5, l6] [] h Q ↔ zEv sc 75 19 [l0, l1, l2, .int x, l4, l5, l6] [.int x] h Q := zE_pure (q := (19, [l0, l1, l2, .int x, l4, l5, l6], [.int x])) dz75_18 rfl rfl rfl
theorem dz75_19 : decode (z_code 75) 19 = .ok (.iconst 0, 1) := by decide +kernel
theorem u75_19 : zEv sc 75 19 [l0, l1, l2, l3, l4, l5, l6] [t0] h Q ↔ zEv sc 75 20 [l0, l1, l2, l3, l4, l5, l6] [.int 0, t0] h Q := zE_iconst dz75_19 (by decide +kernel)
theorem dz75_20 : decode (z_code 75) 20 = .ok (.bipush 8, 2) := by decide +kernel
theorem u75_20 : zEv sc 75 20 [l0, l1, l2, l3, l4, l5, l6] [t0, t1] h Q ↔ zEv sc 75 22 [l0, l1, l2, l3, l4, l5, l6] [.int 8, t0, t1] h Q := zE_bipush dz75_20 (by decide +kernel)
theorem dz75_22 : decode (z_code 75) 22 = .ok (.invokestatic 67, 3) := by decide +kernel
theorem u75_22 : zEv sc 75 22 [l0, l1, l2, l3, l4, l5, l6] [.int z2, .int z1, .int z0] h Q ↔ zEv sc 15 0 [.int z0, .int z1, .int z2] [] h (fun r h9 => zEv sc 75 25 [l0, l1, l2, l3, l4, l5, l6] (r.toList ++ []) h9 Q) := zE_call (kd := 1) (na := 3) (nr := 0) (as := [.int z0, .int z1, .int z2]) (rest := []) (Or.inr ⟨rfl, rfl⟩) dz75_22 (by decide +kernel : z_lk2 zCT (z_cls 75) 67 = some (15, 0, 304)) (fun _ => ⟨by decide +kernel, by decide +kernel⟩) rfl rfl rfl (by decide +kernel) rfl rfl (Or.inl rfl)
theorem dz75_25 : decode (z_code 75) 25 = .ok (.ifCond .ne 6, 3) := by decide +kernel
theorem u75_25 : zEv sc 75 25 [l0, l1, l2, l3, l4, l5, l6] [.int x] h Q ↔ (if ¬ x = 0 then zEv sc 75 31 [l0, l1, l2, l3, l4, l5, l6] [] h Q else zEv sc 75 28 [l0, l1, l2, l3, l4, l5, l6] [] h Q) := zE_ifP (P := ¬ x = 0) inferInstance 31 dz75_25 rfl rfl
theorem dz75_31 : decode (z_code 75) 31 = .ok (.aload_n 0, 1) := by decide +kernel
theorem u75_31 : zEv sc 75 31 [.ref a, l1, l2, l3, l4, l5, l6] [] h Q ↔ zEv sc 75 32 [.ref a, l1, l2, l3, l4, l5, l6] [.ref a] h Q := zE_pure (q := (32, [.ref a, l1, l2, l3, l4, l5, l6], [.ref a])) dz75_31 rfl rfl rfl
theorem dz75_32 : decode (z_code 75) 32 = .ok (.getfield 10, 3) := by decide +kernel
theorem u75_32 (ho : zO a 9) : zEv sc 75 32 [l0, l1, l2, l3, l4, l5, l6] [.ref a] (zst p iv) Q ↔ zRef (zRV p a 0) (fun j => zEv sc 75 35 [l0, l1, l2, l3, l4, l5, l6] [.ref j] (zst p iv) Q) := zE_gfR dz75_32 (by decide +kernel : z_lk3 zFT (z_cls 75) 10 = some (9, 0, 0, 269)) (by decide +kernel) ho
theorem dz75_35 : decode (z_code 75) 35 = .ok (.iload_n 1, 1) := by decide +kernel
theorem u75_35 : zEv sc 75 35 [l0, .int x, l2, l3, l4, l5, l6] [t0] h Q ↔ zEv sc 75 36 [l0, .int x, l2, l3, l4, l5, l6] [.int x, t0] h Q := zE_pure (q := (36, [l0, .int x, l2, l3, l4, l5, l6], [.int x, t0])) dz75_35 rfl rfl rfl
theorem dz75_36 : decode (z_code 75) 36 = .ok (.invokevirtual 95, 3) := by decide +kernel
theorem u75_36 (ho : zO a 2) : zEv sc 75 36 [l0, l1, l2, l3, l4, l5, l6] [.int z0, .ref a] (zst p iv) Q ↔ zEv sc 14 0 [.ref a, .int z0] [] (zst p iv) (fun r h9 => zEv sc 75 39 [l0, l1, l2, l3, l4, l5, l6] (r.toList ++ []) h9 Q) := zE_call (kd := 0) (na := 2) (nr := 0) (as := [.ref a, .int z0]) (rest := []) (Or.inl ⟨rfl, rfl⟩) dz75_36 (by decide +kernel : z_lk2 zCT (z_cls 75) 95 = some (14, 1, 307)) (fun z => by cases z) rfl rfl rfl (by decide +kernel) rfl rfl (Or.inr (zE_rc ho))
theorem dz75_39 : decode (z_code 75) 39 = .ok (.getfield 107, 3) := by decide +kernel
theorem u75_39 (ho : zO a 6) : zEv sc 75 39 [l0, l1, l2, l3, l4, l5, l6] [.ref a] (zst p iv) Q ↔ zRef (zRV p a 2) (fun j => zEv sc 75 42 [l0, l1, l2, l3, l4, l5, l6] [.ref j] (zst p iv) Q) := zE_gfR dz75_39 (by decide +kernel : z_lk3 zFT (z_cls 75) 107 = some (6, 2, 1, 114)) (by decide +kernel) ho
theorem dz75_42 : decode (z_code 75) 42 = .ok (.astore 4, 2) := by decide +kernel
theorem u75_42 : zEv sc 75 42 [l0, l1, l2, l3, l4, l5, l6] [.ref a] h Q ↔ zEv sc 75 44 [l0, l1, l2, l3, .ref a, l5, l6] [] h Q := zE_pure (q := (44, [l0, l1, l2, l3, .ref a, l5, l6], [])) dz75_42 rfl rfl rfl
theorem dz75_44 : decode (z_code 75) 44 = .ok (.iconst 0, 1) := by decide +kernel
theorem u75_44 : zEv sc 75 44 [l0, l1, l2, l3, l4, l5, l6] [] h Q ↔ zEv sc 75 45 [l0, l1, l2, l3, l4, l5, l6] [.int 0] h Q := zE_iconst dz75_44 (by decide +kernel)
theorem dz75_45 : decode (z_code 75) 45 = .ok (.istore 5, 2) := by decide +kernel
theorem u75_45 : zEv sc 75 45 [l0, l1, l2, l3, l4, l5, l6] [.int x] h Q ↔ zEv sc 75 47 [l0, l1, l2, l3, l4, .int x, l6] [] h Q := zE_pure (q := (47, [l0, l1, l2, l3, l4, .int x, l6], [])) dz75_45 rfl rfl rfl
theorem dz75_47 : decode (z_code 75) 47 = .ok (.iconst 0, 1) := by decide +kernel
theorem u75_47 : zEv sc 75 47 [l0, l1, l2, l3, l4, l5, l6] [] h Q ↔ zEv sc 75 48 [l0, l1, l2, l3, l4, l5, l6] [.int 0] h Q := zE_iconst dz75_47 (by decide +kernel)
theorem dz75_48 : decode (z_code 75) 48 = .ok (.istore 6, 2) := by decide +kernel
theorem u75_48 : zEv sc 75 48 [l0, l1, l2, l3, l4, l5, l6] [.int x] h Q ↔ zEv sc 75 50 [l0, l1, l2, l3, l4, l5, .int x] [] h Q := zE_pure (q := (50, [l0, l1, l2, l3, l4, l5, .int x], [])) dz75_48 rfl rfl rfl
theorem dz75_50 : decode (z_code 75) 50 = .ok (.iload 6, 2) := by decide +kernel
theorem u75_50 : zEv sc 75 50 [l0, l1, l2, l3, l4, l5, .int x] [] h Q ↔ zEv sc 75 52 [l0, l1, l2, l3, l4, l5, .int x] [.int x] h Q := zE_pure (q := (52, [l0, l1, l2, l3, l4, l5, .int x], [.int x])) dz75_50 rfl rfl rfl
theorem dz75_52 : decode (z_code 75) 52 = .ok (.aload 4, 2) := by decide +kernel
theorem u75_52 : zEv sc 75 52 [l0, l1, l2, l3, .ref a, l5, l6] [t0] h Q ↔ zEv sc 75 54 [l0, l1, l2, l3, .ref a, l5, l6] [.ref a, t0] h Q := zE_pure (q := (54, [l0, l1, l2, l3, .ref a, l5, l6], [.ref a, t0])) dz75_52 rfl rfl rfl
theorem dz75_54 : decode (z_code 75) 54 = .ok (.getfield 111, 3) := by decide +kernel
theorem u75_54 (ho : zO a 4) : zEv sc 75 54 [l0, l1, l2, l3, l4, l5, l6] [.ref a, t0] (zst p iv) Q ↔ zEv sc 75 57 [l0, l1, l2, l3, l4, l5, l6] [.int (iv a 0), t0] (zst p iv) Q := zE_gfI dz75_54 (by decide +kernel : z_lk3 zFT (z_cls 75) 111 = some (4, 0, 1, 88)) (by decide +kernel) ho
theorem dz75_57 : decode (z_code 75) 57 = .ok (.if_icmp .ge 42, 3) := by decide +kernel
theorem u75_57 : zEv sc 75 57 [l0, l1, l2, l3, l4, l5, l6] [.int x2, .int x1] h Q ↔ (if x2 ≤ x1 then zEv sc 75 99 [l0, l1, l2, l3, l4, l5, l6] [] h Q else zEv sc 75 60 [l0, l1, l2, l3, l4, l5, l6] [] h Q) := zE_icP (P := x2 ≤ x1) inferInstance 99 dz75_57 rfl rfl
theorem dz75_60 : decode (z_code 75) 60 = .ok (.aload_n 0, 1) := by decide +kernel
theorem u75_60 : zEv sc 75 60 [.ref a, l1, l2, l3, l4, l5, l6] [] h Q ↔ zEv sc 75 61 [.ref a, l1, l2, l3, l4, l5, l6] [.ref a] h Q := zE_pure (q := (61, [.ref a, l1, l2, l3, l4, l5, l6], [.ref a])) dz75_60 rfl rfl rfl
theorem dz75_61 : decode (z_code 75) 61 = .ok (.getfield 10, 3) := by decide +kernel
theorem u75_61 (ho : zO a 9) : zEv sc 75 61 [l0, l1, l2, l3, l4, l5, l6] [.ref a] (zst p iv) Q ↔ zRef (zRV p a 0) (fun j => zEv sc 75 64 [l0, l1, l2, l3, l4, l5, l6] [.ref j] (zst p iv) Q) := zE_gfR dz75_61 (by decide +kernel : z_lk3 zFT (z_cls 75) 10 = some (9, 0, 0, 269)) (by decide +kernel) ho
theorem dz75_64 : decode (z_code 75) 64 = .ok (.iload_n 2, 1) := by decide +kernel
theorem u75_64 : zEv sc 75 64 [l0, l1, .int x, l3, l4, l5, l6] [t0] h Q ↔ zEv sc 75 65 [l0, l1, .int x, l3, l4, l5, l6] [.int x, t0] h Q := zE_pure (q := (65, [l0, l1, .int x, l3, l4, l5, l6], [.int x, t0])) dz75_64 rfl rfl rfl
theorem dz75_65 : decode (z_code 75) 65 = .ok (.aload 4, 2) := by decide +kernel
theorem u75_65 : zEv sc 75 65 [l0, l1, l2, l3, .ref a, l5, l6] [t0, t1] h Q ↔ zEv sc 75 67 [l0, l1, l2, l3, .ref a, l5, l6] [.ref a, t0, t1] h Q := zE_pure (q := (67, [l0, l1, l2, l3, .ref a, l5, l6], [.ref a, t0, t1])) dz75_65 rfl rfl rfl
theorem dz75_67 : decode (z_code 75) 67 = .ok (.getfield 177, 3) := by decide +kernel
theorem u75_67 (ho : zO a 4) : zEv sc 75 67 [l0, l1, l2, l3, l4, l5, l6] [.ref a, t0, t1] (zst p iv) Q ↔ zRef (zRV p a 1) (fun j => zEv sc 75 70 [l0, l1, l2, l3, l4, l5, l6] [.ref j, t0, t1] (zst p iv) Q) := zE_gfR dz75_67 (by decide +kernel : z_lk3 zFT (z_cls 75) 177 = some (4, 1, 1, 93)) (by decide +kernel) ho
theorem dz75_70 : decode (z_code 75) 70 = .ok (.iload 6, 2) := by decide +kernel
theorem u75_70 : zEv sc 75 70 [l0, l1, l2, l3, l4, l5, .int x] [t0, t1, t2] h Q ↔ zEv sc 75 72 [l0, l1, l2, l3, l4, l5, .int x] [.int x, t0, t1, t2] h Q := zE_pure (q := (72, [l0, l1, l2, l3, l4, l5, .int x], [.int x, t0, t1, t2])) dz75_70 rfl rfl rfl
theorem dz75_72 : decode (z_code 75) 72 = .ok (.iaload, 1) := by decide +kernel
theorem u75_72 (ho : zO a 100) : zEv sc 75 72 [l0, l1, l2, l3, l4, l5, l6] [.int x, .ref a, t0, t1] (zst p iv) Q ↔ (vp_in x (zLn a) ∧ zEv sc 75 73 [l0, l1, l2, l3, l4, l5, l6] [.int (iv a x.toNatClampNeg), t0, t1] (zst p iv) Q) := zE_ald (Or.inl ⟨rfl, rfl⟩) dz75_72 ho
theorem dz75_73 : decode (z_code 75) 73 = .ok (.invokevirtual 196, 3) := by decide +kernel
theorem u75_73 (ho : zO a 2) : zEv sc 75 73 [l0, l1, l2, l3, l4, l5, l6] [.int z1, .int z0, .ref a] (zst p iv) Q ↔ zEv sc 21 0 [.ref a, .int z0, .int z1, .null, .null] [] (zst p iv) (fun r h9 => zEv sc 75 76 [l0, l1, l2, l3, l4, l5, l6] (r.toList ++ []) h9 Q) := zE_call (kd := 0) (na := 3) (nr := 0) (as := [.ref a, .int z0, .int z1]) (rest := []) (Or.inl ⟨rfl, rfl⟩) dz75_73 (by decide +kernel : z_lk2 zCT (z_cls 75) 196 = some (21, 1, 429)) (fun z => by cases z) rfl rfl rfl (by decide +kernel) rfl rfl (Or.inr (zE_rc ho))
theorem dz75_76 : decode (z_code 75) 76 = .ok (.iload_n 3, 1) := by decide +kernel
theorem u75_76 : zEv sc 75 76 [l0, l1, l2, .int x, l4, l5, l6] [t0] h Q ↔ zEv sc 75 77 [l0, l1, l2, .int x, l4, l5, l6] [.int x, t0] h Q := zE_pure (q := (77, [l0, l1, l2, .int x, l4, l5, l6], [.int x, t0])) dz75_76 rfl rfl rfl
theorem dz75_77 : decode (z_code 75) 77 = .ok (.if_icmp .ne 16, 3) := by decide +kernel
theorem u75_77 : zEv sc 75 77 [l0, l1, l2, l3, l4, l5, l6] [.int x2, .int x1] h Q ↔ (if ¬ x1 = x2 then zEv sc 75 93 [l0, l1, l2, l3, l4, l5, l6] [] h Q else zEv sc 75 80 [l0, l1, l2, l3, l4, l5, l6] [] h Q) := zE_icP (P := ¬ x1 = x2) inferInstance 93 dz75_77 rfl rfl
theorem dz75_80 : decode (z_code 75) 80 = .ok (.iload 5, 2) := by decide +kernel
theorem u75_80 : zEv sc 75 80 [l0, l1, l2, l3, l4, .int x, l6] [] h Q ↔ zEv sc 75 82 [l0, l1, l2, l3, l4, .int x, l6] [.int x] h Q := zE_pure (q := (82, [l0, l1, l2, l3, l4, .int x, l6], [.int x])) dz75_80 rfl rfl rfl
theorem dz75_82 : decode (z_code 75) 82 = .ok (.aload 4, 2) := by decide +kernel
theorem u75_82 : zEv sc 75 82 [l0, l1, l2, l3, .ref a, l5, l6] [t0] h Q ↔ zEv sc 75 84 [l0, l1, l2, l3, .ref a, l5, l6] [.ref a, t0] h Q := zE_pure (q := (84, [l0, l1, l2, l3, .ref a, l5, l6], [.ref a, t0])) dz75_82 rfl rfl rfl
theorem dz75_84 : decode (z_code 75) 84 = .ok (.getfield 180, 3) := by decide +kernel
theorem u75_84 (ho : zO a 4) : zEv sc 75 84 [l0, l1, l2, l3, l4, l5, l6] [.ref a, t0] (zst p iv) Q ↔ zRef (zRV p a 2) (fun j => zEv sc 75 87 [l0, l1, l2, l3, l4, l5, l6] [.ref j, t0] (zst p iv) Q) := zE_gfR dz75_84 (by decide +kernel : z_lk3 zFT (z_cls 75) 180 = some (4, 2, 1, 96)) (by decide +kernel) ho
theorem dz75_87 : decode (z_code 75) 87 = .ok (.iload 6, 2) := by decide +kernel
theorem u75_87 : zEv sc 75 87 [l0, l1, l2, l3, l4, l5, .int x] [t0, t1] h Q ↔ zEv sc 75 89 [l0, l1, l2, l3, l4, l5, .int x] [.int x, t0, t1] h Q := zE_pure (q := (89, [l0, l1, l2, l3, l4, l5, .int x], [.int x, t0, t1])) dz75_87 rfl rfl rfl
theorem dz75_89 : decode (z_code 75) 89 = .ok (.iaload, 1) := by decide +kernel
theorem u75_89 (ho : zO a 100) : zEv sc 75 89 [l0, l1, l2, l3, l4, l5, l6] [.int x, .ref a, t0] (zst p iv) Q ↔ (vp_in x (zLn a) ∧ zEv sc 75 90 [l0, l1, l2, l3, l4, l5, l6] [.int (iv a x.toNatClampNeg), t0] (zst p iv) Q) := zE_ald (Or.inl ⟨rfl, rfl⟩) dz75_89 ho
theorem dz75_90 : decode (z_code 75) 90 = .ok (.iadd, 1) := by decide +kernel
theorem u75_90 : zEv sc 75 90 [l0, l1, l2, l3, l4, l5, l6] [.int x2, .int x1] h Q ↔ zEv sc 75 91 [l0, l1, l2, l3, l4, l5, l6] [.int (x1 + x2)] h Q := zE_pure (q := (91, [l0, l1, l2, l3, l4, l5, l6], [.int (x1 + x2)])) dz75_90 rfl rfl rfl
theorem dz75_91 : decode (z_code 75) 91 = .ok (.istore 5, 2) := by decide +kernel
theorem u75_91 : zEv sc 75 91 [l0, l1, l2, l3, l4, l5, l6] [.int x] h Q ↔ zEv sc 75 93 [l0, l1, l2, l3, l4, .int x, l6] [] h Q := zE_pure (q := (93, [l0, l1, l2, l3, l4, .int x, l6], [])) dz75_91 rfl rfl rfl
theorem dz75_93 : decode (z_code 75) 93 = .ok (.iinc 6 1, 3) := by decide +kernel
theorem u75_93 : zEv sc 75 93 [l0, l1, l2, l3, l4, l5, .int x] [] h Q ↔ zEv sc 75 96 [l0, l1, l2, l3, l4, l5, .int (x + 1)] [] h Q := zE_iinc (ls2 := [l0, l1, l2, l3, l4, l5, .int (x + 1)]) dz75_93 (by decide +kernel) rfl (by simp) rfl
theorem dz75_96 : decode (z_code 75) 96 = .ok (.goto (-46), 3) := by decide +kernel
theorem u75_96 : zEv sc 75 96 [l0, l1, l2, l3, l4, l5, l6] [] h Q ↔ zEv sc 75 50 [l0, l1, l2, l3, l4, l5, l6] [] h Q := zE_go 50 dz75_96 rfl
theorem dz75_99 : decode (z_code 75) 99 = .ok (.iload 5, 2) := by decide +kernel
theorem u75_99 : zEv sc 75 99 [l0, l1, l2, l3, l4, .int x, l6] [] h Q ↔ zEv sc 75 101 [l0, l1, l2, l3, l4, .int x, l6] [.int x] h Q := zE_pure (q := (101, [l0, l1, l2, l3, l4, .int x, l6], [.int x])) dz75_99 rfl rfl rfl
theorem dz75_101 : decode (z_code 75) 101 = .ok (.ireturn, 1) := by decide +kernel
theorem u75_101 : zEv sc 75 101 [l0, l1, l2, l3, l4, l5, l6] [.int x] h Q ↔ Q (some (.int x)) h := zE_ri dz75_101 (by decide +kernel)
theorem dz75_28 : decode (z_code 75) 28 = .ok (.ldc 71, 2) := by decide +kernel
theorem u75_28 : zEv sc 75 28 [l0, l1, l2, l3, l4, l5, l6] [] h Q ↔ zEv sc 75 30 [l0, l1, l2, l3, l4, l5, l6] [.int (-1000001)] h Q := zE_ldc (by decide +kernel : z_lkK zKT (z_cls 75) 71 = some ((-1000001), 319)) dz75_28
theorem dz75_30 : decode (z_code 75) 30 = .ok (.ireturn, 1) := by decide +kernel
theorem u75_30 : zEv sc 75 30 [l0, l1, l2, l3, l4, l5, l6] [.int x] h Q ↔ Q (some (.int x)) h := zE_ri dz75_30 (by decide +kernel)
end ZU1
