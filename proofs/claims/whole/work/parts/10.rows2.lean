/-! ===== rows of the methods, printed by wip/whole/gen2.py ===== -/
section ZU2
variable {sc : Nat × (Nat → Int32)} {h : zA} {Q : Option Value → zA → Prop} {p : Nat → Option Nat} {iv : Nat → Nat → Int32} {l0 l1 l2 l3 l4 l5 l6 l7 l8 l9 l10 l11 t0 t1 t2 t3 t4 t5 t6 v1 v2 : Value} {x x1 x2 z0 z1 z2 z3 : Int32} {a b0 b1 b2 : Nat}
/-! method 75: FieldMixtures.marginal(III)I -/
theorem dz75_0 : decode (z_code 75) 0 = .ok (.iload_n 1, 1) := by decide +kernel
theorem u75_0 : zEv sc 75 0 [l0, .int x, l2, l3, l4, l5, l6] [] h Q ↔ zEv sc 75 1 [l0, .int x, l2, l3, l4, l5, l6] [.int x] h Q := zE_pure (q := (1, [l0, .int x, l2, l3, l4, l5, l6], [.int x])) dz75_0 rfl rfl rfl
theorem dz75_1 : decode (z_code 75) 1 = .ok (.invokestatic 92, 3) := by decide +kernel
theorem u75_1 : zEv sc 75 1 [l0, l1, l2, l3, l4, l5, l6] [.int z0] h Q ↔ zEv sc 47 0 [.int z0] [] h (fun r h9 => zEv sc 75 4 [l0, l1, l2, l3, l4, l5, l6] (r.toList ++ []) h9 Q) := zE_call (kd := 1) (na := 1) (nr := 0) (as := [.int z0]) (rest := []) (Or.inr ⟨rfl, rfl⟩) dz75_1 (by decide +kernel : z_lk2 zCT (z_cls 75) 92 = some (47, 0, 382)) (fun _ => by decide +kernel) rfl rfl rfl (by decide +kernel) rfl (Or.inl rfl)
theorem dz75_4 : decode (z_code 75) 4 = .ok (.ifCond .eq 24, 3) := by decide +kernel
theorem u75_4 : zEv sc 75 4 [l0, l1, l2, l3, l4, l5, l6] [.int x] h Q ↔ (if x = 0 then zEv sc 75 28 [l0, l1, l2, l3, l4, l5, l6] [] h Q else zEv sc 75 7 [l0, l1, l2, l3, l4, l5, l6] [] h Q) := zE_ifP (P := x = 0) inferInstance 28 dz75_4 rfl rfl
theorem dz75_7 : decode (z_code 75) 7 = .ok (.aload_n 0, 1) := by decide +kernel
theorem u75_7 : zEv sc 75 7 [.ref a, l1, l2, l3, l4, l5, l6] [] h Q ↔ zEv sc 75 8 [.ref a, l1, l2, l3, l4, l5, l6] [.ref a] h Q := zE_pure (q := (8, [.ref a, l1, l2, l3, l4, l5, l6], [.ref a])) dz75_7 rfl rfl rfl
theorem dz75_8 : decode (z_code 75) 8 = .ok (.getfield 10, 3) := by decide +kernel
theorem u75_8 (ho : zO a 9) : zEv sc 75 8 [l0, l1, l2, l3, l4, l5, l6] [.ref a] (zst p iv) Q ↔ zRef (zRV p a 0) (fun j => zEv sc 75 11 [l0, l1, l2, l3, l4, l5, l6] [.ref j] (zst p iv) Q) := zE_gfR dz75_8 (by decide +kernel : z_lk3 zFT (z_cls 75) 10 = some (9, 0, 0, 309)) (by decide +kernel) ho
theorem dz75_11 : decode (z_code 75) 11 = .ok (.iload_n 2, 1) := by decide +kernel
theorem u75_11 : zEv sc 75 11 [l0, l1, .int x, l3, l4, l5, l6] [t0] h Q ↔ zEv sc 75 12 [l0, l1, .int x, l3, l4, l5, l6] [.int x, t0] h Q := zE_pure (q := (12, [l0, l1, .int x, l3, l4, l5, l6], [.int x, t0])) dz75_11 rfl rfl rfl
theorem dz75_12 : decode (z_code 75) 12 = .ok (.invokevirtual 84, 3) := by decide +kernel
theorem u75_12 (ho : zO a 2) : zEv sc 75 12 [l0, l1, l2, l3, l4, l5, l6] [.int z0, .ref a] (zst p iv) Q ↔ zEv sc 16 0 [.ref a, .int z0] [] (zst p iv) (fun r h9 => zEv sc 75 15 [l0, l1, l2, l3, l4, l5, l6] (r.toList ++ []) h9 Q) := zE_call (kd := 0) (na := 2) (nr := 0) (as := [.ref a, .int z0]) (rest := []) (Or.inl ⟨rfl, rfl⟩) dz75_12 (by decide +kernel : z_lk2 zCT (z_cls 75) 84 = some (16, 1, 373)) (fun z => by cases z) rfl rfl rfl (by decide +kernel) rfl (Or.inr (zE_rc ho))
theorem dz75_15 : decode (z_code 75) 15 = .ok (.ifCond .eq 13, 3) := by decide +kernel
theorem u75_15 : zEv sc 75 15 [l0, l1, l2, l3, l4, l5, l6] [.int x] h Q ↔ (if x = 0 then zEv sc 75 28 [l0, l1, l2, l3, l4, l5, l6] [] h Q else zEv sc 75 18 [l0, l1, l2, l3, l4, l5, l6] [] h Q) := zE_ifP (P := x = 0) inferInstance 28 dz75_15 rfl rfl
theorem dz75_18 : decode (z_code 75) 18 = .ok (.iload_n 3, 1) := by decide +kernel
theorem u75_18 : zEv sc 75 18 [l0, l1, l2, .int x, l4, l5, l6] [] h Q ↔ zEv sc 75 19 [l0, l1, l2, .int x, l4, l5, l6] [.int x] h Q := zE_pure (q := (19, [l0, l1, l2, .int x, l4, l5, l6], [.int x])) dz75_18 rfl rfl rfl
theorem dz75_19 : decode (z_code 75) 19 = .ok (.iconst 0, 1) := by decide +kernel
theorem u75_19 : zEv sc 75 19 [l0, l1, l2, l3, l4, l5, l6] [t0] h Q ↔ zEv sc 75 20 [l0, l1, l2, l3, l4, l5, l6] [.int 0, t0] h Q := zE_iconst dz75_19 (by decide +kernel)
theorem dz75_20 : decode (z_code 75) 20 = .ok (.bipush 8, 2) := by decide +kernel
theorem u75_20 : zEv sc 75 20 [l0, l1, l2, l3, l4, l5, l6] [t0, t1] h Q ↔ zEv sc 75 22 [l0, l1, l2, l3, l4, l5, l6] [.int 8, t0, t1] h Q := zE_bipush dz75_20 (by decide +kernel)
theorem dz75_22 : decode (z_code 75) 22 = .ok (.invokestatic 67, 3) := by decide +kernel
theorem u75_22 : zEv sc 75 22 [l0, l1, l2, l3, l4, l5, l6] [.int z2, .int z1, .int z0] h Q ↔ zEv sc 15 0 [.int z0, .int z1, .int z2] [] h (fun r h9 => zEv sc 75 25 [l0, l1, l2, l3, l4, l5, l6] (r.toList ++ []) h9 Q) := zE_call (kd := 1) (na := 3) (nr := 0) (as := [.int z0, .int z1, .int z2]) (rest := []) (Or.inr ⟨rfl, rfl⟩) dz75_22 (by decide +kernel : z_lk2 zCT (z_cls 75) 67 = some (15, 0, 344)) (fun _ => by decide +kernel) rfl rfl rfl (by decide +kernel) rfl (Or.inl rfl)
theorem dz75_25 : decode (z_code 75) 25 = .ok (.ifCond .ne 6, 3) := by decide +kernel
theorem u75_25 : zEv sc 75 25 [l0, l1, l2, l3, l4, l5, l6] [.int x] h Q ↔ (if ¬ x = 0 then zEv sc 75 31 [l0, l1, l2, l3, l4, l5, l6] [] h Q else zEv sc 75 28 [l0, l1, l2, l3, l4, l5, l6] [] h Q) := zE_ifP (P := ¬ x = 0) inferInstance 31 dz75_25 rfl rfl
theorem dz75_31 : decode (z_code 75) 31 = .ok (.aload_n 0, 1) := by decide +kernel
theorem u75_31 : zEv sc 75 31 [.ref a, l1, l2, l3, l4, l5, l6] [] h Q ↔ zEv sc 75 32 [.ref a, l1, l2, l3, l4, l5, l6] [.ref a] h Q := zE_pure (q := (32, [.ref a, l1, l2, l3, l4, l5, l6], [.ref a])) dz75_31 rfl rfl rfl
theorem dz75_32 : decode (z_code 75) 32 = .ok (.getfield 10, 3) := by decide +kernel
theorem u75_32 (ho : zO a 9) : zEv sc 75 32 [l0, l1, l2, l3, l4, l5, l6] [.ref a] (zst p iv) Q ↔ zRef (zRV p a 0) (fun j => zEv sc 75 35 [l0, l1, l2, l3, l4, l5, l6] [.ref j] (zst p iv) Q) := zE_gfR dz75_32 (by decide +kernel : z_lk3 zFT (z_cls 75) 10 = some (9, 0, 0, 309)) (by decide +kernel) ho
theorem dz75_35 : decode (z_code 75) 35 = .ok (.iload_n 1, 1) := by decide +kernel
theorem u75_35 : zEv sc 75 35 [l0, .int x, l2, l3, l4, l5, l6] [t0] h Q ↔ zEv sc 75 36 [l0, .int x, l2, l3, l4, l5, l6] [.int x, t0] h Q := zE_pure (q := (36, [l0, .int x, l2, l3, l4, l5, l6], [.int x, t0])) dz75_35 rfl rfl rfl
theorem dz75_36 : decode (z_code 75) 36 = .ok (.invokevirtual 95, 3) := by decide +kernel
theorem u75_36 (ho : zO a 2) : zEv sc 75 36 [l0, l1, l2, l3, l4, l5, l6] [.int z0, .ref a] (zst p iv) Q ↔ zEv sc 14 0 [.ref a, .int z0] [] (zst p iv) (fun r h9 => zEv sc 75 39 [l0, l1, l2, l3, l4, l5, l6] (r.toList ++ []) h9 Q) := zE_call (kd := 0) (na := 2) (nr := 0) (as := [.ref a, .int z0]) (rest := []) (Or.inl ⟨rfl, rfl⟩) dz75_36 (by decide +kernel : z_lk2 zCT (z_cls 75) 95 = some (14, 1, 385)) (fun z => by cases z) rfl rfl rfl (by decide +kernel) rfl (Or.inr (zE_rc ho))
theorem dz75_39 : decode (z_code 75) 39 = .ok (.getfield 107, 3) := by decide +kernel
theorem u75_39 (ho : zO a 6) : zEv sc 75 39 [l0, l1, l2, l3, l4, l5, l6] [.ref a] (zst p iv) Q ↔ zRef (zRV p a 2) (fun j => zEv sc 75 42 [l0, l1, l2, l3, l4, l5, l6] [.ref j] (zst p iv) Q) := zE_gfR dz75_39 (by decide +kernel : z_lk3 zFT (z_cls 75) 107 = some (6, 2, 1, 152)) (by decide +kernel) ho
theorem dz75_42 : decode (z_code 75) 42 = .ok (.astore 4, 2) := by decide +kernel
theorem u75_42 : zEv sc 75 42 [l0, l1, l2, l3, l4, l5, l6] [.ref a] h Q ↔ zEv sc 75 44 [l0, l1, l2, l3, .ref a, l5, l6] [] h Q := zE_pure (q := (44, [l0, l1, l2, l3, .ref a, l5, l6], [])) dz75_42 rfl rfl rfl
theorem dz75_44 : decode (z_code 75) 44 = .ok (.iconst 0, 1) := by decide +kernel
theorem u75_44 : zEv sc 75 44 [l0, l1, l2, l3, l4, l5, l6] [] h Q ↔ zEv sc 75 45 [l0, l1, l2, l3, l4, l5, l6] [.int 0] h Q := zE_iconst dz75_44 (by decide +kernel)
theorem dz75_45 : decode (z_code 75) 45 = .ok (.istore 5, 2) := by decide +kernel
theorem u75_45 : zEv sc 75 45 [l0, l1, l2, l3, l4, l5, l6] [.int x] h Q ↔ zEv sc 75 47 [l0, l1, l2, l3, l4, .int x, l6] [] h Q := zE_pure (q := (47, [l0, l1, l2, l3, l4, .int x, l6], [])) dz75_45 rfl rfl rfl
theorem dz75_47 : decode (z_code 75) 47 = .ok (.iconst 0, 1) := by decide +kernel
theorem u75_47 : zEv sc 75 47 [l0, l1, l2, l3, l4, l5, l6] [] h Q ↔ zEv sc 75 48 [l0, l1, l2, l3, l4, l5, l6] [.int 0] h Q := zE_iconst dz75_47 (by decide +kernel)
theorem dz75_48 : decode (z_code 75) 48 = .ok (.istore 6, 2) := by decide +kernel
theorem u75_48 : zEv sc 75 48 [l0, l1, l2, l3, l4, l5, l6] [.int x] h Q ↔ zEv sc 75 50 [l0, l1, l2, l3, l4, l5, .int x] [] h Q := zE_pure (q := (50, [l0, l1, l2, l3, l4, l5, .int x], [])) dz75_48 rfl rfl rfl
theorem dz75_50 : decode (z_code 75) 50 = .ok (.iload 6, 2) := by decide +kernel
theorem u75_50 : zEv sc 75 50 [l0, l1, l2, l3, l4, l5, .int x] [] h Q ↔ zEv sc 75 52 [l0, l1, l2, l3, l4, l5, .int x] [.int x] h Q := zE_pure (q := (52, [l0, l1, l2, l3, l4, l5, .int x], [.int x])) dz75_50 rfl rfl rfl
theorem dz75_52 : decode (z_code 75) 52 = .ok (.aload 4, 2) := by decide +kernel
theorem u75_52 : zEv sc 75 52 [l0, l1, l2, l3, .ref a, l5, l6] [t0] h Q ↔ zEv sc 75 54 [l0, l1, l2, l3, .ref a, l5, l6] [.ref a, t0] h Q := zE_pure (q := (54, [l0, l1, l2, l3, .ref a, l5, l6], [.ref a, t0])) dz75_52 rfl rfl rfl
theorem dz75_54 : decode (z_code 75) 54 = .ok (.getfield 111, 3) := by decide +kernel
theorem u75_54 (ho : zO a 4) : zEv sc 75 54 [l0, l1, l2, l3, l4, l5, l6] [.ref a, t0] (zst p iv) Q ↔ zEv sc 75 57 [l0, l1, l2, l3, l4, l5, l6] [.int (iv a 0), t0] (zst p iv) Q := zE_gfI dz75_54 (by decide +kernel : z_lk3 zFT (z_cls 75) 111 = some (4, 0, 1, 126)) (by decide +kernel) ho
theorem dz75_57 : decode (z_code 75) 57 = .ok (.if_icmp .ge 42, 3) := by decide +kernel
theorem u75_57 : zEv sc 75 57 [l0, l1, l2, l3, l4, l5, l6] [.int x2, .int x1] h Q ↔ (if x2 ≤ x1 then zEv sc 75 99 [l0, l1, l2, l3, l4, l5, l6] [] h Q else zEv sc 75 60 [l0, l1, l2, l3, l4, l5, l6] [] h Q) := zE_icP (P := x2 ≤ x1) inferInstance 99 dz75_57 rfl rfl
theorem dz75_60 : decode (z_code 75) 60 = .ok (.aload_n 0, 1) := by decide +kernel
theorem u75_60 : zEv sc 75 60 [.ref a, l1, l2, l3, l4, l5, l6] [] h Q ↔ zEv sc 75 61 [.ref a, l1, l2, l3, l4, l5, l6] [.ref a] h Q := zE_pure (q := (61, [.ref a, l1, l2, l3, l4, l5, l6], [.ref a])) dz75_60 rfl rfl rfl
theorem dz75_61 : decode (z_code 75) 61 = .ok (.getfield 10, 3) := by decide +kernel
theorem u75_61 (ho : zO a 9) : zEv sc 75 61 [l0, l1, l2, l3, l4, l5, l6] [.ref a] (zst p iv) Q ↔ zRef (zRV p a 0) (fun j => zEv sc 75 64 [l0, l1, l2, l3, l4, l5, l6] [.ref j] (zst p iv) Q) := zE_gfR dz75_61 (by decide +kernel : z_lk3 zFT (z_cls 75) 10 = some (9, 0, 0, 309)) (by decide +kernel) ho
theorem dz75_64 : decode (z_code 75) 64 = .ok (.iload_n 2, 1) := by decide +kernel
theorem u75_64 : zEv sc 75 64 [l0, l1, .int x, l3, l4, l5, l6] [t0] h Q ↔ zEv sc 75 65 [l0, l1, .int x, l3, l4, l5, l6] [.int x, t0] h Q := zE_pure (q := (65, [l0, l1, .int x, l3, l4, l5, l6], [.int x, t0])) dz75_64 rfl rfl rfl
theorem dz75_65 : decode (z_code 75) 65 = .ok (.aload 4, 2) := by decide +kernel
theorem u75_65 : zEv sc 75 65 [l0, l1, l2, l3, .ref a, l5, l6] [t0, t1] h Q ↔ zEv sc 75 67 [l0, l1, l2, l3, .ref a, l5, l6] [.ref a, t0, t1] h Q := zE_pure (q := (67, [l0, l1, l2, l3, .ref a, l5, l6], [.ref a, t0, t1])) dz75_65 rfl rfl rfl
theorem dz75_67 : decode (z_code 75) 67 = .ok (.getfield 177, 3) := by decide +kernel
theorem u75_67 (ho : zO a 4) : zEv sc 75 67 [l0, l1, l2, l3, l4, l5, l6] [.ref a, t0, t1] (zst p iv) Q ↔ zRef (zRV p a 1) (fun j => zEv sc 75 70 [l0, l1, l2, l3, l4, l5, l6] [.ref j, t0, t1] (zst p iv) Q) := zE_gfR dz75_67 (by decide +kernel : z_lk3 zFT (z_cls 75) 177 = some (4, 1, 1, 131)) (by decide +kernel) ho
theorem dz75_70 : decode (z_code 75) 70 = .ok (.iload 6, 2) := by decide +kernel
theorem u75_70 : zEv sc 75 70 [l0, l1, l2, l3, l4, l5, .int x] [t0, t1, t2] h Q ↔ zEv sc 75 72 [l0, l1, l2, l3, l4, l5, .int x] [.int x, t0, t1, t2] h Q := zE_pure (q := (72, [l0, l1, l2, l3, l4, l5, .int x], [.int x, t0, t1, t2])) dz75_70 rfl rfl rfl
theorem dz75_72 : decode (z_code 75) 72 = .ok (.iaload, 1) := by decide +kernel
theorem u75_72 (ho : zO a 100) : zEv sc 75 72 [l0, l1, l2, l3, l4, l5, l6] [.int x, .ref a, t0, t1] (zst p iv) Q ↔ (vp_in x (zLn a) ∧ zEv sc 75 73 [l0, l1, l2, l3, l4, l5, l6] [.int (iv a x.toNatClampNeg), t0, t1] (zst p iv) Q) := zE_ald (Or.inl ⟨rfl, rfl⟩) dz75_72 ho
theorem dz75_73 : decode (z_code 75) 73 = .ok (.invokevirtual 196, 3) := by decide +kernel
theorem u75_73 (ho : zO a 2) : zEv sc 75 73 [l0, l1, l2, l3, l4, l5, l6] [.int z1, .int z0, .ref a] (zst p iv) Q ↔ zEv sc 21 0 [.ref a, .int z0, .int z1, .null, .null] [] (zst p iv) (fun r h9 => zEv sc 75 76 [l0, l1, l2, l3, l4, l5, l6] (r.toList ++ []) h9 Q) := zE_call (kd := 0) (na := 3) (nr := 0) (as := [.ref a, .int z0, .int z1]) (rest := []) (Or.inl ⟨rfl, rfl⟩) dz75_73 (by decide +kernel : z_lk2 zCT (z_cls 75) 196 = some (21, 1, 559)) (fun z => by cases z) rfl rfl rfl (by decide +kernel) rfl (Or.inr (zE_rc ho))
theorem dz75_76 : decode (z_code 75) 76 = .ok (.iload_n 3, 1) := by decide +kernel
theorem u75_76 : zEv sc 75 76 [l0, l1, l2, .int x, l4, l5, l6] [t0] h Q ↔ zEv sc 75 77 [l0, l1, l2, .int x, l4, l5, l6] [.int x, t0] h Q := zE_pure (q := (77, [l0, l1, l2, .int x, l4, l5, l6], [.int x, t0])) dz75_76 rfl rfl rfl
theorem dz75_77 : decode (z_code 75) 77 = .ok (.if_icmp .ne 16, 3) := by decide +kernel
theorem u75_77 : zEv sc 75 77 [l0, l1, l2, l3, l4, l5, l6] [.int x2, .int x1] h Q ↔ (if ¬ x1 = x2 then zEv sc 75 93 [l0, l1, l2, l3, l4, l5, l6] [] h Q else zEv sc 75 80 [l0, l1, l2, l3, l4, l5, l6] [] h Q) := zE_icP (P := ¬ x1 = x2) inferInstance 93 dz75_77 rfl rfl
theorem dz75_80 : decode (z_code 75) 80 = .ok (.iload 5, 2) := by decide +kernel
theorem u75_80 : zEv sc 75 80 [l0, l1, l2, l3, l4, .int x, l6] [] h Q ↔ zEv sc 75 82 [l0, l1, l2, l3, l4, .int x, l6] [.int x] h Q := zE_pure (q := (82, [l0, l1, l2, l3, l4, .int x, l6], [.int x])) dz75_80 rfl rfl rfl
theorem dz75_82 : decode (z_code 75) 82 = .ok (.aload 4, 2) := by decide +kernel
theorem u75_82 : zEv sc 75 82 [l0, l1, l2, l3, .ref a, l5, l6] [t0] h Q ↔ zEv sc 75 84 [l0, l1, l2, l3, .ref a, l5, l6] [.ref a, t0] h Q := zE_pure (q := (84, [l0, l1, l2, l3, .ref a, l5, l6], [.ref a, t0])) dz75_82 rfl rfl rfl
theorem dz75_84 : decode (z_code 75) 84 = .ok (.getfield 180, 3) := by decide +kernel
theorem u75_84 (ho : zO a 4) : zEv sc 75 84 [l0, l1, l2, l3, l4, l5, l6] [.ref a, t0] (zst p iv) Q ↔ zRef (zRV p a 2) (fun j => zEv sc 75 87 [l0, l1, l2, l3, l4, l5, l6] [.ref j, t0] (zst p iv) Q) := zE_gfR dz75_84 (by decide +kernel : z_lk3 zFT (z_cls 75) 180 = some (4, 2, 1, 134)) (by decide +kernel) ho
theorem dz75_87 : decode (z_code 75) 87 = .ok (.iload 6, 2) := by decide +kernel
theorem u75_87 : zEv sc 75 87 [l0, l1, l2, l3, l4, l5, .int x] [t0, t1] h Q ↔ zEv sc 75 89 [l0, l1, l2, l3, l4, l5, .int x] [.int x, t0, t1] h Q := zE_pure (q := (89, [l0, l1, l2, l3, l4, l5, .int x], [.int x, t0, t1])) dz75_87 rfl rfl rfl
theorem dz75_89 : decode (z_code 75) 89 = .ok (.iaload, 1) := by decide +kernel
theorem u75_89 (ho : zO a 100) : zEv sc 75 89 [l0, l1, l2, l3, l4, l5, l6] [.int x, .ref a, t0] (zst p iv) Q ↔ (vp_in x (zLn a) ∧ zEv sc 75 90 [l0, l1, l2, l3, l4, l5, l6] [.int (iv a x.toNatClampNeg), t0] (zst p iv) Q) := zE_ald (Or.inl ⟨rfl, rfl⟩) dz75_89 ho
theorem dz75_90 : decode (z_code 75) 90 = .ok (.iadd, 1) := by decide +kernel
theorem u75_90 : zEv sc 75 90 [l0, l1, l2, l3, l4, l5, l6] [.int x2, .int x1] h Q ↔ zEv sc 75 91 [l0, l1, l2, l3, l4, l5, l6] [.int (x1 + x2)] h Q := zE_pure (q := (91, [l0, l1, l2, l3, l4, l5, l6], [.int (x1 + x2)])) dz75_90 rfl rfl rfl
theorem dz75_91 : decode (z_code 75) 91 = .ok (.istore 5, 2) := by decide +kernel
theorem u75_91 : zEv sc 75 91 [l0, l1, l2, l3, l4, l5, l6] [.int x] h Q ↔ zEv sc 75 93 [l0, l1, l2, l3, l4, .int x, l6] [] h Q := zE_pure (q := (93, [l0, l1, l2, l3, l4, .int x, l6], [])) dz75_91 rfl rfl rfl
theorem dz75_93 : decode (z_code 75) 93 = .ok (.iinc 6 1, 3) := by decide +kernel
theorem u75_93 : zEv sc 75 93 [l0, l1, l2, l3, l4, l5, .int x] [] h Q ↔ zEv sc 75 96 [l0, l1, l2, l3, l4, l5, .int (x + 1)] [] h Q := zE_iinc (ls2 := [l0, l1, l2, l3, l4, l5, .int (x + 1)]) dz75_93 (by decide +kernel) rfl (by simp) rfl
theorem dz75_96 : decode (z_code 75) 96 = .ok (.goto (-46), 3) := by decide +kernel
theorem u75_96 : zEv sc 75 96 [l0, l1, l2, l3, l4, l5, l6] [] h Q ↔ zEv sc 75 50 [l0, l1, l2, l3, l4, l5, l6] [] h Q := zE_go 50 dz75_96 rfl
theorem dz75_99 : decode (z_code 75) 99 = .ok (.iload 5, 2) := by decide +kernel
theorem u75_99 : zEv sc 75 99 [l0, l1, l2, l3, l4, .int x, l6] [] h Q ↔ zEv sc 75 101 [l0, l1, l2, l3, l4, .int x, l6] [.int x] h Q := zE_pure (q := (101, [l0, l1, l2, l3, l4, .int x, l6], [.int x])) dz75_99 rfl rfl rfl
theorem dz75_101 : decode (z_code 75) 101 = .ok (.ireturn, 1) := by decide +kernel
theorem u75_101 : zEv sc 75 101 [l0, l1, l2, l3, l4, l5, l6] [.int x] h Q ↔ Q (some (.int x)) h := zE_ri dz75_101 (by decide +kernel)
theorem dz75_28 : decode (z_code 75) 28 = .ok (.ldc 71, 2) := by decide +kernel
theorem u75_28 : zEv sc 75 28 [l0, l1, l2, l3, l4, l5, l6] [] h Q ↔ zEv sc 75 30 [l0, l1, l2, l3, l4, l5, l6] [.int (-1000001)] h Q := zE_ldc (by decide +kernel : z_lkK zKT (z_cls 75) 71 = some ((-1000001), 347)) dz75_28
theorem dz75_30 : decode (z_code 75) 30 = .ok (.ireturn, 1) := by decide +kernel
theorem u75_30 : zEv sc 75 30 [l0, l1, l2, l3, l4, l5, l6] [.int x] h Q ↔ Q (some (.int x)) h := zE_ri dz75_30 (by decide +kernel)
/-! method 76: FieldMixtures.isPart(I)Z -/
theorem dz76_0 : decode (z_code 76) 0 = .ok (.iload_n 0, 1) := by decide +kernel
theorem u76_0 : zEv sc 76 0 [.int x] [] h Q ↔ zEv sc 76 1 [.int x] [.int x] h Q := zE_pure (q := (1, [.int x], [.int x])) dz76_0 rfl rfl rfl
theorem dz76_1 : decode (z_code 76) 1 = .ok (.iconst 0, 1) := by decide +kernel
theorem u76_1 : zEv sc 76 1 [l0] [t0] h Q ↔ zEv sc 76 2 [l0] [.int 0, t0] h Q := zE_iconst dz76_1 (by decide +kernel)
theorem dz76_2 : decode (z_code 76) 2 = .ok (.iconst 1, 1) := by decide +kernel
theorem u76_2 : zEv sc 76 2 [l0] [t0, t1] h Q ↔ zEv sc 76 3 [l0] [.int 1, t0, t1] h Q := zE_iconst dz76_2 (by decide +kernel)
theorem dz76_3 : decode (z_code 76) 3 = .ok (.invokestatic 67, 3) := by decide +kernel
theorem u76_3 : zEv sc 76 3 [l0] [.int z2, .int z1, .int z0] h Q ↔ zEv sc 15 0 [.int z0, .int z1, .int z2] [] h (fun r h9 => zEv sc 76 6 [l0] (r.toList ++ []) h9 Q) := zE_call (kd := 1) (na := 3) (nr := 0) (as := [.int z0, .int z1, .int z2]) (rest := []) (Or.inr ⟨rfl, rfl⟩) dz76_3 (by decide +kernel : z_lk2 zCT (z_cls 76) 67 = some (15, 0, 344)) (fun _ => by decide +kernel) rfl rfl rfl (by decide +kernel) rfl (Or.inl rfl)
theorem dz76_6 : decode (z_code 76) 6 = .ok (.ireturn, 1) := by decide +kernel
theorem u76_6 : zEv sc 76 6 [l0] [.int x] h Q ↔ ((x = 0 ∨ x = 1) ∧ Q (some (.int x)) h) := zE_rz dz76_6 (by decide +kernel)
/-! method 77: FieldMixtures.mean(III)I -/
theorem dz77_0 : decode (z_code 77) 0 = .ok (.iload_n 1, 1) := by decide +kernel
theorem u77_0 : zEv sc 77 0 [l0, .int x, l2, l3, l4, l5, l6] [] h Q ↔ zEv sc 77 1 [l0, .int x, l2, l3, l4, l5, l6] [.int x] h Q := zE_pure (q := (1, [l0, .int x, l2, l3, l4, l5, l6], [.int x])) dz77_0 rfl rfl rfl
theorem dz77_1 : decode (z_code 77) 1 = .ok (.invokestatic 92, 3) := by decide +kernel
theorem u77_1 : zEv sc 77 1 [l0, l1, l2, l3, l4, l5, l6] [.int z0] h Q ↔ zEv sc 47 0 [.int z0] [] h (fun r h9 => zEv sc 77 4 [l0, l1, l2, l3, l4, l5, l6] (r.toList ++ []) h9 Q) := zE_call (kd := 1) (na := 1) (nr := 0) (as := [.int z0]) (rest := []) (Or.inr ⟨rfl, rfl⟩) dz77_1 (by decide +kernel : z_lk2 zCT (z_cls 77) 92 = some (47, 0, 382)) (fun _ => by decide +kernel) rfl rfl rfl (by decide +kernel) rfl (Or.inl rfl)
theorem dz77_4 : decode (z_code 77) 4 = .ok (.ifCond .eq 21, 3) := by decide +kernel
theorem u77_4 : zEv sc 77 4 [l0, l1, l2, l3, l4, l5, l6] [.int x] h Q ↔ (if x = 0 then zEv sc 77 25 [l0, l1, l2, l3, l4, l5, l6] [] h Q else zEv sc 77 7 [l0, l1, l2, l3, l4, l5, l6] [] h Q) := zE_ifP (P := x = 0) inferInstance 25 dz77_4 rfl rfl
theorem dz77_7 : decode (z_code 77) 7 = .ok (.aload_n 0, 1) := by decide +kernel
theorem u77_7 : zEv sc 77 7 [.ref a, l1, l2, l3, l4, l5, l6] [] h Q ↔ zEv sc 77 8 [.ref a, l1, l2, l3, l4, l5, l6] [.ref a] h Q := zE_pure (q := (8, [.ref a, l1, l2, l3, l4, l5, l6], [.ref a])) dz77_7 rfl rfl rfl
theorem dz77_8 : decode (z_code 77) 8 = .ok (.getfield 10, 3) := by decide +kernel
theorem u77_8 (ho : zO a 9) : zEv sc 77 8 [l0, l1, l2, l3, l4, l5, l6] [.ref a] (zst p iv) Q ↔ zRef (zRV p a 0) (fun j => zEv sc 77 11 [l0, l1, l2, l3, l4, l5, l6] [.ref j] (zst p iv) Q) := zE_gfR dz77_8 (by decide +kernel : z_lk3 zFT (z_cls 77) 10 = some (9, 0, 0, 309)) (by decide +kernel) ho
theorem dz77_11 : decode (z_code 77) 11 = .ok (.iload_n 2, 1) := by decide +kernel
theorem u77_11 : zEv sc 77 11 [l0, l1, .int x, l3, l4, l5, l6] [t0] h Q ↔ zEv sc 77 12 [l0, l1, .int x, l3, l4, l5, l6] [.int x, t0] h Q := zE_pure (q := (12, [l0, l1, .int x, l3, l4, l5, l6], [.int x, t0])) dz77_11 rfl rfl rfl
theorem dz77_12 : decode (z_code 77) 12 = .ok (.invokevirtual 84, 3) := by decide +kernel
theorem u77_12 (ho : zO a 2) : zEv sc 77 12 [l0, l1, l2, l3, l4, l5, l6] [.int z0, .ref a] (zst p iv) Q ↔ zEv sc 16 0 [.ref a, .int z0] [] (zst p iv) (fun r h9 => zEv sc 77 15 [l0, l1, l2, l3, l4, l5, l6] (r.toList ++ []) h9 Q) := zE_call (kd := 0) (na := 2) (nr := 0) (as := [.ref a, .int z0]) (rest := []) (Or.inl ⟨rfl, rfl⟩) dz77_12 (by decide +kernel : z_lk2 zCT (z_cls 77) 84 = some (16, 1, 373)) (fun z => by cases z) rfl rfl rfl (by decide +kernel) rfl (Or.inr (zE_rc ho))
theorem dz77_15 : decode (z_code 77) 15 = .ok (.ifCond .eq 10, 3) := by decide +kernel
theorem u77_15 : zEv sc 77 15 [l0, l1, l2, l3, l4, l5, l6] [.int x] h Q ↔ (if x = 0 then zEv sc 77 25 [l0, l1, l2, l3, l4, l5, l6] [] h Q else zEv sc 77 18 [l0, l1, l2, l3, l4, l5, l6] [] h Q) := zE_ifP (P := x = 0) inferInstance 25 dz77_15 rfl rfl
theorem dz77_18 : decode (z_code 77) 18 = .ok (.iload_n 3, 1) := by decide +kernel
theorem u77_18 : zEv sc 77 18 [l0, l1, l2, .int x, l4, l5, l6] [] h Q ↔ zEv sc 77 19 [l0, l1, l2, .int x, l4, l5, l6] [.int x] h Q := zE_pure (q := (19, [l0, l1, l2, .int x, l4, l5, l6], [.int x])) dz77_18 rfl rfl rfl
theorem dz77_19 : decode (z_code 77) 19 = .ok (.invokestatic 200, 3) := by decide +kernel
theorem u77_19 : zEv sc 77 19 [l0, l1, l2, l3, l4, l5, l6] [.int z0] h Q ↔ zEv sc 76 0 [.int z0] [] h (fun r h9 => zEv sc 77 22 [l0, l1, l2, l3, l4, l5, l6] (r.toList ++ []) h9 Q) := zE_call (kd := 1) (na := 1) (nr := 0) (as := [.int z0]) (rest := []) (Or.inr ⟨rfl, rfl⟩) dz77_19 (by decide +kernel : z_lk2 zCT (z_cls 77) 200 = some (76, 0, 564)) (fun _ => by decide +kernel) rfl rfl rfl (by decide +kernel) rfl (Or.inl rfl)
theorem dz77_22 : decode (z_code 77) 22 = .ok (.ifCond .ne 6, 3) := by decide +kernel
theorem u77_22 : zEv sc 77 22 [l0, l1, l2, l3, l4, l5, l6] [.int x] h Q ↔ (if ¬ x = 0 then zEv sc 77 28 [l0, l1, l2, l3, l4, l5, l6] [] h Q else zEv sc 77 25 [l0, l1, l2, l3, l4, l5, l6] [] h Q) := zE_ifP (P := ¬ x = 0) inferInstance 28 dz77_22 rfl rfl
theorem dz77_28 : decode (z_code 77) 28 = .ok (.aload_n 0, 1) := by decide +kernel
theorem u77_28 : zEv sc 77 28 [.ref a, l1, l2, l3, l4, l5, l6] [] h Q ↔ zEv sc 77 29 [.ref a, l1, l2, l3, l4, l5, l6] [.ref a] h Q := zE_pure (q := (29, [.ref a, l1, l2, l3, l4, l5, l6], [.ref a])) dz77_28 rfl rfl rfl
theorem dz77_29 : decode (z_code 77) 29 = .ok (.getfield 10, 3) := by decide +kernel
theorem u77_29 (ho : zO a 9) : zEv sc 77 29 [l0, l1, l2, l3, l4, l5, l6] [.ref a] (zst p iv) Q ↔ zRef (zRV p a 0) (fun j => zEv sc 77 32 [l0, l1, l2, l3, l4, l5, l6] [.ref j] (zst p iv) Q) := zE_gfR dz77_29 (by decide +kernel : z_lk3 zFT (z_cls 77) 10 = some (9, 0, 0, 309)) (by decide +kernel) ho
theorem dz77_32 : decode (z_code 77) 32 = .ok (.iload_n 1, 1) := by decide +kernel
theorem u77_32 : zEv sc 77 32 [l0, .int x, l2, l3, l4, l5, l6] [t0] h Q ↔ zEv sc 77 33 [l0, .int x, l2, l3, l4, l5, l6] [.int x, t0] h Q := zE_pure (q := (33, [l0, .int x, l2, l3, l4, l5, l6], [.int x, t0])) dz77_32 rfl rfl rfl
theorem dz77_33 : decode (z_code 77) 33 = .ok (.invokevirtual 95, 3) := by decide +kernel
theorem u77_33 (ho : zO a 2) : zEv sc 77 33 [l0, l1, l2, l3, l4, l5, l6] [.int z0, .ref a] (zst p iv) Q ↔ zEv sc 14 0 [.ref a, .int z0] [] (zst p iv) (fun r h9 => zEv sc 77 36 [l0, l1, l2, l3, l4, l5, l6] (r.toList ++ []) h9 Q) := zE_call (kd := 0) (na := 2) (nr := 0) (as := [.ref a, .int z0]) (rest := []) (Or.inl ⟨rfl, rfl⟩) dz77_33 (by decide +kernel : z_lk2 zCT (z_cls 77) 95 = some (14, 1, 385)) (fun z => by cases z) rfl rfl rfl (by decide +kernel) rfl (Or.inr (zE_rc ho))
theorem dz77_36 : decode (z_code 77) 36 = .ok (.getfield 107, 3) := by decide +kernel
theorem u77_36 (ho : zO a 6) : zEv sc 77 36 [l0, l1, l2, l3, l4, l5, l6] [.ref a] (zst p iv) Q ↔ zRef (zRV p a 2) (fun j => zEv sc 77 39 [l0, l1, l2, l3, l4, l5, l6] [.ref j] (zst p iv) Q) := zE_gfR dz77_36 (by decide +kernel : z_lk3 zFT (z_cls 77) 107 = some (6, 2, 1, 152)) (by decide +kernel) ho
theorem dz77_39 : decode (z_code 77) 39 = .ok (.astore 4, 2) := by decide +kernel
theorem u77_39 : zEv sc 77 39 [l0, l1, l2, l3, l4, l5, l6] [.ref a] h Q ↔ zEv sc 77 41 [l0, l1, l2, l3, .ref a, l5, l6] [] h Q := zE_pure (q := (41, [l0, l1, l2, l3, .ref a, l5, l6], [])) dz77_39 rfl rfl rfl
theorem dz77_41 : decode (z_code 77) 41 = .ok (.aload 4, 2) := by decide +kernel
theorem u77_41 : zEv sc 77 41 [l0, l1, l2, l3, .ref a, l5, l6] [] h Q ↔ zEv sc 77 43 [l0, l1, l2, l3, .ref a, l5, l6] [.ref a] h Q := zE_pure (q := (43, [l0, l1, l2, l3, .ref a, l5, l6], [.ref a])) dz77_41 rfl rfl rfl
theorem dz77_43 : decode (z_code 77) 43 = .ok (.getfield 111, 3) := by decide +kernel
theorem u77_43 (ho : zO a 4) : zEv sc 77 43 [l0, l1, l2, l3, l4, l5, l6] [.ref a] (zst p iv) Q ↔ zEv sc 77 46 [l0, l1, l2, l3, l4, l5, l6] [.int (iv a 0)] (zst p iv) Q := zE_gfI dz77_43 (by decide +kernel : z_lk3 zFT (z_cls 77) 111 = some (4, 0, 1, 126)) (by decide +kernel) ho
theorem dz77_46 : decode (z_code 77) 46 = .ok (.ifCond .ne 6, 3) := by decide +kernel
theorem u77_46 : zEv sc 77 46 [l0, l1, l2, l3, l4, l5, l6] [.int x] h Q ↔ (if ¬ x = 0 then zEv sc 77 52 [l0, l1, l2, l3, l4, l5, l6] [] h Q else zEv sc 77 49 [l0, l1, l2, l3, l4, l5, l6] [] h Q) := zE_ifP (P := ¬ x = 0) inferInstance 52 dz77_46 rfl rfl
theorem dz77_49 : decode (z_code 77) 49 = .ok (.ldc 155, 2) := by decide +kernel
theorem u77_49 : zEv sc 77 49 [l0, l1, l2, l3, l4, l5, l6] [] h Q ↔ zEv sc 77 51 [l0, l1, l2, l3, l4, l5, l6] [.int (-1000002)] h Q := zE_ldc (by decide +kernel : z_lkK zKT (z_cls 77) 155 = some ((-1000002), 483)) dz77_49
theorem dz77_51 : decode (z_code 77) 51 = .ok (.ireturn, 1) := by decide +kernel
theorem u77_51 : zEv sc 77 51 [l0, l1, l2, l3, l4, l5, l6] [.int x] h Q ↔ Q (some (.int x)) h := zE_ri dz77_51 (by decide +kernel)
theorem dz77_52 : decode (z_code 77) 52 = .ok (.iconst 0, 1) := by decide +kernel
theorem u77_52 : zEv sc 77 52 [l0, l1, l2, l3, l4, l5, l6] [] h Q ↔ zEv sc 77 53 [l0, l1, l2, l3, l4, l5, l6] [.int 0] h Q := zE_iconst dz77_52 (by decide +kernel)
theorem dz77_53 : decode (z_code 77) 53 = .ok (.istore 5, 2) := by decide +kernel
theorem u77_53 : zEv sc 77 53 [l0, l1, l2, l3, l4, l5, l6] [.int x] h Q ↔ zEv sc 77 55 [l0, l1, l2, l3, l4, .int x, l6] [] h Q := zE_pure (q := (55, [l0, l1, l2, l3, l4, .int x, l6], [])) dz77_53 rfl rfl rfl
theorem dz77_55 : decode (z_code 77) 55 = .ok (.iconst 0, 1) := by decide +kernel
theorem u77_55 : zEv sc 77 55 [l0, l1, l2, l3, l4, l5, l6] [] h Q ↔ zEv sc 77 56 [l0, l1, l2, l3, l4, l5, l6] [.int 0] h Q := zE_iconst dz77_55 (by decide +kernel)
theorem dz77_56 : decode (z_code 77) 56 = .ok (.istore 6, 2) := by decide +kernel
theorem u77_56 : zEv sc 77 56 [l0, l1, l2, l3, l4, l5, l6] [.int x] h Q ↔ zEv sc 77 58 [l0, l1, l2, l3, l4, l5, .int x] [] h Q := zE_pure (q := (58, [l0, l1, l2, l3, l4, l5, .int x], [])) dz77_56 rfl rfl rfl
theorem dz77_58 : decode (z_code 77) 58 = .ok (.iload 6, 2) := by decide +kernel
theorem u77_58 : zEv sc 77 58 [l0, l1, l2, l3, l4, l5, .int x] [] h Q ↔ zEv sc 77 60 [l0, l1, l2, l3, l4, l5, .int x] [.int x] h Q := zE_pure (q := (60, [l0, l1, l2, l3, l4, l5, .int x], [.int x])) dz77_58 rfl rfl rfl
theorem dz77_60 : decode (z_code 77) 60 = .ok (.aload 4, 2) := by decide +kernel
theorem u77_60 : zEv sc 77 60 [l0, l1, l2, l3, .ref a, l5, l6] [t0] h Q ↔ zEv sc 77 62 [l0, l1, l2, l3, .ref a, l5, l6] [.ref a, t0] h Q := zE_pure (q := (62, [l0, l1, l2, l3, .ref a, l5, l6], [.ref a, t0])) dz77_60 rfl rfl rfl
theorem dz77_62 : decode (z_code 77) 62 = .ok (.getfield 111, 3) := by decide +kernel
theorem u77_62 (ho : zO a 4) : zEv sc 77 62 [l0, l1, l2, l3, l4, l5, l6] [.ref a, t0] (zst p iv) Q ↔ zEv sc 77 65 [l0, l1, l2, l3, l4, l5, l6] [.int (iv a 0), t0] (zst p iv) Q := zE_gfI dz77_62 (by decide +kernel : z_lk3 zFT (z_cls 77) 111 = some (4, 0, 1, 126)) (by decide +kernel) ho
theorem dz77_65 : decode (z_code 77) 65 = .ok (.if_icmp .ge 39, 3) := by decide +kernel
theorem u77_65 : zEv sc 77 65 [l0, l1, l2, l3, l4, l5, l6] [.int x2, .int x1] h Q ↔ (if x2 ≤ x1 then zEv sc 77 104 [l0, l1, l2, l3, l4, l5, l6] [] h Q else zEv sc 77 68 [l0, l1, l2, l3, l4, l5, l6] [] h Q) := zE_icP (P := x2 ≤ x1) inferInstance 104 dz77_65 rfl rfl
theorem dz77_68 : decode (z_code 77) 68 = .ok (.iload 5, 2) := by decide +kernel
theorem u77_68 : zEv sc 77 68 [l0, l1, l2, l3, l4, .int x, l6] [] h Q ↔ zEv sc 77 70 [l0, l1, l2, l3, l4, .int x, l6] [.int x] h Q := zE_pure (q := (70, [l0, l1, l2, l3, l4, .int x, l6], [.int x])) dz77_68 rfl rfl rfl
theorem dz77_70 : decode (z_code 77) 70 = .ok (.aload 4, 2) := by decide +kernel
theorem u77_70 : zEv sc 77 70 [l0, l1, l2, l3, .ref a, l5, l6] [t0] h Q ↔ zEv sc 77 72 [l0, l1, l2, l3, .ref a, l5, l6] [.ref a, t0] h Q := zE_pure (q := (72, [l0, l1, l2, l3, .ref a, l5, l6], [.ref a, t0])) dz77_70 rfl rfl rfl
theorem dz77_72 : decode (z_code 77) 72 = .ok (.getfield 180, 3) := by decide +kernel
theorem u77_72 (ho : zO a 4) : zEv sc 77 72 [l0, l1, l2, l3, l4, l5, l6] [.ref a, t0] (zst p iv) Q ↔ zRef (zRV p a 2) (fun j => zEv sc 77 75 [l0, l1, l2, l3, l4, l5, l6] [.ref j, t0] (zst p iv) Q) := zE_gfR dz77_72 (by decide +kernel : z_lk3 zFT (z_cls 77) 180 = some (4, 2, 1, 134)) (by decide +kernel) ho
theorem dz77_75 : decode (z_code 77) 75 = .ok (.iload 6, 2) := by decide +kernel
theorem u77_75 : zEv sc 77 75 [l0, l1, l2, l3, l4, l5, .int x] [t0, t1] h Q ↔ zEv sc 77 77 [l0, l1, l2, l3, l4, l5, .int x] [.int x, t0, t1] h Q := zE_pure (q := (77, [l0, l1, l2, l3, l4, l5, .int x], [.int x, t0, t1])) dz77_75 rfl rfl rfl
theorem dz77_77 : decode (z_code 77) 77 = .ok (.iaload, 1) := by decide +kernel
theorem u77_77 (ho : zO a 100) : zEv sc 77 77 [l0, l1, l2, l3, l4, l5, l6] [.int x, .ref a, t0] (zst p iv) Q ↔ (vp_in x (zLn a) ∧ zEv sc 77 78 [l0, l1, l2, l3, l4, l5, l6] [.int (iv a x.toNatClampNeg), t0] (zst p iv) Q) := zE_ald (Or.inl ⟨rfl, rfl⟩) dz77_77 ho
theorem dz77_78 : decode (z_code 77) 78 = .ok (.aload_n 0, 1) := by decide +kernel
theorem u77_78 : zEv sc 77 78 [.ref a, l1, l2, l3, l4, l5, l6] [t0, t1] h Q ↔ zEv sc 77 79 [.ref a, l1, l2, l3, l4, l5, l6] [.ref a, t0, t1] h Q := zE_pure (q := (79, [.ref a, l1, l2, l3, l4, l5, l6], [.ref a, t0, t1])) dz77_78 rfl rfl rfl
theorem dz77_79 : decode (z_code 77) 79 = .ok (.getfield 10, 3) := by decide +kernel
theorem u77_79 (ho : zO a 9) : zEv sc 77 79 [l0, l1, l2, l3, l4, l5, l6] [.ref a, t0, t1] (zst p iv) Q ↔ zRef (zRV p a 0) (fun j => zEv sc 77 82 [l0, l1, l2, l3, l4, l5, l6] [.ref j, t0, t1] (zst p iv) Q) := zE_gfR dz77_79 (by decide +kernel : z_lk3 zFT (z_cls 77) 10 = some (9, 0, 0, 309)) (by decide +kernel) ho
theorem dz77_82 : decode (z_code 77) 82 = .ok (.iload_n 2, 1) := by decide +kernel
theorem u77_82 : zEv sc 77 82 [l0, l1, .int x, l3, l4, l5, l6] [t0, t1, t2] h Q ↔ zEv sc 77 83 [l0, l1, .int x, l3, l4, l5, l6] [.int x, t0, t1, t2] h Q := zE_pure (q := (83, [l0, l1, .int x, l3, l4, l5, l6], [.int x, t0, t1, t2])) dz77_82 rfl rfl rfl
theorem dz77_83 : decode (z_code 77) 83 = .ok (.aload 4, 2) := by decide +kernel
theorem u77_83 : zEv sc 77 83 [l0, l1, l2, l3, .ref a, l5, l6] [t0, t1, t2, t3] h Q ↔ zEv sc 77 85 [l0, l1, l2, l3, .ref a, l5, l6] [.ref a, t0, t1, t2, t3] h Q := zE_pure (q := (85, [l0, l1, l2, l3, .ref a, l5, l6], [.ref a, t0, t1, t2, t3])) dz77_83 rfl rfl rfl
theorem dz77_85 : decode (z_code 77) 85 = .ok (.getfield 177, 3) := by decide +kernel
theorem u77_85 (ho : zO a 4) : zEv sc 77 85 [l0, l1, l2, l3, l4, l5, l6] [.ref a, t0, t1, t2, t3] (zst p iv) Q ↔ zRef (zRV p a 1) (fun j => zEv sc 77 88 [l0, l1, l2, l3, l4, l5, l6] [.ref j, t0, t1, t2, t3] (zst p iv) Q) := zE_gfR dz77_85 (by decide +kernel : z_lk3 zFT (z_cls 77) 177 = some (4, 1, 1, 131)) (by decide +kernel) ho
theorem dz77_88 : decode (z_code 77) 88 = .ok (.iload 6, 2) := by decide +kernel
theorem u77_88 : zEv sc 77 88 [l0, l1, l2, l3, l4, l5, .int x] [t0, t1, t2, t3, t4] h Q ↔ zEv sc 77 90 [l0, l1, l2, l3, l4, l5, .int x] [.int x, t0, t1, t2, t3, t4] h Q := zE_pure (q := (90, [l0, l1, l2, l3, l4, l5, .int x], [.int x, t0, t1, t2, t3, t4])) dz77_88 rfl rfl rfl
theorem dz77_90 : decode (z_code 77) 90 = .ok (.iaload, 1) := by decide +kernel
theorem u77_90 (ho : zO a 100) : zEv sc 77 90 [l0, l1, l2, l3, l4, l5, l6] [.int x, .ref a, t0, t1, t2, t3] (zst p iv) Q ↔ (vp_in x (zLn a) ∧ zEv sc 77 91 [l0, l1, l2, l3, l4, l5, l6] [.int (iv a x.toNatClampNeg), t0, t1, t2, t3] (zst p iv) Q) := zE_ald (Or.inl ⟨rfl, rfl⟩) dz77_90 ho
theorem dz77_91 : decode (z_code 77) 91 = .ok (.invokevirtual 196, 3) := by decide +kernel
theorem u77_91 (ho : zO a 2) : zEv sc 77 91 [l0, l1, l2, l3, l4, l5, l6] [.int z1, .int z0, .ref a, t0, t1] (zst p iv) Q ↔ zEv sc 21 0 [.ref a, .int z0, .int z1, .null, .null] [] (zst p iv) (fun r h9 => zEv sc 77 94 [l0, l1, l2, l3, l4, l5, l6] (r.toList ++ [t0, t1]) h9 Q) := zE_call (kd := 0) (na := 3) (nr := 2) (as := [.ref a, .int z0, .int z1]) (rest := [t0, t1]) (Or.inl ⟨rfl, rfl⟩) dz77_91 (by decide +kernel : z_lk2 zCT (z_cls 77) 196 = some (21, 1, 559)) (fun z => by cases z) rfl rfl rfl (by decide +kernel) rfl (Or.inr (zE_rc ho))
theorem dz77_94 : decode (z_code 77) 94 = .ok (.imul, 1) := by decide +kernel
theorem u77_94 : zEv sc 77 94 [l0, l1, l2, l3, l4, l5, l6] [.int x2, .int x1, t0] h Q ↔ zEv sc 77 95 [l0, l1, l2, l3, l4, l5, l6] [.int (x1 * x2), t0] h Q := zE_pure (q := (95, [l0, l1, l2, l3, l4, l5, l6], [.int (x1 * x2), t0])) dz77_94 rfl rfl rfl
theorem dz77_95 : decode (z_code 77) 95 = .ok (.iadd, 1) := by decide +kernel
theorem u77_95 : zEv sc 77 95 [l0, l1, l2, l3, l4, l5, l6] [.int x2, .int x1] h Q ↔ zEv sc 77 96 [l0, l1, l2, l3, l4, l5, l6] [.int (x1 + x2)] h Q := zE_pure (q := (96, [l0, l1, l2, l3, l4, l5, l6], [.int (x1 + x2)])) dz77_95 rfl rfl rfl
theorem dz77_96 : decode (z_code 77) 96 = .ok (.istore 5, 2) := by decide +kernel
theorem u77_96 : zEv sc 77 96 [l0, l1, l2, l3, l4, l5, l6] [.int x] h Q ↔ zEv sc 77 98 [l0, l1, l2, l3, l4, .int x, l6] [] h Q := zE_pure (q := (98, [l0, l1, l2, l3, l4, .int x, l6], [])) dz77_96 rfl rfl rfl
theorem dz77_98 : decode (z_code 77) 98 = .ok (.iinc 6 1, 3) := by decide +kernel
theorem u77_98 : zEv sc 77 98 [l0, l1, l2, l3, l4, l5, .int x] [] h Q ↔ zEv sc 77 101 [l0, l1, l2, l3, l4, l5, .int (x + 1)] [] h Q := zE_iinc (ls2 := [l0, l1, l2, l3, l4, l5, .int (x + 1)]) dz77_98 (by decide +kernel) rfl (by simp) rfl
theorem dz77_101 : decode (z_code 77) 101 = .ok (.goto (-43), 3) := by decide +kernel
theorem u77_101 : zEv sc 77 101 [l0, l1, l2, l3, l4, l5, l6] [] h Q ↔ zEv sc 77 58 [l0, l1, l2, l3, l4, l5, l6] [] h Q := zE_go 58 dz77_101 rfl
theorem dz77_104 : decode (z_code 77) 104 = .ok (.iload_n 3, 1) := by decide +kernel
theorem u77_104 : zEv sc 77 104 [l0, l1, l2, .int x, l4, l5, l6] [] h Q ↔ zEv sc 77 105 [l0, l1, l2, .int x, l4, l5, l6] [.int x] h Q := zE_pure (q := (105, [l0, l1, l2, .int x, l4, l5, l6], [.int x])) dz77_104 rfl rfl rfl
theorem dz77_105 : decode (z_code 77) 105 = .ok (.iload 5, 2) := by decide +kernel
theorem u77_105 : zEv sc 77 105 [l0, l1, l2, l3, l4, .int x, l6] [t0] h Q ↔ zEv sc 77 107 [l0, l1, l2, l3, l4, .int x, l6] [.int x, t0] h Q := zE_pure (q := (107, [l0, l1, l2, l3, l4, .int x, l6], [.int x, t0])) dz77_105 rfl rfl rfl
theorem dz77_107 : decode (z_code 77) 107 = .ok (.aload 4, 2) := by decide +kernel
theorem u77_107 : zEv sc 77 107 [l0, l1, l2, l3, .ref a, l5, l6] [t0, t1] h Q ↔ zEv sc 77 109 [l0, l1, l2, l3, .ref a, l5, l6] [.ref a, t0, t1] h Q := zE_pure (q := (109, [l0, l1, l2, l3, .ref a, l5, l6], [.ref a, t0, t1])) dz77_107 rfl rfl rfl
theorem dz77_109 : decode (z_code 77) 109 = .ok (.invokevirtual 203, 3) := by decide +kernel
theorem u77_109 (ho : zO a 4) : zEv sc 77 109 [l0, l1, l2, l3, l4, l5, l6] [.ref a, t0, t1] (zst p iv) Q ↔ zEv sc 36 0 [.ref a, .null, .null] [] (zst p iv) (fun r h9 => zEv sc 77 112 [l0, l1, l2, l3, l4, l5, l6] (r.toList ++ [t0, t1]) h9 Q) := zE_call (kd := 0) (na := 1) (nr := 2) (as := [.ref a]) (rest := [t0, t1]) (Or.inl ⟨rfl, rfl⟩) dz77_109 (by decide +kernel : z_lk2 zCT (z_cls 77) 203 = some (36, 1, 567)) (fun z => by cases z) rfl rfl rfl (by decide +kernel) rfl (Or.inr (zE_rc ho))
theorem dz77_112 : decode (z_code 77) 112 = .ok (.invokestatic 193, 3) := by decide +kernel
theorem u77_112 : zEv sc 77 112 [l0, l1, l2, l3, l4, l5, l6] [.int z2, .int z1, .int z0] h Q ↔ zEv sc 73 0 [.int z0, .int z1, .int z2, .null] [] h (fun r h9 => zEv sc 77 115 [l0, l1, l2, l3, l4, l5, l6] (r.toList ++ []) h9 Q) := zE_call (kd := 1) (na := 3) (nr := 0) (as := [.int z0, .int z1, .int z2]) (rest := []) (Or.inr ⟨rfl, rfl⟩) dz77_112 (by decide +kernel : z_lk2 zCT (z_cls 77) 193 = some (73, 0, 542)) (fun _ => by decide +kernel) rfl rfl rfl (by decide +kernel) rfl (Or.inl rfl)
theorem dz77_115 : decode (z_code 77) 115 = .ok (.ireturn, 1) := by decide +kernel
theorem u77_115 : zEv sc 77 115 [l0, l1, l2, l3, l4, l5, l6] [.int x] h Q ↔ Q (some (.int x)) h := zE_ri dz77_115 (by decide +kernel)
theorem dz77_25 : decode (z_code 77) 25 = .ok (.ldc 71, 2) := by decide +kernel
theorem u77_25 : zEv sc 77 25 [l0, l1, l2, l3, l4, l5, l6] [] h Q ↔ zEv sc 77 27 [l0, l1, l2, l3, l4, l5, l6] [.int (-1000001)] h Q := zE_ldc (by decide +kernel : z_lkK zKT (z_cls 77) 71 = some ((-1000001), 347)) dz77_25
theorem dz77_27 : decode (z_code 77) 27 = .ok (.ireturn, 1) := by decide +kernel
theorem u77_27 : zEv sc 77 27 [l0, l1, l2, l3, l4, l5, l6] [.int x] h Q ↔ Q (some (.int x)) h := zE_ri dz77_27 (by decide +kernel)
/-! method 78: FieldMixtures.expected(I)I -/
theorem dz78_0 : decode (z_code 78) 0 = .ok (.iload_n 1, 1) := by decide +kernel
theorem u78_0 : zEv sc 78 0 [l0, .int x, l2] [] h Q ↔ zEv sc 78 1 [l0, .int x, l2] [.int x] h Q := zE_pure (q := (1, [l0, .int x, l2], [.int x])) dz78_0 rfl rfl rfl
theorem dz78_1 : decode (z_code 78) 1 = .ok (.invokestatic 200, 3) := by decide +kernel
theorem u78_1 : zEv sc 78 1 [l0, l1, l2] [.int z0] h Q ↔ zEv sc 76 0 [.int z0] [] h (fun r h9 => zEv sc 78 4 [l0, l1, l2] (r.toList ++ []) h9 Q) := zE_call (kd := 1) (na := 1) (nr := 0) (as := [.int z0]) (rest := []) (Or.inr ⟨rfl, rfl⟩) dz78_1 (by decide +kernel : z_lk2 zCT (z_cls 78) 200 = some (76, 0, 564)) (fun _ => by decide +kernel) rfl rfl rfl (by decide +kernel) rfl (Or.inl rfl)
theorem dz78_4 : decode (z_code 78) 4 = .ok (.ifCond .ne 6, 3) := by decide +kernel
theorem u78_4 : zEv sc 78 4 [l0, l1, l2] [.int x] h Q ↔ (if ¬ x = 0 then zEv sc 78 10 [l0, l1, l2] [] h Q else zEv sc 78 7 [l0, l1, l2] [] h Q) := zE_ifP (P := ¬ x = 0) inferInstance 10 dz78_4 rfl rfl
theorem dz78_7 : decode (z_code 78) 7 = .ok (.ldc 71, 2) := by decide +kernel
theorem u78_7 : zEv sc 78 7 [l0, l1, l2] [] h Q ↔ zEv sc 78 9 [l0, l1, l2] [.int (-1000001)] h Q := zE_ldc (by decide +kernel : z_lkK zKT (z_cls 78) 71 = some ((-1000001), 347)) dz78_7
theorem dz78_9 : decode (z_code 78) 9 = .ok (.ireturn, 1) := by decide +kernel
theorem u78_9 : zEv sc 78 9 [l0, l1, l2] [.int x] h Q ↔ Q (some (.int x)) h := zE_ri dz78_9 (by decide +kernel)
theorem dz78_10 : decode (z_code 78) 10 = .ok (.aload_n 0, 1) := by decide +kernel
theorem u78_10 : zEv sc 78 10 [.ref a, l1, l2] [] h Q ↔ zEv sc 78 11 [.ref a, l1, l2] [.ref a] h Q := zE_pure (q := (11, [.ref a, l1, l2], [.ref a])) dz78_10 rfl rfl rfl
theorem dz78_11 : decode (z_code 78) 11 = .ok (.getfield 10, 3) := by decide +kernel
theorem u78_11 (ho : zO a 9) : zEv sc 78 11 [l0, l1, l2] [.ref a] (zst p iv) Q ↔ zRef (zRV p a 0) (fun j => zEv sc 78 14 [l0, l1, l2] [.ref j] (zst p iv) Q) := zE_gfR dz78_11 (by decide +kernel : z_lk3 zFT (z_cls 78) 10 = some (9, 0, 0, 309)) (by decide +kernel) ho
theorem dz78_14 : decode (z_code 78) 14 = .ok (.invokevirtual 159, 3) := by decide +kernel
theorem u78_14 (ho : zO a 2) : zEv sc 78 14 [l0, l1, l2] [.ref a] (zst p iv) Q ↔ zEv sc 18 0 [.ref a] [] (zst p iv) (fun r h9 => zEv sc 78 17 [l0, l1, l2] (r.toList ++ []) h9 Q) := zE_call (kd := 0) (na := 1) (nr := 0) (as := [.ref a]) (rest := []) (Or.inl ⟨rfl, rfl⟩) dz78_14 (by decide +kernel : z_lk2 zCT (z_cls 78) 159 = some (18, 1, 489)) (fun z => by cases z) rfl rfl rfl (by decide +kernel) rfl (Or.inr (zE_rc ho))
theorem dz78_17 : decode (z_code 78) 17 = .ok (.ifCond .eq 6, 3) := by decide +kernel
theorem u78_17 : zEv sc 78 17 [l0, l1, l2] [.int x] h Q ↔ (if x = 0 then zEv sc 78 23 [l0, l1, l2] [] h Q else zEv sc 78 20 [l0, l1, l2] [] h Q) := zE_ifP (P := x = 0) inferInstance 23 dz78_17 rfl rfl
theorem dz78_20 : decode (z_code 78) 20 = .ok (.ldc 155, 2) := by decide +kernel
theorem u78_20 : zEv sc 78 20 [l0, l1, l2] [] h Q ↔ zEv sc 78 22 [l0, l1, l2] [.int (-1000002)] h Q := zE_ldc (by decide +kernel : z_lkK zKT (z_cls 78) 155 = some ((-1000002), 483)) dz78_20
theorem dz78_22 : decode (z_code 78) 22 = .ok (.ireturn, 1) := by decide +kernel
theorem u78_22 : zEv sc 78 22 [l0, l1, l2] [.int x] h Q ↔ Q (some (.int x)) h := zE_ri dz78_22 (by decide +kernel)
theorem dz78_23 : decode (z_code 78) 23 = .ok (.aload_n 0, 1) := by decide +kernel
theorem u78_23 : zEv sc 78 23 [.ref a, l1, l2] [] h Q ↔ zEv sc 78 24 [.ref a, l1, l2] [.ref a] h Q := zE_pure (q := (24, [.ref a, l1, l2], [.ref a])) dz78_23 rfl rfl rfl
theorem dz78_24 : decode (z_code 78) 24 = .ok (.getfield 10, 3) := by decide +kernel
theorem u78_24 (ho : zO a 9) : zEv sc 78 24 [l0, l1, l2] [.ref a] (zst p iv) Q ↔ zRef (zRV p a 0) (fun j => zEv sc 78 27 [l0, l1, l2] [.ref j] (zst p iv) Q) := zE_gfR dz78_24 (by decide +kernel : z_lk3 zFT (z_cls 78) 10 = some (9, 0, 0, 309)) (by decide +kernel) ho
theorem dz78_27 : decode (z_code 78) 27 = .ok (.iconst 0, 1) := by decide +kernel
theorem u78_27 : zEv sc 78 27 [l0, l1, l2] [t0] h Q ↔ zEv sc 78 28 [l0, l1, l2] [.int 0, t0] h Q := zE_iconst dz78_27 (by decide +kernel)
theorem dz78_28 : decode (z_code 78) 28 = .ok (.invokevirtual 95, 3) := by decide +kernel
theorem u78_28 (ho : zO a 2) : zEv sc 78 28 [l0, l1, l2] [.int z0, .ref a] (zst p iv) Q ↔ zEv sc 14 0 [.ref a, .int z0] [] (zst p iv) (fun r h9 => zEv sc 78 31 [l0, l1, l2] (r.toList ++ []) h9 Q) := zE_call (kd := 0) (na := 2) (nr := 0) (as := [.ref a, .int z0]) (rest := []) (Or.inl ⟨rfl, rfl⟩) dz78_28 (by decide +kernel : z_lk2 zCT (z_cls 78) 95 = some (14, 1, 385)) (fun z => by cases z) rfl rfl rfl (by decide +kernel) rfl (Or.inr (zE_rc ho))
theorem dz78_31 : decode (z_code 78) 31 = .ok (.getfield 107, 3) := by decide +kernel
theorem u78_31 (ho : zO a 6) : zEv sc 78 31 [l0, l1, l2] [.ref a] (zst p iv) Q ↔ zRef (zRV p a 2) (fun j => zEv sc 78 34 [l0, l1, l2] [.ref j] (zst p iv) Q) := zE_gfR dz78_31 (by decide +kernel : z_lk3 zFT (z_cls 78) 107 = some (6, 2, 1, 152)) (by decide +kernel) ho
theorem dz78_34 : decode (z_code 78) 34 = .ok (.astore_n 2, 1) := by decide +kernel
theorem u78_34 : zEv sc 78 34 [l0, l1, l2] [.ref a] h Q ↔ zEv sc 78 35 [l0, l1, .ref a] [] h Q := zE_pure (q := (35, [l0, l1, .ref a], [])) dz78_34 rfl rfl rfl
theorem dz78_35 : decode (z_code 78) 35 = .ok (.aload_n 0, 1) := by decide +kernel
theorem u78_35 : zEv sc 78 35 [.ref a, l1, l2] [] h Q ↔ zEv sc 78 36 [.ref a, l1, l2] [.ref a] h Q := zE_pure (q := (36, [.ref a, l1, l2], [.ref a])) dz78_35 rfl rfl rfl
theorem dz78_36 : decode (z_code 78) 36 = .ok (.getfield 39, 3) := by decide +kernel
theorem u78_36 (ho : zO a 9) : zEv sc 78 36 [l0, l1, l2] [.ref a] (zst p iv) Q ↔ zRef (zRV p a 5) (fun j => zEv sc 78 39 [l0, l1, l2] [.ref j] (zst p iv) Q) := zE_gfR dz78_36 (by decide +kernel : z_lk3 zFT (z_cls 78) 39 = some (9, 5, 0, 314)) (by decide +kernel) ho
theorem dz78_39 : decode (z_code 78) 39 = .ok (.aload_n 0, 1) := by decide +kernel
theorem u78_39 : zEv sc 78 39 [.ref a, l1, l2] [t0] h Q ↔ zEv sc 78 40 [.ref a, l1, l2] [.ref a, t0] h Q := zE_pure (q := (40, [.ref a, l1, l2], [.ref a, t0])) dz78_39 rfl rfl rfl
theorem dz78_40 : decode (z_code 78) 40 = .ok (.getfield 10, 3) := by decide +kernel
theorem u78_40 (ho : zO a 9) : zEv sc 78 40 [l0, l1, l2] [.ref a, t0] (zst p iv) Q ↔ zRef (zRV p a 0) (fun j => zEv sc 78 43 [l0, l1, l2] [.ref j, t0] (zst p iv) Q) := zE_gfR dz78_40 (by decide +kernel : z_lk3 zFT (z_cls 78) 10 = some (9, 0, 0, 309)) (by decide +kernel) ho
theorem dz78_43 : decode (z_code 78) 43 = .ok (.iconst 0, 1) := by decide +kernel
theorem u78_43 : zEv sc 78 43 [l0, l1, l2] [t0, t1] h Q ↔ zEv sc 78 44 [l0, l1, l2] [.int 0, t0, t1] h Q := zE_iconst dz78_43 (by decide +kernel)
theorem dz78_44 : decode (z_code 78) 44 = .ok (.invokevirtual 183, 3) := by decide +kernel
theorem u78_44 (ho : zO a 5) : zEv sc 78 44 [l0, l1, l2] [.int z0, .ref b0, .ref a] (zst p iv) Q ↔ zEv sc 39 0 [.ref a, .ref b0, .int z0, .null, .null, .null] [] (zst p iv) (fun r h9 => zEv sc 78 47 [l0, l1, l2] (r.toList ++ []) h9 Q) := zE_call (kd := 0) (na := 3) (nr := 0) (as := [.ref a, .ref b0, .int z0]) (rest := []) (Or.inl ⟨rfl, rfl⟩) dz78_44 (by decide +kernel : z_lk2 zCT (z_cls 78) 183 = some (39, 1, 498)) (fun z => by cases z) rfl rfl rfl (by decide +kernel) rfl (Or.inr (zE_rc ho))
theorem dz78_47 : decode (z_code 78) 47 = .ok (.iload_n 1, 1) := by decide +kernel
theorem u78_47 : zEv sc 78 47 [l0, .int x, l2] [] h Q ↔ zEv sc 78 48 [l0, .int x, l2] [.int x] h Q := zE_pure (q := (48, [l0, .int x, l2], [.int x])) dz78_47 rfl rfl rfl
theorem dz78_48 : decode (z_code 78) 48 = .ok (.aload_n 0, 1) := by decide +kernel
theorem u78_48 : zEv sc 78 48 [.ref a, l1, l2] [t0] h Q ↔ zEv sc 78 49 [.ref a, l1, l2] [.ref a, t0] h Q := zE_pure (q := (49, [.ref a, l1, l2], [.ref a, t0])) dz78_48 rfl rfl rfl
theorem dz78_49 : decode (z_code 78) 49 = .ok (.getfield 39, 3) := by decide +kernel
theorem u78_49 (ho : zO a 9) : zEv sc 78 49 [l0, l1, l2] [.ref a, t0] (zst p iv) Q ↔ zRef (zRV p a 5) (fun j => zEv sc 78 52 [l0, l1, l2] [.ref j, t0] (zst p iv) Q) := zE_gfR dz78_49 (by decide +kernel : z_lk3 zFT (z_cls 78) 39 = some (9, 5, 0, 314)) (by decide +kernel) ho
theorem dz78_52 : decode (z_code 78) 52 = .ok (.aload_n 2, 1) := by decide +kernel
theorem u78_52 : zEv sc 78 52 [l0, l1, .ref a] [t0, t1] h Q ↔ zEv sc 78 53 [l0, l1, .ref a] [.ref a, t0, t1] h Q := zE_pure (q := (53, [l0, l1, .ref a], [.ref a, t0, t1])) dz78_52 rfl rfl rfl
theorem dz78_53 : decode (z_code 78) 53 = .ok (.invokevirtual 205, 3) := by decide +kernel
theorem u78_53 (ho : zO a 5) : zEv sc 78 53 [l0, l1, l2] [.ref b0, .ref a, t0] (zst p iv) Q ↔ zEv sc 40 0 [.ref a, .ref b0, .null, .null] [] (zst p iv) (fun r h9 => zEv sc 78 56 [l0, l1, l2] (r.toList ++ [t0]) h9 Q) := zE_call (kd := 0) (na := 2) (nr := 1) (as := [.ref a, .ref b0]) (rest := [t0]) (Or.inl ⟨rfl, rfl⟩) dz78_53 (by decide +kernel : z_lk2 zCT (z_cls 78) 205 = some (40, 1, 572)) (fun z => by cases z) rfl rfl rfl (by decide +kernel) rfl (Or.inr (zE_rc ho))
theorem dz78_56 : decode (z_code 78) 56 = .ok (.aload_n 0, 1) := by decide +kernel
theorem u78_56 : zEv sc 78 56 [.ref a, l1, l2] [t0, t1] h Q ↔ zEv sc 78 57 [.ref a, l1, l2] [.ref a, t0, t1] h Q := zE_pure (q := (57, [.ref a, l1, l2], [.ref a, t0, t1])) dz78_56 rfl rfl rfl
theorem dz78_57 : decode (z_code 78) 57 = .ok (.getfield 39, 3) := by decide +kernel
theorem u78_57 (ho : zO a 9) : zEv sc 78 57 [l0, l1, l2] [.ref a, t0, t1] (zst p iv) Q ↔ zRef (zRV p a 5) (fun j => zEv sc 78 60 [l0, l1, l2] [.ref j, t0, t1] (zst p iv) Q) := zE_gfR dz78_57 (by decide +kernel : z_lk3 zFT (z_cls 78) 39 = some (9, 5, 0, 314)) (by decide +kernel) ho
theorem dz78_60 : decode (z_code 78) 60 = .ok (.getfield 190, 3) := by decide +kernel
theorem u78_60 (ho : zO a 5) : zEv sc 78 60 [l0, l1, l2] [.ref a, t0, t1] (zst p iv) Q ↔ zEv sc 78 63 [l0, l1, l2] [.int (iv a 1), t0, t1] (zst p iv) Q := zE_gfI dz78_60 (by decide +kernel : z_lk3 zFT (z_cls 78) 190 = some (5, 1, 1, 234)) (by decide +kernel) ho
theorem dz78_63 : decode (z_code 78) 63 = .ok (.aload_n 2, 1) := by decide +kernel
theorem u78_63 : zEv sc 78 63 [l0, l1, .ref a] [t0, t1, t2] h Q ↔ zEv sc 78 64 [l0, l1, .ref a] [.ref a, t0, t1, t2] h Q := zE_pure (q := (64, [l0, l1, .ref a], [.ref a, t0, t1, t2])) dz78_63 rfl rfl rfl
theorem dz78_64 : decode (z_code 78) 64 = .ok (.invokevirtual 203, 3) := by decide +kernel
theorem u78_64 (ho : zO a 4) : zEv sc 78 64 [l0, l1, l2] [.ref a, t0, t1, t2] (zst p iv) Q ↔ zEv sc 36 0 [.ref a, .null, .null] [] (zst p iv) (fun r h9 => zEv sc 78 67 [l0, l1, l2] (r.toList ++ [t0, t1, t2]) h9 Q) := zE_call (kd := 0) (na := 1) (nr := 3) (as := [.ref a]) (rest := [t0, t1, t2]) (Or.inl ⟨rfl, rfl⟩) dz78_64 (by decide +kernel : z_lk2 zCT (z_cls 78) 203 = some (36, 1, 567)) (fun z => by cases z) rfl rfl rfl (by decide +kernel) rfl (Or.inr (zE_rc ho))
theorem dz78_67 : decode (z_code 78) 67 = .ok (.imul, 1) := by decide +kernel
theorem u78_67 : zEv sc 78 67 [l0, l1, l2] [.int x2, .int x1, t0, t1] h Q ↔ zEv sc 78 68 [l0, l1, l2] [.int (x1 * x2), t0, t1] h Q := zE_pure (q := (68, [l0, l1, l2], [.int (x1 * x2), t0, t1])) dz78_67 rfl rfl rfl
theorem dz78_68 : decode (z_code 78) 68 = .ok (.invokestatic 193, 3) := by decide +kernel
theorem u78_68 : zEv sc 78 68 [l0, l1, l2] [.int z2, .int z1, .int z0] h Q ↔ zEv sc 73 0 [.int z0, .int z1, .int z2, .null] [] h (fun r h9 => zEv sc 78 71 [l0, l1, l2] (r.toList ++ []) h9 Q) := zE_call (kd := 1) (na := 3) (nr := 0) (as := [.int z0, .int z1, .int z2]) (rest := []) (Or.inr ⟨rfl, rfl⟩) dz78_68 (by decide +kernel : z_lk2 zCT (z_cls 78) 193 = some (73, 0, 542)) (fun _ => by decide +kernel) rfl rfl rfl (by decide +kernel) rfl (Or.inl rfl)
theorem dz78_71 : decode (z_code 78) 71 = .ok (.ireturn, 1) := by decide +kernel
theorem u78_71 : zEv sc 78 71 [l0, l1, l2] [.int x] h Q ↔ Q (some (.int x)) h := zE_ri dz78_71 (by decide +kernel)
/-! method 79: FieldMixtures.reply(II)I -/
theorem dz79_0 : decode (z_code 79) 0 = .ok (.iload_n 1, 1) := by decide +kernel
theorem u79_0 : zEv sc 79 0 [l0, .int x, l2] [] h Q ↔ zEv sc 79 1 [l0, .int x, l2] [.int x] h Q := zE_pure (q := (1, [l0, .int x, l2], [.int x])) dz79_0 rfl rfl rfl
theorem dz79_1 : decode (z_code 79) 1 = .ok (.invokestatic 92, 3) := by decide +kernel
theorem u79_1 : zEv sc 79 1 [l0, l1, l2] [.int z0] h Q ↔ zEv sc 47 0 [.int z0] [] h (fun r h9 => zEv sc 79 4 [l0, l1, l2] (r.toList ++ []) h9 Q) := zE_call (kd := 1) (na := 1) (nr := 0) (as := [.int z0]) (rest := []) (Or.inr ⟨rfl, rfl⟩) dz79_1 (by decide +kernel : z_lk2 zCT (z_cls 79) 92 = some (47, 0, 382)) (fun _ => by decide +kernel) rfl rfl rfl (by decide +kernel) rfl (Or.inl rfl)
theorem dz79_4 : decode (z_code 79) 4 = .ok (.ifCond .eq 12, 3) := by decide +kernel
theorem u79_4 : zEv sc 79 4 [l0, l1, l2] [.int x] h Q ↔ (if x = 0 then zEv sc 79 16 [l0, l1, l2] [] h Q else zEv sc 79 7 [l0, l1, l2] [] h Q) := zE_ifP (P := x = 0) inferInstance 16 dz79_4 rfl rfl
theorem dz79_7 : decode (z_code 79) 7 = .ok (.iload_n 2, 1) := by decide +kernel
theorem u79_7 : zEv sc 79 7 [l0, l1, .int x] [] h Q ↔ zEv sc 79 8 [l0, l1, .int x] [.int x] h Q := zE_pure (q := (8, [l0, l1, .int x], [.int x])) dz79_7 rfl rfl rfl
theorem dz79_8 : decode (z_code 79) 8 = .ok (.iconst 0, 1) := by decide +kernel
theorem u79_8 : zEv sc 79 8 [l0, l1, l2] [t0] h Q ↔ zEv sc 79 9 [l0, l1, l2] [.int 0, t0] h Q := zE_iconst dz79_8 (by decide +kernel)
theorem dz79_9 : decode (z_code 79) 9 = .ok (.iconst 3, 1) := by decide +kernel
theorem u79_9 : zEv sc 79 9 [l0, l1, l2] [t0, t1] h Q ↔ zEv sc 79 10 [l0, l1, l2] [.int 3, t0, t1] h Q := zE_iconst dz79_9 (by decide +kernel)
theorem dz79_10 : decode (z_code 79) 10 = .ok (.invokestatic 67, 3) := by decide +kernel
theorem u79_10 : zEv sc 79 10 [l0, l1, l2] [.int z2, .int z1, .int z0] h Q ↔ zEv sc 15 0 [.int z0, .int z1, .int z2] [] h (fun r h9 => zEv sc 79 13 [l0, l1, l2] (r.toList ++ []) h9 Q) := zE_call (kd := 1) (na := 3) (nr := 0) (as := [.int z0, .int z1, .int z2]) (rest := []) (Or.inr ⟨rfl, rfl⟩) dz79_10 (by decide +kernel : z_lk2 zCT (z_cls 79) 67 = some (15, 0, 344)) (fun _ => by decide +kernel) rfl rfl rfl (by decide +kernel) rfl (Or.inl rfl)
theorem dz79_13 : decode (z_code 79) 13 = .ok (.ifCond .ne 6, 3) := by decide +kernel
theorem u79_13 : zEv sc 79 13 [l0, l1, l2] [.int x] h Q ↔ (if ¬ x = 0 then zEv sc 79 19 [l0, l1, l2] [] h Q else zEv sc 79 16 [l0, l1, l2] [] h Q) := zE_ifP (P := ¬ x = 0) inferInstance 19 dz79_13 rfl rfl
theorem dz79_19 : decode (z_code 79) 19 = .ok (.aload_n 0, 1) := by decide +kernel
theorem u79_19 : zEv sc 79 19 [.ref a, l1, l2] [] h Q ↔ zEv sc 79 20 [.ref a, l1, l2] [.ref a] h Q := zE_pure (q := (20, [.ref a, l1, l2], [.ref a])) dz79_19 rfl rfl rfl
theorem dz79_20 : decode (z_code 79) 20 = .ok (.getfield 10, 3) := by decide +kernel
theorem u79_20 (ho : zO a 9) : zEv sc 79 20 [l0, l1, l2] [.ref a] (zst p iv) Q ↔ zRef (zRV p a 0) (fun j => zEv sc 79 23 [l0, l1, l2] [.ref j] (zst p iv) Q) := zE_gfR dz79_20 (by decide +kernel : z_lk3 zFT (z_cls 79) 10 = some (9, 0, 0, 309)) (by decide +kernel) ho
theorem dz79_23 : decode (z_code 79) 23 = .ok (.iconst 1, 1) := by decide +kernel
theorem u79_23 : zEv sc 79 23 [l0, l1, l2] [t0] h Q ↔ zEv sc 79 24 [l0, l1, l2] [.int 1, t0] h Q := zE_iconst dz79_23 (by decide +kernel)
theorem dz79_24 : decode (z_code 79) 24 = .ok (.iload_n 1, 1) := by decide +kernel
theorem u79_24 : zEv sc 79 24 [l0, .int x, l2] [t0, t1] h Q ↔ zEv sc 79 25 [l0, .int x, l2] [.int x, t0, t1] h Q := zE_pure (q := (25, [l0, .int x, l2], [.int x, t0, t1])) dz79_24 rfl rfl rfl
theorem dz79_25 : decode (z_code 79) 25 = .ok (.isub, 1) := by decide +kernel
theorem u79_25 : zEv sc 79 25 [l0, l1, l2] [.int x2, .int x1, t0] h Q ↔ zEv sc 79 26 [l0, l1, l2] [.int (x1 - x2), t0] h Q := zE_pure (q := (26, [l0, l1, l2], [.int (x1 - x2), t0])) dz79_25 rfl rfl rfl
theorem dz79_26 : decode (z_code 79) 26 = .ok (.invokevirtual 95, 3) := by decide +kernel
theorem u79_26 (ho : zO a 2) : zEv sc 79 26 [l0, l1, l2] [.int z0, .ref a] (zst p iv) Q ↔ zEv sc 14 0 [.ref a, .int z0] [] (zst p iv) (fun r h9 => zEv sc 79 29 [l0, l1, l2] (r.toList ++ []) h9 Q) := zE_call (kd := 0) (na := 2) (nr := 0) (as := [.ref a, .int z0]) (rest := []) (Or.inl ⟨rfl, rfl⟩) dz79_26 (by decide +kernel : z_lk2 zCT (z_cls 79) 95 = some (14, 1, 385)) (fun z => by cases z) rfl rfl rfl (by decide +kernel) rfl (Or.inr (zE_rc ho))
theorem dz79_29 : decode (z_code 79) 29 = .ok (.getfield 107, 3) := by decide +kernel
theorem u79_29 (ho : zO a 6) : zEv sc 79 29 [l0, l1, l2] [.ref a] (zst p iv) Q ↔ zRef (zRV p a 2) (fun j => zEv sc 79 32 [l0, l1, l2] [.ref j] (zst p iv) Q) := zE_gfR dz79_29 (by decide +kernel : z_lk3 zFT (z_cls 79) 107 = some (6, 2, 1, 152)) (by decide +kernel) ho
theorem dz79_32 : decode (z_code 79) 32 = .ok (.getfield 111, 3) := by decide +kernel
theorem u79_32 (ho : zO a 4) : zEv sc 79 32 [l0, l1, l2] [.ref a] (zst p iv) Q ↔ zEv sc 79 35 [l0, l1, l2] [.int (iv a 0)] (zst p iv) Q := zE_gfI dz79_32 (by decide +kernel : z_lk3 zFT (z_cls 79) 111 = some (4, 0, 1, 126)) (by decide +kernel) ho
theorem dz79_35 : decode (z_code 79) 35 = .ok (.ifCond .ne 6, 3) := by decide +kernel
theorem u79_35 : zEv sc 79 35 [l0, l1, l2] [.int x] h Q ↔ (if ¬ x = 0 then zEv sc 79 41 [l0, l1, l2] [] h Q else zEv sc 79 38 [l0, l1, l2] [] h Q) := zE_ifP (P := ¬ x = 0) inferInstance 41 dz79_35 rfl rfl
theorem dz79_38 : decode (z_code 79) 38 = .ok (.ldc 155, 2) := by decide +kernel
theorem u79_38 : zEv sc 79 38 [l0, l1, l2] [] h Q ↔ zEv sc 79 40 [l0, l1, l2] [.int (-1000002)] h Q := zE_ldc (by decide +kernel : z_lkK zKT (z_cls 79) 155 = some ((-1000002), 483)) dz79_38
theorem dz79_40 : decode (z_code 79) 40 = .ok (.ireturn, 1) := by decide +kernel
theorem u79_40 : zEv sc 79 40 [l0, l1, l2] [.int x] h Q ↔ Q (some (.int x)) h := zE_ri dz79_40 (by decide +kernel)
theorem dz79_41 : decode (z_code 79) 41 = .ok (.aload_n 0, 1) := by decide +kernel
theorem u79_41 : zEv sc 79 41 [.ref a, l1, l2] [] h Q ↔ zEv sc 79 42 [.ref a, l1, l2] [.ref a] h Q := zE_pure (q := (42, [.ref a, l1, l2], [.ref a])) dz79_41 rfl rfl rfl
theorem dz79_42 : decode (z_code 79) 42 = .ok (.getfield 39, 3) := by decide +kernel
theorem u79_42 (ho : zO a 9) : zEv sc 79 42 [l0, l1, l2] [.ref a] (zst p iv) Q ↔ zRef (zRV p a 5) (fun j => zEv sc 79 45 [l0, l1, l2] [.ref j] (zst p iv) Q) := zE_gfR dz79_42 (by decide +kernel : z_lk3 zFT (z_cls 79) 39 = some (9, 5, 0, 314)) (by decide +kernel) ho
theorem dz79_45 : decode (z_code 79) 45 = .ok (.aload_n 0, 1) := by decide +kernel
theorem u79_45 : zEv sc 79 45 [.ref a, l1, l2] [t0] h Q ↔ zEv sc 79 46 [.ref a, l1, l2] [.ref a, t0] h Q := zE_pure (q := (46, [.ref a, l1, l2], [.ref a, t0])) dz79_45 rfl rfl rfl
theorem dz79_46 : decode (z_code 79) 46 = .ok (.getfield 10, 3) := by decide +kernel
theorem u79_46 (ho : zO a 9) : zEv sc 79 46 [l0, l1, l2] [.ref a, t0] (zst p iv) Q ↔ zRef (zRV p a 0) (fun j => zEv sc 79 49 [l0, l1, l2] [.ref j, t0] (zst p iv) Q) := zE_gfR dz79_46 (by decide +kernel : z_lk3 zFT (z_cls 79) 10 = some (9, 0, 0, 309)) (by decide +kernel) ho
theorem dz79_49 : decode (z_code 79) 49 = .ok (.iload_n 1, 1) := by decide +kernel
theorem u79_49 : zEv sc 79 49 [l0, .int x, l2] [t0, t1] h Q ↔ zEv sc 79 50 [l0, .int x, l2] [.int x, t0, t1] h Q := zE_pure (q := (50, [l0, .int x, l2], [.int x, t0, t1])) dz79_49 rfl rfl rfl
theorem dz79_50 : decode (z_code 79) 50 = .ok (.invokevirtual 183, 3) := by decide +kernel
theorem u79_50 (ho : zO a 5) : zEv sc 79 50 [l0, l1, l2] [.int z0, .ref b0, .ref a] (zst p iv) Q ↔ zEv sc 39 0 [.ref a, .ref b0, .int z0, .null, .null, .null] [] (zst p iv) (fun r h9 => zEv sc 79 53 [l0, l1, l2] (r.toList ++ []) h9 Q) := zE_call (kd := 0) (na := 3) (nr := 0) (as := [.ref a, .ref b0, .int z0]) (rest := []) (Or.inl ⟨rfl, rfl⟩) dz79_50 (by decide +kernel : z_lk2 zCT (z_cls 79) 183 = some (39, 1, 498)) (fun z => by cases z) rfl rfl rfl (by decide +kernel) rfl (Or.inr (zE_rc ho))
theorem dz79_53 : decode (z_code 79) 53 = .ok (.aload_n 0, 1) := by decide +kernel
theorem u79_53 : zEv sc 79 53 [.ref a, l1, l2] [] h Q ↔ zEv sc 79 54 [.ref a, l1, l2] [.ref a] h Q := zE_pure (q := (54, [.ref a, l1, l2], [.ref a])) dz79_53 rfl rfl rfl
theorem dz79_54 : decode (z_code 79) 54 = .ok (.getfield 46, 3) := by decide +kernel
theorem u79_54 (ho : zO a 9) : zEv sc 79 54 [l0, l1, l2] [.ref a] (zst p iv) Q ↔ zRef (zRV p a 6) (fun j => zEv sc 79 57 [l0, l1, l2] [.ref j] (zst p iv) Q) := zE_gfR dz79_54 (by decide +kernel : z_lk3 zFT (z_cls 79) 46 = some (9, 6, 0, 315)) (by decide +kernel) ho
theorem dz79_57 : decode (z_code 79) 57 = .ok (.aload_n 0, 1) := by decide +kernel
theorem u79_57 : zEv sc 79 57 [.ref a, l1, l2] [t0] h Q ↔ zEv sc 79 58 [.ref a, l1, l2] [.ref a, t0] h Q := zE_pure (q := (58, [.ref a, l1, l2], [.ref a, t0])) dz79_57 rfl rfl rfl
theorem dz79_58 : decode (z_code 79) 58 = .ok (.iload_n 1, 1) := by decide +kernel
theorem u79_58 : zEv sc 79 58 [l0, .int x, l2] [t0, t1] h Q ↔ zEv sc 79 59 [l0, .int x, l2] [.int x, t0, t1] h Q := zE_pure (q := (59, [l0, .int x, l2], [.int x, t0, t1])) dz79_58 rfl rfl rfl
theorem dz79_59 : decode (z_code 79) 59 = .ok (.invokevirtual 122, 3) := by decide +kernel
theorem u79_59 (ho : zO a 9) : zEv sc 79 59 [l0, l1, l2] [.int z0, .ref a, t0] (zst p iv) Q ↔ zEv sc 62 0 [.ref a, .int z0, .null] [] (zst p iv) (fun r h9 => zEv sc 79 62 [l0, l1, l2] (r.toList ++ [t0]) h9 Q) := zE_call (kd := 0) (na := 2) (nr := 1) (as := [.ref a, .int z0]) (rest := [t0]) (Or.inl ⟨rfl, rfl⟩) dz79_59 (by decide +kernel : z_lk2 zCT (z_cls 79) 122 = some (62, 0, 421)) (fun z => by cases z) rfl rfl rfl (by decide +kernel) rfl (Or.inr (zE_rc ho))
theorem dz79_62 : decode (z_code 79) 62 = .ok (.aload_n 0, 1) := by decide +kernel
theorem u79_62 : zEv sc 79 62 [.ref a, l1, l2] [t0, t1] h Q ↔ zEv sc 79 63 [.ref a, l1, l2] [.ref a, t0, t1] h Q := zE_pure (q := (63, [.ref a, l1, l2], [.ref a, t0, t1])) dz79_62 rfl rfl rfl
theorem dz79_63 : decode (z_code 79) 63 = .ok (.getfield 39, 3) := by decide +kernel
theorem u79_63 (ho : zO a 9) : zEv sc 79 63 [l0, l1, l2] [.ref a, t0, t1] (zst p iv) Q ↔ zRef (zRV p a 5) (fun j => zEv sc 79 66 [l0, l1, l2] [.ref j, t0, t1] (zst p iv) Q) := zE_gfR dz79_63 (by decide +kernel : z_lk3 zFT (z_cls 79) 39 = some (9, 5, 0, 314)) (by decide +kernel) ho
theorem dz79_66 : decode (z_code 79) 66 = .ok (.invokevirtual 209, 3) := by decide +kernel
theorem u79_66 (ho : zO a 1) : zEv sc 79 66 [l0, l1, l2] [.ref b1, .ref b0, .ref a] (zst p iv) Q ↔ zEv sc 5 0 [.ref a, .ref b0, .ref b1, .null, .null] [] (zst p iv) (fun r h9 => zEv sc 79 69 [l0, l1, l2] (r.toList ++ []) h9 Q) := zE_call (kd := 0) (na := 3) (nr := 0) (as := [.ref a, .ref b0, .ref b1]) (rest := []) (Or.inl ⟨rfl, rfl⟩) dz79_66 (by decide +kernel : z_lk2 zCT (z_cls 79) 209 = some (5, 1, 515)) (fun z => by cases z) rfl rfl rfl (by decide +kernel) rfl (Or.inr (zE_rc ho))
theorem dz79_69 : decode (z_code 79) 69 = .ok (.aload_n 0, 1) := by decide +kernel
theorem u79_69 : zEv sc 79 69 [.ref a, l1, l2] [] h Q ↔ zEv sc 79 70 [.ref a, l1, l2] [.ref a] h Q := zE_pure (q := (70, [.ref a, l1, l2], [.ref a])) dz79_69 rfl rfl rfl
theorem dz79_70 : decode (z_code 79) 70 = .ok (.getfield 46, 3) := by decide +kernel
theorem u79_70 (ho : zO a 9) : zEv sc 79 70 [l0, l1, l2] [.ref a] (zst p iv) Q ↔ zRef (zRV p a 6) (fun j => zEv sc 79 73 [l0, l1, l2] [.ref j] (zst p iv) Q) := zE_gfR dz79_70 (by decide +kernel : z_lk3 zFT (z_cls 79) 46 = some (9, 6, 0, 315)) (by decide +kernel) ho
theorem dz79_73 : decode (z_code 79) 73 = .ok (.getfield 213, 3) := by decide +kernel
theorem u79_73 (ho : zO a 1) : zEv sc 79 73 [l0, l1, l2] [.ref a] (zst p iv) Q ↔ zEv sc 79 76 [l0, l1, l2] [.int (iv a 2)] (zst p iv) Q := zE_gfI dz79_73 (by decide +kernel : z_lk3 zFT (z_cls 79) 213 = some (1, 2, 1, 254)) (by decide +kernel) ho
theorem dz79_76 : decode (z_code 79) 76 = .ok (.ifCond .ne 6, 3) := by decide +kernel
theorem u79_76 : zEv sc 79 76 [l0, l1, l2] [.int x] h Q ↔ (if ¬ x = 0 then zEv sc 79 82 [l0, l1, l2] [] h Q else zEv sc 79 79 [l0, l1, l2] [] h Q) := zE_ifP (P := ¬ x = 0) inferInstance 82 dz79_76 rfl rfl
theorem dz79_79 : decode (z_code 79) 79 = .ok (.ldc 155, 2) := by decide +kernel
theorem u79_79 : zEv sc 79 79 [l0, l1, l2] [] h Q ↔ zEv sc 79 81 [l0, l1, l2] [.int (-1000002)] h Q := zE_ldc (by decide +kernel : z_lkK zKT (z_cls 79) 155 = some ((-1000002), 483)) dz79_79
theorem dz79_81 : decode (z_code 79) 81 = .ok (.ireturn, 1) := by decide +kernel
theorem u79_81 : zEv sc 79 81 [l0, l1, l2] [.int x] h Q ↔ Q (some (.int x)) h := zE_ri dz79_81 (by decide +kernel)
theorem dz79_82 : decode (z_code 79) 82 = .ok (.iload_n 2, 1) := by decide +kernel
theorem u79_82 : zEv sc 79 82 [l0, l1, .int x] [] h Q ↔ zEv sc 79 83 [l0, l1, .int x] [.int x] h Q := zE_pure (q := (83, [l0, l1, .int x], [.int x])) dz79_82 rfl rfl rfl
theorem dz79_83 : decode (z_code 79) 83 = .ok (.lookupswitch 41 #[(0, 25), (3, 33)], 25) := by decide +kernel
theorem u79_83_0 : zEv sc 79 83 [l0, l1, l2] [.int 0] h Q ↔ zEv sc 79 108 [l0, l1, l2] [] h Q := zE_swi (off := 25) 108 dz79_83 (by decide +kernel) (by decide +kernel) rfl
theorem u79_83_3 : zEv sc 79 83 [l0, l1, l2] [.int 3] h Q ↔ zEv sc 79 116 [l0, l1, l2] [] h Q := zE_swi (off := 33) 116 dz79_83 (by decide +kernel) (by decide +kernel) rfl
theorem u79_83_d (h0 : ¬ x = 0) (h1 : ¬ x = 3) : zEv sc 79 83 [l0, l1, l2] [.int x] h Q ↔ zEv sc 79 124 [l0, l1, l2] [] h Q := zE_swi (off := 41) 124 dz79_83 (by decide +kernel) ((lv_osw (k := 0) (a := 0) (o := 25) h0 rfl).trans ((lv_osw (k := 3) (a := 3) (o := 33) h1 rfl).trans (rfl))) rfl
theorem dz79_124 : decode (z_code 79) 124 = .ok (.iload_n 2, 1) := by decide +kernel
theorem u79_124 : zEv sc 79 124 [l0, l1, .int x] [] h Q ↔ zEv sc 79 125 [l0, l1, .int x] [.int x] h Q := zE_pure (q := (125, [l0, l1, .int x], [.int x])) dz79_124 rfl rfl rfl
theorem dz79_125 : decode (z_code 79) 125 = .ok (.iconst 1, 1) := by decide +kernel
theorem u79_125 : zEv sc 79 125 [l0, l1, l2] [t0] h Q ↔ zEv sc 79 126 [l0, l1, l2] [.int 1, t0] h Q := zE_iconst dz79_125 (by decide +kernel)
theorem dz79_126 : decode (z_code 79) 126 = .ok (.isub, 1) := by decide +kernel
theorem u79_126 : zEv sc 79 126 [l0, l1, l2] [.int x2, .int x1] h Q ↔ zEv sc 79 127 [l0, l1, l2] [.int (x1 - x2)] h Q := zE_pure (q := (127, [l0, l1, l2], [.int (x1 - x2)])) dz79_126 rfl rfl rfl
theorem dz79_127 : decode (z_code 79) 127 = .ok (.aload_n 0, 1) := by decide +kernel
theorem u79_127 : zEv sc 79 127 [.ref a, l1, l2] [t0] h Q ↔ zEv sc 79 128 [.ref a, l1, l2] [.ref a, t0] h Q := zE_pure (q := (128, [.ref a, l1, l2], [.ref a, t0])) dz79_127 rfl rfl rfl
theorem dz79_128 : decode (z_code 79) 128 = .ok (.getfield 46, 3) := by decide +kernel
theorem u79_128 (ho : zO a 9) : zEv sc 79 128 [l0, l1, l2] [.ref a, t0] (zst p iv) Q ↔ zRef (zRV p a 6) (fun j => zEv sc 79 131 [l0, l1, l2] [.ref j, t0] (zst p iv) Q) := zE_gfR dz79_128 (by decide +kernel : z_lk3 zFT (z_cls 79) 46 = some (9, 6, 0, 315)) (by decide +kernel) ho
theorem dz79_131 : decode (z_code 79) 131 = .ok (.getfield 219, 3) := by decide +kernel
theorem u79_131 (ho : zO a 1) : zEv sc 79 131 [l0, l1, l2] [.ref a, t0] (zst p iv) Q ↔ zEv sc 79 134 [l0, l1, l2] [.int (iv a 1), t0] (zst p iv) Q := zE_gfI dz79_131 (by decide +kernel : z_lk3 zFT (z_cls 79) 219 = some (1, 1, 1, 252)) (by decide +kernel) ho
theorem dz79_134 : decode (z_code 79) 134 = .ok (.aload_n 0, 1) := by decide +kernel
theorem u79_134 : zEv sc 79 134 [.ref a, l1, l2] [t0, t1] h Q ↔ zEv sc 79 135 [.ref a, l1, l2] [.ref a, t0, t1] h Q := zE_pure (q := (135, [.ref a, l1, l2], [.ref a, t0, t1])) dz79_134 rfl rfl rfl
theorem dz79_135 : decode (z_code 79) 135 = .ok (.getfield 39, 3) := by decide +kernel
theorem u79_135 (ho : zO a 9) : zEv sc 79 135 [l0, l1, l2] [.ref a, t0, t1] (zst p iv) Q ↔ zRef (zRV p a 5) (fun j => zEv sc 79 138 [l0, l1, l2] [.ref j, t0, t1] (zst p iv) Q) := zE_gfR dz79_135 (by decide +kernel : z_lk3 zFT (z_cls 79) 39 = some (9, 5, 0, 314)) (by decide +kernel) ho
theorem dz79_138 : decode (z_code 79) 138 = .ok (.getfield 190, 3) := by decide +kernel
theorem u79_138 (ho : zO a 5) : zEv sc 79 138 [l0, l1, l2] [.ref a, t0, t1] (zst p iv) Q ↔ zEv sc 79 141 [l0, l1, l2] [.int (iv a 1), t0, t1] (zst p iv) Q := zE_gfI dz79_138 (by decide +kernel : z_lk3 zFT (z_cls 79) 190 = some (5, 1, 1, 234)) (by decide +kernel) ho
theorem dz79_141 : decode (z_code 79) 141 = .ok (.invokestatic 193, 3) := by decide +kernel
theorem u79_141 : zEv sc 79 141 [l0, l1, l2] [.int z2, .int z1, .int z0] h Q ↔ zEv sc 73 0 [.int z0, .int z1, .int z2, .null] [] h (fun r h9 => zEv sc 79 144 [l0, l1, l2] (r.toList ++ []) h9 Q) := zE_call (kd := 1) (na := 3) (nr := 0) (as := [.int z0, .int z1, .int z2]) (rest := []) (Or.inr ⟨rfl, rfl⟩) dz79_141 (by decide +kernel : z_lk2 zCT (z_cls 79) 193 = some (73, 0, 542)) (fun _ => by decide +kernel) rfl rfl rfl (by decide +kernel) rfl (Or.inl rfl)
theorem dz79_144 : decode (z_code 79) 144 = .ok (.ireturn, 1) := by decide +kernel
theorem u79_144 : zEv sc 79 144 [l0, l1, l2] [.int x] h Q ↔ Q (some (.int x)) h := zE_ri dz79_144 (by decide +kernel)
theorem dz79_116 : decode (z_code 79) 116 = .ok (.aload_n 0, 1) := by decide +kernel
theorem u79_116 : zEv sc 79 116 [.ref a, l1, l2] [] h Q ↔ zEv sc 79 117 [.ref a, l1, l2] [.ref a] h Q := zE_pure (q := (117, [.ref a, l1, l2], [.ref a])) dz79_116 rfl rfl rfl
theorem dz79_117 : decode (z_code 79) 117 = .ok (.getfield 46, 3) := by decide +kernel
theorem u79_117 (ho : zO a 9) : zEv sc 79 117 [l0, l1, l2] [.ref a] (zst p iv) Q ↔ zRef (zRV p a 6) (fun j => zEv sc 79 120 [l0, l1, l2] [.ref j] (zst p iv) Q) := zE_gfR dz79_117 (by decide +kernel : z_lk3 zFT (z_cls 79) 46 = some (9, 6, 0, 315)) (by decide +kernel) ho
theorem dz79_120 : decode (z_code 79) 120 = .ok (.getfield 213, 3) := by decide +kernel
theorem u79_120 (ho : zO a 1) : zEv sc 79 120 [l0, l1, l2] [.ref a] (zst p iv) Q ↔ zEv sc 79 123 [l0, l1, l2] [.int (iv a 2)] (zst p iv) Q := zE_gfI dz79_120 (by decide +kernel : z_lk3 zFT (z_cls 79) 213 = some (1, 2, 1, 254)) (by decide +kernel) ho
theorem dz79_123 : decode (z_code 79) 123 = .ok (.ireturn, 1) := by decide +kernel
theorem u79_123 : zEv sc 79 123 [l0, l1, l2] [.int x] h Q ↔ Q (some (.int x)) h := zE_ri dz79_123 (by decide +kernel)
theorem dz79_108 : decode (z_code 79) 108 = .ok (.aload_n 0, 1) := by decide +kernel
theorem u79_108 : zEv sc 79 108 [.ref a, l1, l2] [] h Q ↔ zEv sc 79 109 [.ref a, l1, l2] [.ref a] h Q := zE_pure (q := (109, [.ref a, l1, l2], [.ref a])) dz79_108 rfl rfl rfl
theorem dz79_109 : decode (z_code 79) 109 = .ok (.getfield 46, 3) := by decide +kernel
theorem u79_109 (ho : zO a 9) : zEv sc 79 109 [l0, l1, l2] [.ref a] (zst p iv) Q ↔ zRef (zRV p a 6) (fun j => zEv sc 79 112 [l0, l1, l2] [.ref j] (zst p iv) Q) := zE_gfR dz79_109 (by decide +kernel : z_lk3 zFT (z_cls 79) 46 = some (9, 6, 0, 315)) (by decide +kernel) ho
theorem dz79_112 : decode (z_code 79) 112 = .ok (.getfield 216, 3) := by decide +kernel
theorem u79_112 (ho : zO a 1) : zEv sc 79 112 [l0, l1, l2] [.ref a] (zst p iv) Q ↔ zEv sc 79 115 [l0, l1, l2] [.int (iv a 0)] (zst p iv) Q := zE_gfI dz79_112 (by decide +kernel : z_lk3 zFT (z_cls 79) 216 = some (1, 0, 1, 250)) (by decide +kernel) ho
theorem dz79_115 : decode (z_code 79) 115 = .ok (.ireturn, 1) := by decide +kernel
theorem u79_115 : zEv sc 79 115 [l0, l1, l2] [.int x] h Q ↔ Q (some (.int x)) h := zE_ri dz79_115 (by decide +kernel)
theorem dz79_16 : decode (z_code 79) 16 = .ok (.ldc 71, 2) := by decide +kernel
theorem u79_16 : zEv sc 79 16 [l0, l1, l2] [] h Q ↔ zEv sc 79 18 [l0, l1, l2] [.int (-1000001)] h Q := zE_ldc (by decide +kernel : z_lkK zKT (z_cls 79) 71 = some ((-1000001), 347)) dz79_16
theorem dz79_18 : decode (z_code 79) 18 = .ok (.ireturn, 1) := by decide +kernel
theorem u79_18 : zEv sc 79 18 [l0, l1, l2] [.int x] h Q ↔ Q (some (.int x)) h := zE_ri dz79_18 (by decide +kernel)
/-! method 80: FieldMixtures.could(II)I -/
theorem dz80_0 : decode (z_code 80) 0 = .ok (.iload_n 1, 1) := by decide +kernel
theorem u80_0 : zEv sc 80 0 [l0, .int x, l2, l3, l4, l5] [] h Q ↔ zEv sc 80 1 [l0, .int x, l2, l3, l4, l5] [.int x] h Q := zE_pure (q := (1, [l0, .int x, l2, l3, l4, l5], [.int x])) dz80_0 rfl rfl rfl
theorem dz80_1 : decode (z_code 80) 1 = .ok (.invokestatic 92, 3) := by decide +kernel
theorem u80_1 : zEv sc 80 1 [l0, l1, l2, l3, l4, l5] [.int z0] h Q ↔ zEv sc 47 0 [.int z0] [] h (fun r h9 => zEv sc 80 4 [l0, l1, l2, l3, l4, l5] (r.toList ++ []) h9 Q) := zE_call (kd := 1) (na := 1) (nr := 0) (as := [.int z0]) (rest := []) (Or.inr ⟨rfl, rfl⟩) dz80_1 (by decide +kernel : z_lk2 zCT (z_cls 80) 92 = some (47, 0, 382)) (fun _ => by decide +kernel) rfl rfl rfl (by decide +kernel) rfl (Or.inl rfl)
theorem dz80_4 : decode (z_code 80) 4 = .ok (.ifCond .eq 10, 3) := by decide +kernel
theorem u80_4 : zEv sc 80 4 [l0, l1, l2, l3, l4, l5] [.int x] h Q ↔ (if x = 0 then zEv sc 80 14 [l0, l1, l2, l3, l4, l5] [] h Q else zEv sc 80 7 [l0, l1, l2, l3, l4, l5] [] h Q) := zE_ifP (P := x = 0) inferInstance 14 dz80_4 rfl rfl
theorem dz80_7 : decode (z_code 80) 7 = .ok (.iload_n 2, 1) := by decide +kernel
theorem u80_7 : zEv sc 80 7 [l0, l1, .int x, l3, l4, l5] [] h Q ↔ zEv sc 80 8 [l0, l1, .int x, l3, l4, l5] [.int x] h Q := zE_pure (q := (8, [l0, l1, .int x, l3, l4, l5], [.int x])) dz80_7 rfl rfl rfl
theorem dz80_8 : decode (z_code 80) 8 = .ok (.invokestatic 200, 3) := by decide +kernel
theorem u80_8 : zEv sc 80 8 [l0, l1, l2, l3, l4, l5] [.int z0] h Q ↔ zEv sc 76 0 [.int z0] [] h (fun r h9 => zEv sc 80 11 [l0, l1, l2, l3, l4, l5] (r.toList ++ []) h9 Q) := zE_call (kd := 1) (na := 1) (nr := 0) (as := [.int z0]) (rest := []) (Or.inr ⟨rfl, rfl⟩) dz80_8 (by decide +kernel : z_lk2 zCT (z_cls 80) 200 = some (76, 0, 564)) (fun _ => by decide +kernel) rfl rfl rfl (by decide +kernel) rfl (Or.inl rfl)
theorem dz80_11 : decode (z_code 80) 11 = .ok (.ifCond .ne 6, 3) := by decide +kernel
theorem u80_11 : zEv sc 80 11 [l0, l1, l2, l3, l4, l5] [.int x] h Q ↔ (if ¬ x = 0 then zEv sc 80 17 [l0, l1, l2, l3, l4, l5] [] h Q else zEv sc 80 14 [l0, l1, l2, l3, l4, l5] [] h Q) := zE_ifP (P := ¬ x = 0) inferInstance 17 dz80_11 rfl rfl
theorem dz80_17 : decode (z_code 80) 17 = .ok (.aload_n 0, 1) := by decide +kernel
theorem u80_17 : zEv sc 80 17 [.ref a, l1, l2, l3, l4, l5] [] h Q ↔ zEv sc 80 18 [.ref a, l1, l2, l3, l4, l5] [.ref a] h Q := zE_pure (q := (18, [.ref a, l1, l2, l3, l4, l5], [.ref a])) dz80_17 rfl rfl rfl
theorem dz80_18 : decode (z_code 80) 18 = .ok (.getfield 10, 3) := by decide +kernel
theorem u80_18 (ho : zO a 9) : zEv sc 80 18 [l0, l1, l2, l3, l4, l5] [.ref a] (zst p iv) Q ↔ zRef (zRV p a 0) (fun j => zEv sc 80 21 [l0, l1, l2, l3, l4, l5] [.ref j] (zst p iv) Q) := zE_gfR dz80_18 (by decide +kernel : z_lk3 zFT (z_cls 80) 10 = some (9, 0, 0, 309)) (by decide +kernel) ho
theorem dz80_21 : decode (z_code 80) 21 = .ok (.invokevirtual 159, 3) := by decide +kernel
theorem u80_21 (ho : zO a 2) : zEv sc 80 21 [l0, l1, l2, l3, l4, l5] [.ref a] (zst p iv) Q ↔ zEv sc 18 0 [.ref a] [] (zst p iv) (fun r h9 => zEv sc 80 24 [l0, l1, l2, l3, l4, l5] (r.toList ++ []) h9 Q) := zE_call (kd := 0) (na := 1) (nr := 0) (as := [.ref a]) (rest := []) (Or.inl ⟨rfl, rfl⟩) dz80_21 (by decide +kernel : z_lk2 zCT (z_cls 80) 159 = some (18, 1, 489)) (fun z => by cases z) rfl rfl rfl (by decide +kernel) rfl (Or.inr (zE_rc ho))
theorem dz80_24 : decode (z_code 80) 24 = .ok (.ifCond .eq 6, 3) := by decide +kernel
theorem u80_24 : zEv sc 80 24 [l0, l1, l2, l3, l4, l5] [.int x] h Q ↔ (if x = 0 then zEv sc 80 30 [l0, l1, l2, l3, l4, l5] [] h Q else zEv sc 80 27 [l0, l1, l2, l3, l4, l5] [] h Q) := zE_ifP (P := x = 0) inferInstance 30 dz80_24 rfl rfl
theorem dz80_27 : decode (z_code 80) 27 = .ok (.ldc 155, 2) := by decide +kernel
theorem u80_27 : zEv sc 80 27 [l0, l1, l2, l3, l4, l5] [] h Q ↔ zEv sc 80 29 [l0, l1, l2, l3, l4, l5] [.int (-1000002)] h Q := zE_ldc (by decide +kernel : z_lkK zKT (z_cls 80) 155 = some ((-1000002), 483)) dz80_27
theorem dz80_29 : decode (z_code 80) 29 = .ok (.ireturn, 1) := by decide +kernel
theorem u80_29 : zEv sc 80 29 [l0, l1, l2, l3, l4, l5] [.int x] h Q ↔ Q (some (.int x)) h := zE_ri dz80_29 (by decide +kernel)
theorem dz80_30 : decode (z_code 80) 30 = .ok (.aload_n 0, 1) := by decide +kernel
theorem u80_30 : zEv sc 80 30 [.ref a, l1, l2, l3, l4, l5] [] h Q ↔ zEv sc 80 31 [.ref a, l1, l2, l3, l4, l5] [.ref a] h Q := zE_pure (q := (31, [.ref a, l1, l2, l3, l4, l5], [.ref a])) dz80_30 rfl rfl rfl
theorem dz80_31 : decode (z_code 80) 31 = .ok (.getfield 10, 3) := by decide +kernel
theorem u80_31 (ho : zO a 9) : zEv sc 80 31 [l0, l1, l2, l3, l4, l5] [.ref a] (zst p iv) Q ↔ zRef (zRV p a 0) (fun j => zEv sc 80 34 [l0, l1, l2, l3, l4, l5] [.ref j] (zst p iv) Q) := zE_gfR dz80_31 (by decide +kernel : z_lk3 zFT (z_cls 80) 10 = some (9, 0, 0, 309)) (by decide +kernel) ho
theorem dz80_34 : decode (z_code 80) 34 = .ok (.iload_n 1, 1) := by decide +kernel
theorem u80_34 : zEv sc 80 34 [l0, .int x, l2, l3, l4, l5] [t0] h Q ↔ zEv sc 80 35 [l0, .int x, l2, l3, l4, l5] [.int x, t0] h Q := zE_pure (q := (35, [l0, .int x, l2, l3, l4, l5], [.int x, t0])) dz80_34 rfl rfl rfl
theorem dz80_35 : decode (z_code 80) 35 = .ok (.invokevirtual 95, 3) := by decide +kernel
theorem u80_35 (ho : zO a 2) : zEv sc 80 35 [l0, l1, l2, l3, l4, l5] [.int z0, .ref a] (zst p iv) Q ↔ zEv sc 14 0 [.ref a, .int z0] [] (zst p iv) (fun r h9 => zEv sc 80 38 [l0, l1, l2, l3, l4, l5] (r.toList ++ []) h9 Q) := zE_call (kd := 0) (na := 2) (nr := 0) (as := [.ref a, .int z0]) (rest := []) (Or.inl ⟨rfl, rfl⟩) dz80_35 (by decide +kernel : z_lk2 zCT (z_cls 80) 95 = some (14, 1, 385)) (fun z => by cases z) rfl rfl rfl (by decide +kernel) rfl (Or.inr (zE_rc ho))
theorem dz80_38 : decode (z_code 80) 38 = .ok (.getfield 107, 3) := by decide +kernel
theorem u80_38 (ho : zO a 6) : zEv sc 80 38 [l0, l1, l2, l3, l4, l5] [.ref a] (zst p iv) Q ↔ zRef (zRV p a 2) (fun j => zEv sc 80 41 [l0, l1, l2, l3, l4, l5] [.ref j] (zst p iv) Q) := zE_gfR dz80_38 (by decide +kernel : z_lk3 zFT (z_cls 80) 107 = some (6, 2, 1, 152)) (by decide +kernel) ho
theorem dz80_41 : decode (z_code 80) 41 = .ok (.astore_n 3, 1) := by decide +kernel
theorem u80_41 : zEv sc 80 41 [l0, l1, l2, l3, l4, l5] [.ref a] h Q ↔ zEv sc 80 42 [l0, l1, l2, .ref a, l4, l5] [] h Q := zE_pure (q := (42, [l0, l1, l2, .ref a, l4, l5], [])) dz80_41 rfl rfl rfl
theorem dz80_42 : decode (z_code 80) 42 = .ok (.aload_n 3, 1) := by decide +kernel
theorem u80_42 : zEv sc 80 42 [l0, l1, l2, .ref a, l4, l5] [] h Q ↔ zEv sc 80 43 [l0, l1, l2, .ref a, l4, l5] [.ref a] h Q := zE_pure (q := (43, [l0, l1, l2, .ref a, l4, l5], [.ref a])) dz80_42 rfl rfl rfl
theorem dz80_43 : decode (z_code 80) 43 = .ok (.invokevirtual 203, 3) := by decide +kernel
theorem u80_43 (ho : zO a 4) : zEv sc 80 43 [l0, l1, l2, l3, l4, l5] [.ref a] (zst p iv) Q ↔ zEv sc 36 0 [.ref a, .null, .null] [] (zst p iv) (fun r h9 => zEv sc 80 46 [l0, l1, l2, l3, l4, l5] (r.toList ++ []) h9 Q) := zE_call (kd := 0) (na := 1) (nr := 0) (as := [.ref a]) (rest := []) (Or.inl ⟨rfl, rfl⟩) dz80_43 (by decide +kernel : z_lk2 zCT (z_cls 80) 203 = some (36, 1, 567)) (fun z => by cases z) rfl rfl rfl (by decide +kernel) rfl (Or.inr (zE_rc ho))
theorem dz80_46 : decode (z_code 80) 46 = .ok (.istore 4, 2) := by decide +kernel
theorem u80_46 : zEv sc 80 46 [l0, l1, l2, l3, l4, l5] [.int x] h Q ↔ zEv sc 80 48 [l0, l1, l2, l3, .int x, l5] [] h Q := zE_pure (q := (48, [l0, l1, l2, l3, .int x, l5], [])) dz80_46 rfl rfl rfl
theorem dz80_48 : decode (z_code 80) 48 = .ok (.aload_n 0, 1) := by decide +kernel
theorem u80_48 : zEv sc 80 48 [.ref a, l1, l2, l3, l4, l5] [] h Q ↔ zEv sc 80 49 [.ref a, l1, l2, l3, l4, l5] [.ref a] h Q := zE_pure (q := (49, [.ref a, l1, l2, l3, l4, l5], [.ref a])) dz80_48 rfl rfl rfl
theorem dz80_49 : decode (z_code 80) 49 = .ok (.getfield 39, 3) := by decide +kernel
theorem u80_49 (ho : zO a 9) : zEv sc 80 49 [l0, l1, l2, l3, l4, l5] [.ref a] (zst p iv) Q ↔ zRef (zRV p a 5) (fun j => zEv sc 80 52 [l0, l1, l2, l3, l4, l5] [.ref j] (zst p iv) Q) := zE_gfR dz80_49 (by decide +kernel : z_lk3 zFT (z_cls 80) 39 = some (9, 5, 0, 314)) (by decide +kernel) ho
theorem dz80_52 : decode (z_code 80) 52 = .ok (.aload_n 0, 1) := by decide +kernel
theorem u80_52 : zEv sc 80 52 [.ref a, l1, l2, l3, l4, l5] [t0] h Q ↔ zEv sc 80 53 [.ref a, l1, l2, l3, l4, l5] [.ref a, t0] h Q := zE_pure (q := (53, [.ref a, l1, l2, l3, l4, l5], [.ref a, t0])) dz80_52 rfl rfl rfl
theorem dz80_53 : decode (z_code 80) 53 = .ok (.getfield 10, 3) := by decide +kernel
theorem u80_53 (ho : zO a 9) : zEv sc 80 53 [l0, l1, l2, l3, l4, l5] [.ref a, t0] (zst p iv) Q ↔ zRef (zRV p a 0) (fun j => zEv sc 80 56 [l0, l1, l2, l3, l4, l5] [.ref j, t0] (zst p iv) Q) := zE_gfR dz80_53 (by decide +kernel : z_lk3 zFT (z_cls 80) 10 = some (9, 0, 0, 309)) (by decide +kernel) ho
theorem dz80_56 : decode (z_code 80) 56 = .ok (.iload_n 1, 1) := by decide +kernel
theorem u80_56 : zEv sc 80 56 [l0, .int x, l2, l3, l4, l5] [t0, t1] h Q ↔ zEv sc 80 57 [l0, .int x, l2, l3, l4, l5] [.int x, t0, t1] h Q := zE_pure (q := (57, [l0, .int x, l2, l3, l4, l5], [.int x, t0, t1])) dz80_56 rfl rfl rfl
theorem dz80_57 : decode (z_code 80) 57 = .ok (.invokevirtual 183, 3) := by decide +kernel
theorem u80_57 (ho : zO a 5) : zEv sc 80 57 [l0, l1, l2, l3, l4, l5] [.int z0, .ref b0, .ref a] (zst p iv) Q ↔ zEv sc 39 0 [.ref a, .ref b0, .int z0, .null, .null, .null] [] (zst p iv) (fun r h9 => zEv sc 80 60 [l0, l1, l2, l3, l4, l5] (r.toList ++ []) h9 Q) := zE_call (kd := 0) (na := 3) (nr := 0) (as := [.ref a, .ref b0, .int z0]) (rest := []) (Or.inl ⟨rfl, rfl⟩) dz80_57 (by decide +kernel : z_lk2 zCT (z_cls 80) 183 = some (39, 1, 498)) (fun z => by cases z) rfl rfl rfl (by decide +kernel) rfl (Or.inr (zE_rc ho))
theorem dz80_60 : decode (z_code 80) 60 = .ok (.aload_n 0, 1) := by decide +kernel
theorem u80_60 : zEv sc 80 60 [.ref a, l1, l2, l3, l4, l5] [] h Q ↔ zEv sc 80 61 [.ref a, l1, l2, l3, l4, l5] [.ref a] h Q := zE_pure (q := (61, [.ref a, l1, l2, l3, l4, l5], [.ref a])) dz80_60 rfl rfl rfl
theorem dz80_61 : decode (z_code 80) 61 = .ok (.getfield 46, 3) := by decide +kernel
theorem u80_61 (ho : zO a 9) : zEv sc 80 61 [l0, l1, l2, l3, l4, l5] [.ref a] (zst p iv) Q ↔ zRef (zRV p a 6) (fun j => zEv sc 80 64 [l0, l1, l2, l3, l4, l5] [.ref j] (zst p iv) Q) := zE_gfR dz80_61 (by decide +kernel : z_lk3 zFT (z_cls 80) 46 = some (9, 6, 0, 315)) (by decide +kernel) ho
theorem dz80_64 : decode (z_code 80) 64 = .ok (.aload_n 0, 1) := by decide +kernel
theorem u80_64 : zEv sc 80 64 [.ref a, l1, l2, l3, l4, l5] [t0] h Q ↔ zEv sc 80 65 [.ref a, l1, l2, l3, l4, l5] [.ref a, t0] h Q := zE_pure (q := (65, [.ref a, l1, l2, l3, l4, l5], [.ref a, t0])) dz80_64 rfl rfl rfl
theorem dz80_65 : decode (z_code 80) 65 = .ok (.iload_n 1, 1) := by decide +kernel
theorem u80_65 : zEv sc 80 65 [l0, .int x, l2, l3, l4, l5] [t0, t1] h Q ↔ zEv sc 80 66 [l0, .int x, l2, l3, l4, l5] [.int x, t0, t1] h Q := zE_pure (q := (66, [l0, .int x, l2, l3, l4, l5], [.int x, t0, t1])) dz80_65 rfl rfl rfl
theorem dz80_66 : decode (z_code 80) 66 = .ok (.invokevirtual 122, 3) := by decide +kernel
theorem u80_66 (ho : zO a 9) : zEv sc 80 66 [l0, l1, l2, l3, l4, l5] [.int z0, .ref a, t0] (zst p iv) Q ↔ zEv sc 62 0 [.ref a, .int z0, .null] [] (zst p iv) (fun r h9 => zEv sc 80 69 [l0, l1, l2, l3, l4, l5] (r.toList ++ [t0]) h9 Q) := zE_call (kd := 0) (na := 2) (nr := 1) (as := [.ref a, .int z0]) (rest := [t0]) (Or.inl ⟨rfl, rfl⟩) dz80_66 (by decide +kernel : z_lk2 zCT (z_cls 80) 122 = some (62, 0, 421)) (fun z => by cases z) rfl rfl rfl (by decide +kernel) rfl (Or.inr (zE_rc ho))
theorem dz80_69 : decode (z_code 80) 69 = .ok (.aload_n 0, 1) := by decide +kernel
theorem u80_69 : zEv sc 80 69 [.ref a, l1, l2, l3, l4, l5] [t0, t1] h Q ↔ zEv sc 80 70 [.ref a, l1, l2, l3, l4, l5] [.ref a, t0, t1] h Q := zE_pure (q := (70, [.ref a, l1, l2, l3, l4, l5], [.ref a, t0, t1])) dz80_69 rfl rfl rfl
theorem dz80_70 : decode (z_code 80) 70 = .ok (.getfield 39, 3) := by decide +kernel
theorem u80_70 (ho : zO a 9) : zEv sc 80 70 [l0, l1, l2, l3, l4, l5] [.ref a, t0, t1] (zst p iv) Q ↔ zRef (zRV p a 5) (fun j => zEv sc 80 73 [l0, l1, l2, l3, l4, l5] [.ref j, t0, t1] (zst p iv) Q) := zE_gfR dz80_70 (by decide +kernel : z_lk3 zFT (z_cls 80) 39 = some (9, 5, 0, 314)) (by decide +kernel) ho
theorem dz80_73 : decode (z_code 80) 73 = .ok (.invokevirtual 209, 3) := by decide +kernel
theorem u80_73 (ho : zO a 1) : zEv sc 80 73 [l0, l1, l2, l3, l4, l5] [.ref b1, .ref b0, .ref a] (zst p iv) Q ↔ zEv sc 5 0 [.ref a, .ref b0, .ref b1, .null, .null] [] (zst p iv) (fun r h9 => zEv sc 80 76 [l0, l1, l2, l3, l4, l5] (r.toList ++ []) h9 Q) := zE_call (kd := 0) (na := 3) (nr := 0) (as := [.ref a, .ref b0, .ref b1]) (rest := []) (Or.inl ⟨rfl, rfl⟩) dz80_73 (by decide +kernel : z_lk2 zCT (z_cls 80) 209 = some (5, 1, 515)) (fun z => by cases z) rfl rfl rfl (by decide +kernel) rfl (Or.inr (zE_rc ho))
theorem dz80_76 : decode (z_code 80) 76 = .ok (.aload_n 0, 1) := by decide +kernel
theorem u80_76 : zEv sc 80 76 [.ref a, l1, l2, l3, l4, l5] [] h Q ↔ zEv sc 80 77 [.ref a, l1, l2, l3, l4, l5] [.ref a] h Q := zE_pure (q := (77, [.ref a, l1, l2, l3, l4, l5], [.ref a])) dz80_76 rfl rfl rfl
theorem dz80_77 : decode (z_code 80) 77 = .ok (.getfield 46, 3) := by decide +kernel
theorem u80_77 (ho : zO a 9) : zEv sc 80 77 [l0, l1, l2, l3, l4, l5] [.ref a] (zst p iv) Q ↔ zRef (zRV p a 6) (fun j => zEv sc 80 80 [l0, l1, l2, l3, l4, l5] [.ref j] (zst p iv) Q) := zE_gfR dz80_77 (by decide +kernel : z_lk3 zFT (z_cls 80) 46 = some (9, 6, 0, 315)) (by decide +kernel) ho
theorem dz80_80 : decode (z_code 80) 80 = .ok (.getfield 219, 3) := by decide +kernel
theorem u80_80 (ho : zO a 1) : zEv sc 80 80 [l0, l1, l2, l3, l4, l5] [.ref a] (zst p iv) Q ↔ zEv sc 80 83 [l0, l1, l2, l3, l4, l5] [.int (iv a 1)] (zst p iv) Q := zE_gfI dz80_80 (by decide +kernel : z_lk3 zFT (z_cls 80) 219 = some (1, 1, 1, 252)) (by decide +kernel) ho
theorem dz80_83 : decode (z_code 80) 83 = .ok (.iload 4, 2) := by decide +kernel
theorem u80_83 : zEv sc 80 83 [l0, l1, l2, l3, .int x, l5] [t0] h Q ↔ zEv sc 80 85 [l0, l1, l2, l3, .int x, l5] [.int x, t0] h Q := zE_pure (q := (85, [l0, l1, l2, l3, .int x, l5], [.int x, t0])) dz80_83 rfl rfl rfl
theorem dz80_85 : decode (z_code 80) 85 = .ok (.imul, 1) := by decide +kernel
theorem u80_85 : zEv sc 80 85 [l0, l1, l2, l3, l4, l5] [.int x2, .int x1] h Q ↔ zEv sc 80 86 [l0, l1, l2, l3, l4, l5] [.int (x1 * x2)] h Q := zE_pure (q := (86, [l0, l1, l2, l3, l4, l5], [.int (x1 * x2)])) dz80_85 rfl rfl rfl
theorem dz80_86 : decode (z_code 80) 86 = .ok (.aload_n 0, 1) := by decide +kernel
theorem u80_86 : zEv sc 80 86 [.ref a, l1, l2, l3, l4, l5] [t0] h Q ↔ zEv sc 80 87 [.ref a, l1, l2, l3, l4, l5] [.ref a, t0] h Q := zE_pure (q := (87, [.ref a, l1, l2, l3, l4, l5], [.ref a, t0])) dz80_86 rfl rfl rfl
theorem dz80_87 : decode (z_code 80) 87 = .ok (.getfield 39, 3) := by decide +kernel
theorem u80_87 (ho : zO a 9) : zEv sc 80 87 [l0, l1, l2, l3, l4, l5] [.ref a, t0] (zst p iv) Q ↔ zRef (zRV p a 5) (fun j => zEv sc 80 90 [l0, l1, l2, l3, l4, l5] [.ref j, t0] (zst p iv) Q) := zE_gfR dz80_87 (by decide +kernel : z_lk3 zFT (z_cls 80) 39 = some (9, 5, 0, 314)) (by decide +kernel) ho
theorem dz80_90 : decode (z_code 80) 90 = .ok (.aload_n 3, 1) := by decide +kernel
theorem u80_90 : zEv sc 80 90 [l0, l1, l2, .ref a, l4, l5] [t0, t1] h Q ↔ zEv sc 80 91 [l0, l1, l2, .ref a, l4, l5] [.ref a, t0, t1] h Q := zE_pure (q := (91, [l0, l1, l2, .ref a, l4, l5], [.ref a, t0, t1])) dz80_90 rfl rfl rfl
theorem dz80_91 : decode (z_code 80) 91 = .ok (.invokevirtual 205, 3) := by decide +kernel
theorem u80_91 (ho : zO a 5) : zEv sc 80 91 [l0, l1, l2, l3, l4, l5] [.ref b0, .ref a, t0] (zst p iv) Q ↔ zEv sc 40 0 [.ref a, .ref b0, .null, .null] [] (zst p iv) (fun r h9 => zEv sc 80 94 [l0, l1, l2, l3, l4, l5] (r.toList ++ [t0]) h9 Q) := zE_call (kd := 0) (na := 2) (nr := 1) (as := [.ref a, .ref b0]) (rest := [t0]) (Or.inl ⟨rfl, rfl⟩) dz80_91 (by decide +kernel : z_lk2 zCT (z_cls 80) 205 = some (40, 1, 572)) (fun z => by cases z) rfl rfl rfl (by decide +kernel) rfl (Or.inr (zE_rc ho))
theorem dz80_94 : decode (z_code 80) 94 = .ok (.isub, 1) := by decide +kernel
theorem u80_94 : zEv sc 80 94 [l0, l1, l2, l3, l4, l5] [.int x2, .int x1] h Q ↔ zEv sc 80 95 [l0, l1, l2, l3, l4, l5] [.int (x1 - x2)] h Q := zE_pure (q := (95, [l0, l1, l2, l3, l4, l5], [.int (x1 - x2)])) dz80_94 rfl rfl rfl
theorem dz80_95 : decode (z_code 80) 95 = .ok (.istore 5, 2) := by decide +kernel
theorem u80_95 : zEv sc 80 95 [l0, l1, l2, l3, l4, l5] [.int x] h Q ↔ zEv sc 80 97 [l0, l1, l2, l3, l4, .int x] [] h Q := zE_pure (q := (97, [l0, l1, l2, l3, l4, .int x], [])) dz80_95 rfl rfl rfl
theorem dz80_97 : decode (z_code 80) 97 = .ok (.iload_n 2, 1) := by decide +kernel
theorem u80_97 : zEv sc 80 97 [l0, l1, .int x, l3, l4, l5] [] h Q ↔ zEv sc 80 98 [l0, l1, .int x, l3, l4, l5] [.int x] h Q := zE_pure (q := (98, [l0, l1, .int x, l3, l4, l5], [.int x])) dz80_97 rfl rfl rfl
theorem dz80_98 : decode (z_code 80) 98 = .ok (.iload 5, 2) := by decide +kernel
theorem u80_98 : zEv sc 80 98 [l0, l1, l2, l3, l4, .int x] [t0] h Q ↔ zEv sc 80 100 [l0, l1, l2, l3, l4, .int x] [.int x, t0] h Q := zE_pure (q := (100, [l0, l1, l2, l3, l4, .int x], [.int x, t0])) dz80_98 rfl rfl rfl
theorem dz80_100 : decode (z_code 80) 100 = .ok (.aload_n 0, 1) := by decide +kernel
theorem u80_100 : zEv sc 80 100 [.ref a, l1, l2, l3, l4, l5] [t0, t1] h Q ↔ zEv sc 80 101 [.ref a, l1, l2, l3, l4, l5] [.ref a, t0, t1] h Q := zE_pure (q := (101, [.ref a, l1, l2, l3, l4, l5], [.ref a, t0, t1])) dz80_100 rfl rfl rfl
theorem dz80_101 : decode (z_code 80) 101 = .ok (.getfield 39, 3) := by decide +kernel
theorem u80_101 (ho : zO a 9) : zEv sc 80 101 [l0, l1, l2, l3, l4, l5] [.ref a, t0, t1] (zst p iv) Q ↔ zRef (zRV p a 5) (fun j => zEv sc 80 104 [l0, l1, l2, l3, l4, l5] [.ref j, t0, t1] (zst p iv) Q) := zE_gfR dz80_101 (by decide +kernel : z_lk3 zFT (z_cls 80) 39 = some (9, 5, 0, 314)) (by decide +kernel) ho
theorem dz80_104 : decode (z_code 80) 104 = .ok (.getfield 190, 3) := by decide +kernel
theorem u80_104 (ho : zO a 5) : zEv sc 80 104 [l0, l1, l2, l3, l4, l5] [.ref a, t0, t1] (zst p iv) Q ↔ zEv sc 80 107 [l0, l1, l2, l3, l4, l5] [.int (iv a 1), t0, t1] (zst p iv) Q := zE_gfI dz80_104 (by decide +kernel : z_lk3 zFT (z_cls 80) 190 = some (5, 1, 1, 234)) (by decide +kernel) ho
theorem dz80_107 : decode (z_code 80) 107 = .ok (.iload 4, 2) := by decide +kernel
theorem u80_107 : zEv sc 80 107 [l0, l1, l2, l3, .int x, l5] [t0, t1, t2] h Q ↔ zEv sc 80 109 [l0, l1, l2, l3, .int x, l5] [.int x, t0, t1, t2] h Q := zE_pure (q := (109, [l0, l1, l2, l3, .int x, l5], [.int x, t0, t1, t2])) dz80_107 rfl rfl rfl
theorem dz80_109 : decode (z_code 80) 109 = .ok (.imul, 1) := by decide +kernel
theorem u80_109 : zEv sc 80 109 [l0, l1, l2, l3, l4, l5] [.int x2, .int x1, t0, t1] h Q ↔ zEv sc 80 110 [l0, l1, l2, l3, l4, l5] [.int (x1 * x2), t0, t1] h Q := zE_pure (q := (110, [l0, l1, l2, l3, l4, l5], [.int (x1 * x2), t0, t1])) dz80_109 rfl rfl rfl
theorem dz80_110 : decode (z_code 80) 110 = .ok (.invokestatic 193, 3) := by decide +kernel
theorem u80_110 : zEv sc 80 110 [l0, l1, l2, l3, l4, l5] [.int z2, .int z1, .int z0] h Q ↔ zEv sc 73 0 [.int z0, .int z1, .int z2, .null] [] h (fun r h9 => zEv sc 80 113 [l0, l1, l2, l3, l4, l5] (r.toList ++ []) h9 Q) := zE_call (kd := 1) (na := 3) (nr := 0) (as := [.int z0, .int z1, .int z2]) (rest := []) (Or.inr ⟨rfl, rfl⟩) dz80_110 (by decide +kernel : z_lk2 zCT (z_cls 80) 193 = some (73, 0, 542)) (fun _ => by decide +kernel) rfl rfl rfl (by decide +kernel) rfl (Or.inl rfl)
theorem dz80_113 : decode (z_code 80) 113 = .ok (.ireturn, 1) := by decide +kernel
theorem u80_113 : zEv sc 80 113 [l0, l1, l2, l3, l4, l5] [.int x] h Q ↔ Q (some (.int x)) h := zE_ri dz80_113 (by decide +kernel)
theorem dz80_14 : decode (z_code 80) 14 = .ok (.ldc 71, 2) := by decide +kernel
theorem u80_14 : zEv sc 80 14 [l0, l1, l2, l3, l4, l5] [] h Q ↔ zEv sc 80 16 [l0, l1, l2, l3, l4, l5] [.int (-1000001)] h Q := zE_ldc (by decide +kernel : z_lkK zKT (z_cls 80) 71 = some ((-1000001), 347)) dz80_14
theorem dz80_16 : decode (z_code 80) 16 = .ok (.ireturn, 1) := by decide +kernel
theorem u80_16 : zEv sc 80 16 [l0, l1, l2, l3, l4, l5] [.int x] h Q ↔ Q (some (.int x)) h := zE_ri dz80_16 (by decide +kernel)
/-! method 81: FieldMixtures.count(I)I -/
theorem dz81_0 : decode (z_code 81) 0 = .ok (.iload_n 1, 1) := by decide +kernel
theorem u81_0 : zEv sc 81 0 [l0, .int x] [] h Q ↔ zEv sc 81 1 [l0, .int x] [.int x] h Q := zE_pure (q := (1, [l0, .int x], [.int x])) dz81_0 rfl rfl rfl
theorem dz81_1 : decode (z_code 81) 1 = .ok (.bipush 20, 2) := by decide +kernel
theorem u81_1 : zEv sc 81 1 [l0, l1] [t0] h Q ↔ zEv sc 81 3 [l0, l1] [.int 20, t0] h Q := zE_bipush dz81_1 (by decide +kernel)
theorem dz81_3 : decode (z_code 81) 3 = .ok (.bipush 19, 2) := by decide +kernel
theorem u81_3 : zEv sc 81 3 [l0, l1] [t0, t1] h Q ↔ zEv sc 81 5 [l0, l1] [.int 19, t0, t1] h Q := zE_bipush dz81_3 (by decide +kernel)
theorem dz81_5 : decode (z_code 81) 5 = .ok (.aload_n 0, 1) := by decide +kernel
theorem u81_5 : zEv sc 81 5 [.ref a, l1] [t0, t1, t2] h Q ↔ zEv sc 81 6 [.ref a, l1] [.ref a, t0, t1, t2] h Q := zE_pure (q := (6, [.ref a, l1], [.ref a, t0, t1, t2])) dz81_5 rfl rfl rfl
theorem dz81_6 : decode (z_code 81) 6 = .ok (.getfield 10, 3) := by decide +kernel
theorem u81_6 (ho : zO a 9) : zEv sc 81 6 [l0, l1] [.ref a, t0, t1, t2] (zst p iv) Q ↔ zRef (zRV p a 0) (fun j => zEv sc 81 9 [l0, l1] [.ref j, t0, t1, t2] (zst p iv) Q) := zE_gfR dz81_6 (by decide +kernel : z_lk3 zFT (z_cls 81) 10 = some (9, 0, 0, 309)) (by decide +kernel) ho
theorem dz81_9 : decode (z_code 81) 9 = .ok (.getfield 72, 3) := by decide +kernel
theorem u81_9 (ho : zO a 2) : zEv sc 81 9 [l0, l1] [.ref a, t0, t1, t2] (zst p iv) Q ↔ zEv sc 81 12 [l0, l1] [.int (iv a 0), t0, t1, t2] (zst p iv) Q := zE_gfI dz81_9 (by decide +kernel : z_lk3 zFT (z_cls 81) 72 = some (2, 0, 1, 170)) (by decide +kernel) ho
theorem dz81_12 : decode (z_code 81) 12 = .ok (.iadd, 1) := by decide +kernel
theorem u81_12 : zEv sc 81 12 [l0, l1] [.int x2, .int x1, t0, t1] h Q ↔ zEv sc 81 13 [l0, l1] [.int (x1 + x2), t0, t1] h Q := zE_pure (q := (13, [l0, l1], [.int (x1 + x2), t0, t1])) dz81_12 rfl rfl rfl
theorem dz81_13 : decode (z_code 81) 13 = .ok (.invokestatic 67, 3) := by decide +kernel
theorem u81_13 : zEv sc 81 13 [l0, l1] [.int z2, .int z1, .int z0] h Q ↔ zEv sc 15 0 [.int z0, .int z1, .int z2] [] h (fun r h9 => zEv sc 81 16 [l0, l1] (r.toList ++ []) h9 Q) := zE_call (kd := 1) (na := 3) (nr := 0) (as := [.int z0, .int z1, .int z2]) (rest := []) (Or.inr ⟨rfl, rfl⟩) dz81_13 (by decide +kernel : z_lk2 zCT (z_cls 81) 67 = some (15, 0, 344)) (fun _ => by decide +kernel) rfl rfl rfl (by decide +kernel) rfl (Or.inl rfl)
theorem dz81_16 : decode (z_code 81) 16 = .ok (.ifCond .eq 16, 3) := by decide +kernel
theorem u81_16 : zEv sc 81 16 [l0, l1] [.int x] h Q ↔ (if x = 0 then zEv sc 81 32 [l0, l1] [] h Q else zEv sc 81 19 [l0, l1] [] h Q) := zE_ifP (P := x = 0) inferInstance 32 dz81_16 rfl rfl
theorem dz81_19 : decode (z_code 81) 19 = .ok (.aload_n 0, 1) := by decide +kernel
theorem u81_19 : zEv sc 81 19 [.ref a, l1] [] h Q ↔ zEv sc 81 20 [.ref a, l1] [.ref a] h Q := zE_pure (q := (20, [.ref a, l1], [.ref a])) dz81_19 rfl rfl rfl
theorem dz81_20 : decode (z_code 81) 20 = .ok (.getfield 10, 3) := by decide +kernel
theorem u81_20 (ho : zO a 9) : zEv sc 81 20 [l0, l1] [.ref a] (zst p iv) Q ↔ zRef (zRV p a 0) (fun j => zEv sc 81 23 [l0, l1] [.ref j] (zst p iv) Q) := zE_gfR dz81_20 (by decide +kernel : z_lk3 zFT (z_cls 81) 10 = some (9, 0, 0, 309)) (by decide +kernel) ho
theorem dz81_23 : decode (z_code 81) 23 = .ok (.getfield 88, 3) := by decide +kernel
theorem u81_23 (ho : zO a 2) : zEv sc 81 23 [l0, l1] [.ref a] (zst p iv) Q ↔ zRef (zRV p a 2) (fun j => zEv sc 81 26 [l0, l1] [.ref j] (zst p iv) Q) := zE_gfR dz81_23 (by decide +kernel : z_lk3 zFT (z_cls 81) 88 = some (2, 2, 1, 176)) (by decide +kernel) ho
theorem dz81_26 : decode (z_code 81) 26 = .ok (.iload_n 1, 1) := by decide +kernel
theorem u81_26 : zEv sc 81 26 [l0, .int x] [t0] h Q ↔ zEv sc 81 27 [l0, .int x] [.int x, t0] h Q := zE_pure (q := (27, [l0, .int x], [.int x, t0])) dz81_26 rfl rfl rfl
theorem dz81_27 : decode (z_code 81) 27 = .ok (.bipush 20, 2) := by decide +kernel
theorem u81_27 : zEv sc 81 27 [l0, l1] [t0, t1] h Q ↔ zEv sc 81 29 [l0, l1] [.int 20, t0, t1] h Q := zE_bipush dz81_27 (by decide +kernel)
theorem dz81_29 : decode (z_code 81) 29 = .ok (.isub, 1) := by decide +kernel
theorem u81_29 : zEv sc 81 29 [l0, l1] [.int x2, .int x1, t0] h Q ↔ zEv sc 81 30 [l0, l1] [.int (x1 - x2), t0] h Q := zE_pure (q := (30, [l0, l1], [.int (x1 - x2), t0])) dz81_29 rfl rfl rfl
theorem dz81_30 : decode (z_code 81) 30 = .ok (.iaload, 1) := by decide +kernel
theorem u81_30 (ho : zO a 100) : zEv sc 81 30 [l0, l1] [.int x, .ref a] (zst p iv) Q ↔ (vp_in x (zLn a) ∧ zEv sc 81 31 [l0, l1] [.int (iv a x.toNatClampNeg)] (zst p iv) Q) := zE_ald (Or.inl ⟨rfl, rfl⟩) dz81_30 ho
theorem dz81_31 : decode (z_code 81) 31 = .ok (.ireturn, 1) := by decide +kernel
theorem u81_31 : zEv sc 81 31 [l0, l1] [.int x] h Q ↔ Q (some (.int x)) h := zE_ri dz81_31 (by decide +kernel)
theorem dz81_32 : decode (z_code 81) 32 = .ok (.iload_n 1, 1) := by decide +kernel
theorem u81_32 : zEv sc 81 32 [l0, .int x] [] h Q ↔ zEv sc 81 33 [l0, .int x] [.int x] h Q := zE_pure (q := (33, [l0, .int x], [.int x])) dz81_32 rfl rfl rfl
theorem dz81_33 : decode (z_code 81) 33 = .ok (.bipush 30, 2) := by decide +kernel
theorem u81_33 : zEv sc 81 33 [l0, l1] [t0] h Q ↔ zEv sc 81 35 [l0, l1] [.int 30, t0] h Q := zE_bipush dz81_33 (by decide +kernel)
theorem dz81_35 : decode (z_code 81) 35 = .ok (.bipush 29, 2) := by decide +kernel
theorem u81_35 : zEv sc 81 35 [l0, l1] [t0, t1] h Q ↔ zEv sc 81 37 [l0, l1] [.int 29, t0, t1] h Q := zE_bipush dz81_35 (by decide +kernel)
theorem dz81_37 : decode (z_code 81) 37 = .ok (.aload_n 0, 1) := by decide +kernel
theorem u81_37 : zEv sc 81 37 [.ref a, l1] [t0, t1, t2] h Q ↔ zEv sc 81 38 [.ref a, l1] [.ref a, t0, t1, t2] h Q := zE_pure (q := (38, [.ref a, l1], [.ref a, t0, t1, t2])) dz81_37 rfl rfl rfl
theorem dz81_38 : decode (z_code 81) 38 = .ok (.getfield 10, 3) := by decide +kernel
theorem u81_38 (ho : zO a 9) : zEv sc 81 38 [l0, l1] [.ref a, t0, t1, t2] (zst p iv) Q ↔ zRef (zRV p a 0) (fun j => zEv sc 81 41 [l0, l1] [.ref j, t0, t1, t2] (zst p iv) Q) := zE_gfR dz81_38 (by decide +kernel : z_lk3 zFT (z_cls 81) 10 = some (9, 0, 0, 309)) (by decide +kernel) ho
theorem dz81_41 : decode (z_code 81) 41 = .ok (.getfield 72, 3) := by decide +kernel
theorem u81_41 (ho : zO a 2) : zEv sc 81 41 [l0, l1] [.ref a, t0, t1, t2] (zst p iv) Q ↔ zEv sc 81 44 [l0, l1] [.int (iv a 0), t0, t1, t2] (zst p iv) Q := zE_gfI dz81_41 (by decide +kernel : z_lk3 zFT (z_cls 81) 72 = some (2, 0, 1, 170)) (by decide +kernel) ho
theorem dz81_44 : decode (z_code 81) 44 = .ok (.iadd, 1) := by decide +kernel
theorem u81_44 : zEv sc 81 44 [l0, l1] [.int x2, .int x1, t0, t1] h Q ↔ zEv sc 81 45 [l0, l1] [.int (x1 + x2), t0, t1] h Q := zE_pure (q := (45, [l0, l1], [.int (x1 + x2), t0, t1])) dz81_44 rfl rfl rfl
theorem dz81_45 : decode (z_code 81) 45 = .ok (.invokestatic 67, 3) := by decide +kernel
theorem u81_45 : zEv sc 81 45 [l0, l1] [.int z2, .int z1, .int z0] h Q ↔ zEv sc 15 0 [.int z0, .int z1, .int z2] [] h (fun r h9 => zEv sc 81 48 [l0, l1] (r.toList ++ []) h9 Q) := zE_call (kd := 1) (na := 3) (nr := 0) (as := [.int z0, .int z1, .int z2]) (rest := []) (Or.inr ⟨rfl, rfl⟩) dz81_45 (by decide +kernel : z_lk2 zCT (z_cls 81) 67 = some (15, 0, 344)) (fun _ => by decide +kernel) rfl rfl rfl (by decide +kernel) rfl (Or.inl rfl)
theorem dz81_48 : decode (z_code 81) 48 = .ok (.ifCond .eq 20, 3) := by decide +kernel
theorem u81_48 : zEv sc 81 48 [l0, l1] [.int x] h Q ↔ (if x = 0 then zEv sc 81 68 [l0, l1] [] h Q else zEv sc 81 51 [l0, l1] [] h Q) := zE_ifP (P := x = 0) inferInstance 68 dz81_48 rfl rfl
theorem dz81_51 : decode (z_code 81) 51 = .ok (.aload_n 0, 1) := by decide +kernel
theorem u81_51 : zEv sc 81 51 [.ref a, l1] [] h Q ↔ zEv sc 81 52 [.ref a, l1] [.ref a] h Q := zE_pure (q := (52, [.ref a, l1], [.ref a])) dz81_51 rfl rfl rfl
theorem dz81_52 : decode (z_code 81) 52 = .ok (.getfield 10, 3) := by decide +kernel
theorem u81_52 (ho : zO a 9) : zEv sc 81 52 [l0, l1] [.ref a] (zst p iv) Q ↔ zRef (zRV p a 0) (fun j => zEv sc 81 55 [l0, l1] [.ref j] (zst p iv) Q) := zE_gfR dz81_52 (by decide +kernel : z_lk3 zFT (z_cls 81) 10 = some (9, 0, 0, 309)) (by decide +kernel) ho
theorem dz81_55 : decode (z_code 81) 55 = .ok (.iconst 0, 1) := by decide +kernel
theorem u81_55 : zEv sc 81 55 [l0, l1] [t0] h Q ↔ zEv sc 81 56 [l0, l1] [.int 0, t0] h Q := zE_iconst dz81_55 (by decide +kernel)
theorem dz81_56 : decode (z_code 81) 56 = .ok (.invokevirtual 95, 3) := by decide +kernel
theorem u81_56 (ho : zO a 2) : zEv sc 81 56 [l0, l1] [.int z0, .ref a] (zst p iv) Q ↔ zEv sc 14 0 [.ref a, .int z0] [] (zst p iv) (fun r h9 => zEv sc 81 59 [l0, l1] (r.toList ++ []) h9 Q) := zE_call (kd := 0) (na := 2) (nr := 0) (as := [.ref a, .int z0]) (rest := []) (Or.inl ⟨rfl, rfl⟩) dz81_56 (by decide +kernel : z_lk2 zCT (z_cls 81) 95 = some (14, 1, 385)) (fun z => by cases z) rfl rfl rfl (by decide +kernel) rfl (Or.inr (zE_rc ho))
theorem dz81_59 : decode (z_code 81) 59 = .ok (.getfield 116, 3) := by decide +kernel
theorem u81_59 (ho : zO a 6) : zEv sc 81 59 [l0, l1] [.ref a] (zst p iv) Q ↔ zRef (zRV p a 1) (fun j => zEv sc 81 62 [l0, l1] [.ref j] (zst p iv) Q) := zE_gfR dz81_59 (by decide +kernel : z_lk3 zFT (z_cls 81) 116 = some (6, 1, 1, 147)) (by decide +kernel) ho
theorem dz81_62 : decode (z_code 81) 62 = .ok (.iload_n 1, 1) := by decide +kernel
theorem u81_62 : zEv sc 81 62 [l0, .int x] [t0] h Q ↔ zEv sc 81 63 [l0, .int x] [.int x, t0] h Q := zE_pure (q := (63, [l0, .int x], [.int x, t0])) dz81_62 rfl rfl rfl
theorem dz81_63 : decode (z_code 81) 63 = .ok (.bipush 30, 2) := by decide +kernel
theorem u81_63 : zEv sc 81 63 [l0, l1] [t0, t1] h Q ↔ zEv sc 81 65 [l0, l1] [.int 30, t0, t1] h Q := zE_bipush dz81_63 (by decide +kernel)
theorem dz81_65 : decode (z_code 81) 65 = .ok (.isub, 1) := by decide +kernel
theorem u81_65 : zEv sc 81 65 [l0, l1] [.int x2, .int x1, t0] h Q ↔ zEv sc 81 66 [l0, l1] [.int (x1 - x2), t0] h Q := zE_pure (q := (66, [l0, l1], [.int (x1 - x2), t0])) dz81_65 rfl rfl rfl
theorem dz81_66 : decode (z_code 81) 66 = .ok (.iaload, 1) := by decide +kernel
theorem u81_66 (ho : zO a 100) : zEv sc 81 66 [l0, l1] [.int x, .ref a] (zst p iv) Q ↔ (vp_in x (zLn a) ∧ zEv sc 81 67 [l0, l1] [.int (iv a x.toNatClampNeg)] (zst p iv) Q) := zE_ald (Or.inl ⟨rfl, rfl⟩) dz81_66 ho
theorem dz81_67 : decode (z_code 81) 67 = .ok (.ireturn, 1) := by decide +kernel
theorem u81_67 : zEv sc 81 67 [l0, l1] [.int x] h Q ↔ Q (some (.int x)) h := zE_ri dz81_67 (by decide +kernel)
theorem dz81_68 : decode (z_code 81) 68 = .ok (.iload_n 1, 1) := by decide +kernel
theorem u81_68 : zEv sc 81 68 [l0, .int x] [] h Q ↔ zEv sc 81 69 [l0, .int x] [.int x] h Q := zE_pure (q := (69, [l0, .int x], [.int x])) dz81_68 rfl rfl rfl
theorem dz81_69 : decode (z_code 81) 69 = .ok (.bipush 40, 2) := by decide +kernel
theorem u81_69 : zEv sc 81 69 [l0, l1] [t0] h Q ↔ zEv sc 81 71 [l0, l1] [.int 40, t0] h Q := zE_bipush dz81_69 (by decide +kernel)
theorem dz81_71 : decode (z_code 81) 71 = .ok (.bipush 39, 2) := by decide +kernel
theorem u81_71 : zEv sc 81 71 [l0, l1] [t0, t1] h Q ↔ zEv sc 81 73 [l0, l1] [.int 39, t0, t1] h Q := zE_bipush dz81_71 (by decide +kernel)
theorem dz81_73 : decode (z_code 81) 73 = .ok (.aload_n 0, 1) := by decide +kernel
theorem u81_73 : zEv sc 81 73 [.ref a, l1] [t0, t1, t2] h Q ↔ zEv sc 81 74 [.ref a, l1] [.ref a, t0, t1, t2] h Q := zE_pure (q := (74, [.ref a, l1], [.ref a, t0, t1, t2])) dz81_73 rfl rfl rfl
theorem dz81_74 : decode (z_code 81) 74 = .ok (.getfield 10, 3) := by decide +kernel
theorem u81_74 (ho : zO a 9) : zEv sc 81 74 [l0, l1] [.ref a, t0, t1, t2] (zst p iv) Q ↔ zRef (zRV p a 0) (fun j => zEv sc 81 77 [l0, l1] [.ref j, t0, t1, t2] (zst p iv) Q) := zE_gfR dz81_74 (by decide +kernel : z_lk3 zFT (z_cls 81) 10 = some (9, 0, 0, 309)) (by decide +kernel) ho
theorem dz81_77 : decode (z_code 81) 77 = .ok (.getfield 72, 3) := by decide +kernel
theorem u81_77 (ho : zO a 2) : zEv sc 81 77 [l0, l1] [.ref a, t0, t1, t2] (zst p iv) Q ↔ zEv sc 81 80 [l0, l1] [.int (iv a 0), t0, t1, t2] (zst p iv) Q := zE_gfI dz81_77 (by decide +kernel : z_lk3 zFT (z_cls 81) 72 = some (2, 0, 1, 170)) (by decide +kernel) ho
theorem dz81_80 : decode (z_code 81) 80 = .ok (.iadd, 1) := by decide +kernel
theorem u81_80 : zEv sc 81 80 [l0, l1] [.int x2, .int x1, t0, t1] h Q ↔ zEv sc 81 81 [l0, l1] [.int (x1 + x2), t0, t1] h Q := zE_pure (q := (81, [l0, l1], [.int (x1 + x2), t0, t1])) dz81_80 rfl rfl rfl
theorem dz81_81 : decode (z_code 81) 81 = .ok (.invokestatic 67, 3) := by decide +kernel
theorem u81_81 : zEv sc 81 81 [l0, l1] [.int z2, .int z1, .int z0] h Q ↔ zEv sc 15 0 [.int z0, .int z1, .int z2] [] h (fun r h9 => zEv sc 81 84 [l0, l1] (r.toList ++ []) h9 Q) := zE_call (kd := 1) (na := 3) (nr := 0) (as := [.int z0, .int z1, .int z2]) (rest := []) (Or.inr ⟨rfl, rfl⟩) dz81_81 (by decide +kernel : z_lk2 zCT (z_cls 81) 67 = some (15, 0, 344)) (fun _ => by decide +kernel) rfl rfl rfl (by decide +kernel) rfl (Or.inl rfl)
theorem dz81_84 : decode (z_code 81) 84 = .ok (.ifCond .eq 20, 3) := by decide +kernel
theorem u81_84 : zEv sc 81 84 [l0, l1] [.int x] h Q ↔ (if x = 0 then zEv sc 81 104 [l0, l1] [] h Q else zEv sc 81 87 [l0, l1] [] h Q) := zE_ifP (P := x = 0) inferInstance 104 dz81_84 rfl rfl
theorem dz81_87 : decode (z_code 81) 87 = .ok (.aload_n 0, 1) := by decide +kernel
theorem u81_87 : zEv sc 81 87 [.ref a, l1] [] h Q ↔ zEv sc 81 88 [.ref a, l1] [.ref a] h Q := zE_pure (q := (88, [.ref a, l1], [.ref a])) dz81_87 rfl rfl rfl
theorem dz81_88 : decode (z_code 81) 88 = .ok (.getfield 10, 3) := by decide +kernel
theorem u81_88 (ho : zO a 9) : zEv sc 81 88 [l0, l1] [.ref a] (zst p iv) Q ↔ zRef (zRV p a 0) (fun j => zEv sc 81 91 [l0, l1] [.ref j] (zst p iv) Q) := zE_gfR dz81_88 (by decide +kernel : z_lk3 zFT (z_cls 81) 10 = some (9, 0, 0, 309)) (by decide +kernel) ho
theorem dz81_91 : decode (z_code 81) 91 = .ok (.iconst 1, 1) := by decide +kernel
theorem u81_91 : zEv sc 81 91 [l0, l1] [t0] h Q ↔ zEv sc 81 92 [l0, l1] [.int 1, t0] h Q := zE_iconst dz81_91 (by decide +kernel)
theorem dz81_92 : decode (z_code 81) 92 = .ok (.invokevirtual 95, 3) := by decide +kernel
theorem u81_92 (ho : zO a 2) : zEv sc 81 92 [l0, l1] [.int z0, .ref a] (zst p iv) Q ↔ zEv sc 14 0 [.ref a, .int z0] [] (zst p iv) (fun r h9 => zEv sc 81 95 [l0, l1] (r.toList ++ []) h9 Q) := zE_call (kd := 0) (na := 2) (nr := 0) (as := [.ref a, .int z0]) (rest := []) (Or.inl ⟨rfl, rfl⟩) dz81_92 (by decide +kernel : z_lk2 zCT (z_cls 81) 95 = some (14, 1, 385)) (fun z => by cases z) rfl rfl rfl (by decide +kernel) rfl (Or.inr (zE_rc ho))
theorem dz81_95 : decode (z_code 81) 95 = .ok (.getfield 116, 3) := by decide +kernel
theorem u81_95 (ho : zO a 6) : zEv sc 81 95 [l0, l1] [.ref a] (zst p iv) Q ↔ zRef (zRV p a 1) (fun j => zEv sc 81 98 [l0, l1] [.ref j] (zst p iv) Q) := zE_gfR dz81_95 (by decide +kernel : z_lk3 zFT (z_cls 81) 116 = some (6, 1, 1, 147)) (by decide +kernel) ho
theorem dz81_98 : decode (z_code 81) 98 = .ok (.iload_n 1, 1) := by decide +kernel
theorem u81_98 : zEv sc 81 98 [l0, .int x] [t0] h Q ↔ zEv sc 81 99 [l0, .int x] [.int x, t0] h Q := zE_pure (q := (99, [l0, .int x], [.int x, t0])) dz81_98 rfl rfl rfl
theorem dz81_99 : decode (z_code 81) 99 = .ok (.bipush 40, 2) := by decide +kernel
theorem u81_99 : zEv sc 81 99 [l0, l1] [t0, t1] h Q ↔ zEv sc 81 101 [l0, l1] [.int 40, t0, t1] h Q := zE_bipush dz81_99 (by decide +kernel)
theorem dz81_101 : decode (z_code 81) 101 = .ok (.isub, 1) := by decide +kernel
theorem u81_101 : zEv sc 81 101 [l0, l1] [.int x2, .int x1, t0] h Q ↔ zEv sc 81 102 [l0, l1] [.int (x1 - x2), t0] h Q := zE_pure (q := (102, [l0, l1], [.int (x1 - x2), t0])) dz81_101 rfl rfl rfl
theorem dz81_102 : decode (z_code 81) 102 = .ok (.iaload, 1) := by decide +kernel
theorem u81_102 (ho : zO a 100) : zEv sc 81 102 [l0, l1] [.int x, .ref a] (zst p iv) Q ↔ (vp_in x (zLn a) ∧ zEv sc 81 103 [l0, l1] [.int (iv a x.toNatClampNeg)] (zst p iv) Q) := zE_ald (Or.inl ⟨rfl, rfl⟩) dz81_102 ho
theorem dz81_103 : decode (z_code 81) 103 = .ok (.ireturn, 1) := by decide +kernel
theorem u81_103 : zEv sc 81 103 [l0, l1] [.int x] h Q ↔ Q (some (.int x)) h := zE_ri dz81_103 (by decide +kernel)
theorem dz81_104 : decode (z_code 81) 104 = .ok (.iload_n 1, 1) := by decide +kernel
theorem u81_104 : zEv sc 81 104 [l0, .int x] [] h Q ↔ zEv sc 81 105 [l0, .int x] [.int x] h Q := zE_pure (q := (105, [l0, .int x], [.int x])) dz81_104 rfl rfl rfl
theorem dz81_105 : decode (z_code 81) 105 = .ok (.tableswitch 148 0 10 #[59, 67, 75, 83, 83, 97, 97, 114, 114, 132, 140], 59) := by decide +kernel
theorem u81_105_0 : zEv sc 81 105 [l0, l1] [.int 0] h Q ↔ zEv sc 81 164 [l0, l1] [] h Q := zE_tab (v := 0) (off := 59) 164 dz81_105 (by decide +kernel) (by decide +kernel) (by decide +kernel) rfl
theorem u81_105_1 : zEv sc 81 105 [l0, l1] [.int 1] h Q ↔ zEv sc 81 172 [l0, l1] [] h Q := zE_tab (v := 1) (off := 67) 172 dz81_105 (by decide +kernel) (by decide +kernel) (by decide +kernel) rfl
theorem u81_105_2 : zEv sc 81 105 [l0, l1] [.int 2] h Q ↔ zEv sc 81 180 [l0, l1] [] h Q := zE_tab (v := 2) (off := 75) 180 dz81_105 (by decide +kernel) (by decide +kernel) (by decide +kernel) rfl
theorem u81_105_3 : zEv sc 81 105 [l0, l1] [.int 3] h Q ↔ zEv sc 81 188 [l0, l1] [] h Q := zE_tab (v := 3) (off := 83) 188 dz81_105 (by decide +kernel) (by decide +kernel) (by decide +kernel) rfl
theorem u81_105_4 : zEv sc 81 105 [l0, l1] [.int 4] h Q ↔ zEv sc 81 188 [l0, l1] [] h Q := zE_tab (v := 4) (off := 83) 188 dz81_105 (by decide +kernel) (by decide +kernel) (by decide +kernel) rfl
theorem u81_105_5 : zEv sc 81 105 [l0, l1] [.int 5] h Q ↔ zEv sc 81 202 [l0, l1] [] h Q := zE_tab (v := 5) (off := 97) 202 dz81_105 (by decide +kernel) (by decide +kernel) (by decide +kernel) rfl
theorem u81_105_6 : zEv sc 81 105 [l0, l1] [.int 6] h Q ↔ zEv sc 81 202 [l0, l1] [] h Q := zE_tab (v := 6) (off := 97) 202 dz81_105 (by decide +kernel) (by decide +kernel) (by decide +kernel) rfl
theorem u81_105_7 : zEv sc 81 105 [l0, l1] [.int 7] h Q ↔ zEv sc 81 219 [l0, l1] [] h Q := zE_tab (v := 7) (off := 114) 219 dz81_105 (by decide +kernel) (by decide +kernel) (by decide +kernel) rfl
theorem u81_105_8 : zEv sc 81 105 [l0, l1] [.int 8] h Q ↔ zEv sc 81 219 [l0, l1] [] h Q := zE_tab (v := 8) (off := 114) 219 dz81_105 (by decide +kernel) (by decide +kernel) (by decide +kernel) rfl
theorem u81_105_9 : zEv sc 81 105 [l0, l1] [.int 9] h Q ↔ zEv sc 81 237 [l0, l1] [] h Q := zE_tab (v := 9) (off := 132) 237 dz81_105 (by decide +kernel) (by decide +kernel) (by decide +kernel) rfl
theorem u81_105_10 : zEv sc 81 105 [l0, l1] [.int 10] h Q ↔ zEv sc 81 245 [l0, l1] [] h Q := zE_tab (v := 10) (off := 140) 245 dz81_105 (by decide +kernel) (by decide +kernel) (by decide +kernel) rfl
theorem u81_105_d (hx : x.toInt < 0 ∨ 10 < x.toInt) : zEv sc 81 105 [l0, l1] [.int x] h Q ↔ zEv sc 81 253 [l0, l1] [] h Q := zE_tabD 253 dz81_105 hx rfl
theorem dz81_253 : decode (z_code 81) 253 = .ok (.ldc 71, 2) := by decide +kernel
theorem u81_253 : zEv sc 81 253 [l0, l1] [] h Q ↔ zEv sc 81 255 [l0, l1] [.int (-1000001)] h Q := zE_ldc (by decide +kernel : z_lkK zKT (z_cls 81) 71 = some ((-1000001), 347)) dz81_253
theorem dz81_255 : decode (z_code 81) 255 = .ok (.ireturn, 1) := by decide +kernel
theorem u81_255 : zEv sc 81 255 [l0, l1] [.int x] h Q ↔ Q (some (.int x)) h := zE_ri dz81_255 (by decide +kernel)
theorem dz81_245 : decode (z_code 81) 245 = .ok (.aload_n 0, 1) := by decide +kernel
theorem u81_245 : zEv sc 81 245 [.ref a, l1] [] h Q ↔ zEv sc 81 246 [.ref a, l1] [.ref a] h Q := zE_pure (q := (246, [.ref a, l1], [.ref a])) dz81_245 rfl rfl rfl
theorem dz81_246 : decode (z_code 81) 246 = .ok (.getfield 56, 3) := by decide +kernel
theorem u81_246 (ho : zO a 9) : zEv sc 81 246 [l0, l1] [.ref a] (zst p iv) Q ↔ zRef (zRV p a 8) (fun j => zEv sc 81 249 [l0, l1] [.ref j] (zst p iv) Q) := zE_gfR dz81_246 (by decide +kernel : z_lk3 zFT (z_cls 81) 56 = some (9, 8, 0, 317)) (by decide +kernel) ho
theorem dz81_249 : decode (z_code 81) 249 = .ok (.getfield 226, 3) := by decide +kernel
theorem u81_249 (ho : zO a 7) : zEv sc 81 249 [l0, l1] [.ref a] (zst p iv) Q ↔ zEv sc 81 252 [l0, l1] [.int (iv a 0)] (zst p iv) Q := zE_gfI dz81_249 (by decide +kernel : z_lk3 zFT (z_cls 81) 226 = some (7, 0, 1, 270)) (by decide +kernel) ho
theorem dz81_252 : decode (z_code 81) 252 = .ok (.ireturn, 1) := by decide +kernel
theorem u81_252 : zEv sc 81 252 [l0, l1] [.int x] h Q ↔ Q (some (.int x)) h := zE_ri dz81_252 (by decide +kernel)
theorem dz81_237 : decode (z_code 81) 237 = .ok (.aload_n 0, 1) := by decide +kernel
theorem u81_237 : zEv sc 81 237 [.ref a, l1] [] h Q ↔ zEv sc 81 238 [.ref a, l1] [.ref a] h Q := zE_pure (q := (238, [.ref a, l1], [.ref a])) dz81_237 rfl rfl rfl
theorem dz81_238 : decode (z_code 81) 238 = .ok (.getfield 22, 3) := by decide +kernel
theorem u81_238 (ho : zO a 9) : zEv sc 81 238 [l0, l1] [.ref a] (zst p iv) Q ↔ zRef (zRV p a 2) (fun j => zEv sc 81 241 [l0, l1] [.ref j] (zst p iv) Q) := zE_gfR dz81_238 (by decide +kernel : z_lk3 zFT (z_cls 81) 22 = some (9, 2, 0, 311)) (by decide +kernel) ho
theorem dz81_241 : decode (z_code 81) 241 = .ok (.getfield 225, 3) := by decide +kernel
theorem u81_241 (ho : zO a 3) : zEv sc 81 241 [l0, l1] [.ref a] (zst p iv) Q ↔ zEv sc 81 244 [l0, l1] [.int (iv a 0)] (zst p iv) Q := zE_gfI dz81_241 (by decide +kernel : z_lk3 zFT (z_cls 81) 225 = some (3, 0, 1, 200)) (by decide +kernel) ho
theorem dz81_244 : decode (z_code 81) 244 = .ok (.ireturn, 1) := by decide +kernel
theorem u81_244 : zEv sc 81 244 [l0, l1] [.int x] h Q ↔ Q (some (.int x)) h := zE_ri dz81_244 (by decide +kernel)
theorem dz81_219 : decode (z_code 81) 219 = .ok (.aload_n 0, 1) := by decide +kernel
theorem u81_219 : zEv sc 81 219 [.ref a, l1] [] h Q ↔ zEv sc 81 220 [.ref a, l1] [.ref a] h Q := zE_pure (q := (220, [.ref a, l1], [.ref a])) dz81_219 rfl rfl rfl
theorem dz81_220 : decode (z_code 81) 220 = .ok (.getfield 10, 3) := by decide +kernel
theorem u81_220 (ho : zO a 9) : zEv sc 81 220 [l0, l1] [.ref a] (zst p iv) Q ↔ zRef (zRV p a 0) (fun j => zEv sc 81 223 [l0, l1] [.ref j] (zst p iv) Q) := zE_gfR dz81_220 (by decide +kernel : z_lk3 zFT (z_cls 81) 10 = some (9, 0, 0, 309)) (by decide +kernel) ho
theorem dz81_223 : decode (z_code 81) 223 = .ok (.iload_n 1, 1) := by decide +kernel
theorem u81_223 : zEv sc 81 223 [l0, .int x] [t0] h Q ↔ zEv sc 81 224 [l0, .int x] [.int x, t0] h Q := zE_pure (q := (224, [l0, .int x], [.int x, t0])) dz81_223 rfl rfl rfl
theorem dz81_224 : decode (z_code 81) 224 = .ok (.bipush 7, 2) := by decide +kernel
theorem u81_224 : zEv sc 81 224 [l0, l1] [t0, t1] h Q ↔ zEv sc 81 226 [l0, l1] [.int 7, t0, t1] h Q := zE_bipush dz81_224 (by decide +kernel)
theorem dz81_226 : decode (z_code 81) 226 = .ok (.isub, 1) := by decide +kernel
theorem u81_226 : zEv sc 81 226 [l0, l1] [.int x2, .int x1, t0] h Q ↔ zEv sc 81 227 [l0, l1] [.int (x1 - x2), t0] h Q := zE_pure (q := (227, [l0, l1], [.int (x1 - x2), t0])) dz81_226 rfl rfl rfl
theorem dz81_227 : decode (z_code 81) 227 = .ok (.invokevirtual 95, 3) := by decide +kernel
theorem u81_227 (ho : zO a 2) : zEv sc 81 227 [l0, l1] [.int z0, .ref a] (zst p iv) Q ↔ zEv sc 14 0 [.ref a, .int z0] [] (zst p iv) (fun r h9 => zEv sc 81 230 [l0, l1] (r.toList ++ []) h9 Q) := zE_call (kd := 0) (na := 2) (nr := 0) (as := [.ref a, .int z0]) (rest := []) (Or.inl ⟨rfl, rfl⟩) dz81_227 (by decide +kernel : z_lk2 zCT (z_cls 81) 95 = some (14, 1, 385)) (fun z => by cases z) rfl rfl rfl (by decide +kernel) rfl (Or.inr (zE_rc ho))
theorem dz81_230 : decode (z_code 81) 230 = .ok (.getfield 107, 3) := by decide +kernel
theorem u81_230 (ho : zO a 6) : zEv sc 81 230 [l0, l1] [.ref a] (zst p iv) Q ↔ zRef (zRV p a 2) (fun j => zEv sc 81 233 [l0, l1] [.ref j] (zst p iv) Q) := zE_gfR dz81_230 (by decide +kernel : z_lk3 zFT (z_cls 81) 107 = some (6, 2, 1, 152)) (by decide +kernel) ho
theorem dz81_233 : decode (z_code 81) 233 = .ok (.invokevirtual 203, 3) := by decide +kernel
theorem u81_233 (ho : zO a 4) : zEv sc 81 233 [l0, l1] [.ref a] (zst p iv) Q ↔ zEv sc 36 0 [.ref a, .null, .null] [] (zst p iv) (fun r h9 => zEv sc 81 236 [l0, l1] (r.toList ++ []) h9 Q) := zE_call (kd := 0) (na := 1) (nr := 0) (as := [.ref a]) (rest := []) (Or.inl ⟨rfl, rfl⟩) dz81_233 (by decide +kernel : z_lk2 zCT (z_cls 81) 203 = some (36, 1, 567)) (fun z => by cases z) rfl rfl rfl (by decide +kernel) rfl (Or.inr (zE_rc ho))
theorem dz81_236 : decode (z_code 81) 236 = .ok (.ireturn, 1) := by decide +kernel
theorem u81_236 : zEv sc 81 236 [l0, l1] [.int x] h Q ↔ Q (some (.int x)) h := zE_ri dz81_236 (by decide +kernel)
theorem dz81_202 : decode (z_code 81) 202 = .ok (.aload_n 0, 1) := by decide +kernel
theorem u81_202 : zEv sc 81 202 [.ref a, l1] [] h Q ↔ zEv sc 81 203 [.ref a, l1] [.ref a] h Q := zE_pure (q := (203, [.ref a, l1], [.ref a])) dz81_202 rfl rfl rfl
theorem dz81_203 : decode (z_code 81) 203 = .ok (.getfield 10, 3) := by decide +kernel
theorem u81_203 (ho : zO a 9) : zEv sc 81 203 [l0, l1] [.ref a] (zst p iv) Q ↔ zRef (zRV p a 0) (fun j => zEv sc 81 206 [l0, l1] [.ref j] (zst p iv) Q) := zE_gfR dz81_203 (by decide +kernel : z_lk3 zFT (z_cls 81) 10 = some (9, 0, 0, 309)) (by decide +kernel) ho
theorem dz81_206 : decode (z_code 81) 206 = .ok (.iload_n 1, 1) := by decide +kernel
theorem u81_206 : zEv sc 81 206 [l0, .int x] [t0] h Q ↔ zEv sc 81 207 [l0, .int x] [.int x, t0] h Q := zE_pure (q := (207, [l0, .int x], [.int x, t0])) dz81_206 rfl rfl rfl
theorem dz81_207 : decode (z_code 81) 207 = .ok (.iconst 5, 1) := by decide +kernel
theorem u81_207 : zEv sc 81 207 [l0, l1] [t0, t1] h Q ↔ zEv sc 81 208 [l0, l1] [.int 5, t0, t1] h Q := zE_iconst dz81_207 (by decide +kernel)
theorem dz81_208 : decode (z_code 81) 208 = .ok (.isub, 1) := by decide +kernel
theorem u81_208 : zEv sc 81 208 [l0, l1] [.int x2, .int x1, t0] h Q ↔ zEv sc 81 209 [l0, l1] [.int (x1 - x2), t0] h Q := zE_pure (q := (209, [l0, l1], [.int (x1 - x2), t0])) dz81_208 rfl rfl rfl
theorem dz81_209 : decode (z_code 81) 209 = .ok (.invokevirtual 95, 3) := by decide +kernel
theorem u81_209 (ho : zO a 2) : zEv sc 81 209 [l0, l1] [.int z0, .ref a] (zst p iv) Q ↔ zEv sc 14 0 [.ref a, .int z0] [] (zst p iv) (fun r h9 => zEv sc 81 212 [l0, l1] (r.toList ++ []) h9 Q) := zE_call (kd := 0) (na := 2) (nr := 0) (as := [.ref a, .int z0]) (rest := []) (Or.inl ⟨rfl, rfl⟩) dz81_209 (by decide +kernel : z_lk2 zCT (z_cls 81) 95 = some (14, 1, 385)) (fun z => by cases z) rfl rfl rfl (by decide +kernel) rfl (Or.inr (zE_rc ho))
theorem dz81_212 : decode (z_code 81) 212 = .ok (.getfield 107, 3) := by decide +kernel
theorem u81_212 (ho : zO a 6) : zEv sc 81 212 [l0, l1] [.ref a] (zst p iv) Q ↔ zRef (zRV p a 2) (fun j => zEv sc 81 215 [l0, l1] [.ref j] (zst p iv) Q) := zE_gfR dz81_212 (by decide +kernel : z_lk3 zFT (z_cls 81) 107 = some (6, 2, 1, 152)) (by decide +kernel) ho
theorem dz81_215 : decode (z_code 81) 215 = .ok (.getfield 111, 3) := by decide +kernel
theorem u81_215 (ho : zO a 4) : zEv sc 81 215 [l0, l1] [.ref a] (zst p iv) Q ↔ zEv sc 81 218 [l0, l1] [.int (iv a 0)] (zst p iv) Q := zE_gfI dz81_215 (by decide +kernel : z_lk3 zFT (z_cls 81) 111 = some (4, 0, 1, 126)) (by decide +kernel) ho
theorem dz81_218 : decode (z_code 81) 218 = .ok (.ireturn, 1) := by decide +kernel
theorem u81_218 : zEv sc 81 218 [l0, l1] [.int x] h Q ↔ Q (some (.int x)) h := zE_ri dz81_218 (by decide +kernel)
theorem dz81_188 : decode (z_code 81) 188 = .ok (.aload_n 0, 1) := by decide +kernel
theorem u81_188 : zEv sc 81 188 [.ref a, l1] [] h Q ↔ zEv sc 81 189 [.ref a, l1] [.ref a] h Q := zE_pure (q := (189, [.ref a, l1], [.ref a])) dz81_188 rfl rfl rfl
theorem dz81_189 : decode (z_code 81) 189 = .ok (.getfield 10, 3) := by decide +kernel
theorem u81_189 (ho : zO a 9) : zEv sc 81 189 [l0, l1] [.ref a] (zst p iv) Q ↔ zRef (zRV p a 0) (fun j => zEv sc 81 192 [l0, l1] [.ref j] (zst p iv) Q) := zE_gfR dz81_189 (by decide +kernel : z_lk3 zFT (z_cls 81) 10 = some (9, 0, 0, 309)) (by decide +kernel) ho
theorem dz81_192 : decode (z_code 81) 192 = .ok (.iload_n 1, 1) := by decide +kernel
theorem u81_192 : zEv sc 81 192 [l0, .int x] [t0] h Q ↔ zEv sc 81 193 [l0, .int x] [.int x, t0] h Q := zE_pure (q := (193, [l0, .int x], [.int x, t0])) dz81_192 rfl rfl rfl
theorem dz81_193 : decode (z_code 81) 193 = .ok (.iconst 3, 1) := by decide +kernel
theorem u81_193 : zEv sc 81 193 [l0, l1] [t0, t1] h Q ↔ zEv sc 81 194 [l0, l1] [.int 3, t0, t1] h Q := zE_iconst dz81_193 (by decide +kernel)
theorem dz81_194 : decode (z_code 81) 194 = .ok (.isub, 1) := by decide +kernel
theorem u81_194 : zEv sc 81 194 [l0, l1] [.int x2, .int x1, t0] h Q ↔ zEv sc 81 195 [l0, l1] [.int (x1 - x2), t0] h Q := zE_pure (q := (195, [l0, l1], [.int (x1 - x2), t0])) dz81_194 rfl rfl rfl
theorem dz81_195 : decode (z_code 81) 195 = .ok (.invokevirtual 95, 3) := by decide +kernel
theorem u81_195 (ho : zO a 2) : zEv sc 81 195 [l0, l1] [.int z0, .ref a] (zst p iv) Q ↔ zEv sc 14 0 [.ref a, .int z0] [] (zst p iv) (fun r h9 => zEv sc 81 198 [l0, l1] (r.toList ++ []) h9 Q) := zE_call (kd := 0) (na := 2) (nr := 0) (as := [.ref a, .int z0]) (rest := []) (Or.inl ⟨rfl, rfl⟩) dz81_195 (by decide +kernel : z_lk2 zCT (z_cls 81) 95 = some (14, 1, 385)) (fun z => by cases z) rfl rfl rfl (by decide +kernel) rfl (Or.inr (zE_rc ho))
theorem dz81_198 : decode (z_code 81) 198 = .ok (.getfield 99, 3) := by decide +kernel
theorem u81_198 (ho : zO a 6) : zEv sc 81 198 [l0, l1] [.ref a] (zst p iv) Q ↔ zEv sc 81 201 [l0, l1] [.int (iv a 0)] (zst p iv) Q := zE_gfI dz81_198 (by decide +kernel : z_lk3 zFT (z_cls 81) 99 = some (6, 0, 1, 145)) (by decide +kernel) ho
theorem dz81_201 : decode (z_code 81) 201 = .ok (.ireturn, 1) := by decide +kernel
theorem u81_201 : zEv sc 81 201 [l0, l1] [.int x] h Q ↔ Q (some (.int x)) h := zE_ri dz81_201 (by decide +kernel)
theorem dz81_180 : decode (z_code 81) 180 = .ok (.aload_n 0, 1) := by decide +kernel
theorem u81_180 : zEv sc 81 180 [.ref a, l1] [] h Q ↔ zEv sc 81 181 [.ref a, l1] [.ref a] h Q := zE_pure (q := (181, [.ref a, l1], [.ref a])) dz81_180 rfl rfl rfl
theorem dz81_181 : decode (z_code 81) 181 = .ok (.getfield 10, 3) := by decide +kernel
theorem u81_181 (ho : zO a 9) : zEv sc 81 181 [l0, l1] [.ref a] (zst p iv) Q ↔ zRef (zRV p a 0) (fun j => zEv sc 81 184 [l0, l1] [.ref j] (zst p iv) Q) := zE_gfR dz81_181 (by decide +kernel : z_lk3 zFT (z_cls 81) 10 = some (9, 0, 0, 309)) (by decide +kernel) ho
theorem dz81_184 : decode (z_code 81) 184 = .ok (.getfield 119, 3) := by decide +kernel
theorem u81_184 (ho : zO a 2) : zEv sc 81 184 [l0, l1] [.ref a] (zst p iv) Q ↔ zEv sc 81 187 [l0, l1] [.int (iv a 1)] (zst p iv) Q := zE_gfI dz81_184 (by decide +kernel : z_lk3 zFT (z_cls 81) 119 = some (2, 1, 1, 173)) (by decide +kernel) ho
theorem dz81_187 : decode (z_code 81) 187 = .ok (.ireturn, 1) := by decide +kernel
theorem u81_187 : zEv sc 81 187 [l0, l1] [.int x] h Q ↔ Q (some (.int x)) h := zE_ri dz81_187 (by decide +kernel)
theorem dz81_172 : decode (z_code 81) 172 = .ok (.aload_n 0, 1) := by decide +kernel
theorem u81_172 : zEv sc 81 172 [.ref a, l1] [] h Q ↔ zEv sc 81 173 [.ref a, l1] [.ref a] h Q := zE_pure (q := (173, [.ref a, l1], [.ref a])) dz81_172 rfl rfl rfl
theorem dz81_173 : decode (z_code 81) 173 = .ok (.getfield 10, 3) := by decide +kernel
theorem u81_173 (ho : zO a 9) : zEv sc 81 173 [l0, l1] [.ref a] (zst p iv) Q ↔ zRef (zRV p a 0) (fun j => zEv sc 81 176 [l0, l1] [.ref j] (zst p iv) Q) := zE_gfR dz81_173 (by decide +kernel : z_lk3 zFT (z_cls 81) 10 = some (9, 0, 0, 309)) (by decide +kernel) ho
theorem dz81_176 : decode (z_code 81) 176 = .ok (.invokevirtual 222, 3) := by decide +kernel
theorem u81_176 (ho : zO a 2) : zEv sc 81 176 [l0, l1] [.ref a] (zst p iv) Q ↔ zEv sc 20 0 [.ref a, .null, .null] [] (zst p iv) (fun r h9 => zEv sc 81 179 [l0, l1] (r.toList ++ []) h9 Q) := zE_call (kd := 0) (na := 1) (nr := 0) (as := [.ref a]) (rest := []) (Or.inl ⟨rfl, rfl⟩) dz81_176 (by decide +kernel : z_lk2 zCT (z_cls 81) 222 = some (20, 1, 589)) (fun z => by cases z) rfl rfl rfl (by decide +kernel) rfl (Or.inr (zE_rc ho))
theorem dz81_179 : decode (z_code 81) 179 = .ok (.ireturn, 1) := by decide +kernel
theorem u81_179 : zEv sc 81 179 [l0, l1] [.int x] h Q ↔ Q (some (.int x)) h := zE_ri dz81_179 (by decide +kernel)
theorem dz81_164 : decode (z_code 81) 164 = .ok (.aload_n 0, 1) := by decide +kernel
theorem u81_164 : zEv sc 81 164 [.ref a, l1] [] h Q ↔ zEv sc 81 165 [.ref a, l1] [.ref a] h Q := zE_pure (q := (165, [.ref a, l1], [.ref a])) dz81_164 rfl rfl rfl
theorem dz81_165 : decode (z_code 81) 165 = .ok (.getfield 10, 3) := by decide +kernel
theorem u81_165 (ho : zO a 9) : zEv sc 81 165 [l0, l1] [.ref a] (zst p iv) Q ↔ zRef (zRV p a 0) (fun j => zEv sc 81 168 [l0, l1] [.ref j] (zst p iv) Q) := zE_gfR dz81_165 (by decide +kernel : z_lk3 zFT (z_cls 81) 10 = some (9, 0, 0, 309)) (by decide +kernel) ho
theorem dz81_168 : decode (z_code 81) 168 = .ok (.getfield 72, 3) := by decide +kernel
theorem u81_168 (ho : zO a 2) : zEv sc 81 168 [l0, l1] [.ref a] (zst p iv) Q ↔ zEv sc 81 171 [l0, l1] [.int (iv a 0)] (zst p iv) Q := zE_gfI dz81_168 (by decide +kernel : z_lk3 zFT (z_cls 81) 72 = some (2, 0, 1, 170)) (by decide +kernel) ho
theorem dz81_171 : decode (z_code 81) 171 = .ok (.ireturn, 1) := by decide +kernel
theorem u81_171 : zEv sc 81 171 [l0, l1] [.int x] h Q ↔ Q (some (.int x)) h := zE_ri dz81_171 (by decide +kernel)
/-! method 82: FieldMixtures.undo()I -/
theorem dz82_0 : decode (z_code 82) 0 = .ok (.aload_n 0, 1) := by decide +kernel
theorem u82_0 : zEv sc 82 0 [.ref a] [] h Q ↔ zEv sc 82 1 [.ref a] [.ref a] h Q := zE_pure (q := (1, [.ref a], [.ref a])) dz82_0 rfl rfl rfl
theorem dz82_1 : decode (z_code 82) 1 = .ok (.getfield 22, 3) := by decide +kernel
theorem u82_1 (ho : zO a 9) : zEv sc 82 1 [l0] [.ref a] (zst p iv) Q ↔ zRef (zRV p a 2) (fun j => zEv sc 82 4 [l0] [.ref j] (zst p iv) Q) := zE_gfR dz82_1 (by decide +kernel : z_lk3 zFT (z_cls 82) 22 = some (9, 2, 0, 311)) (by decide +kernel) ho
theorem dz82_4 : decode (z_code 82) 4 = .ok (.getfield 225, 3) := by decide +kernel
theorem u82_4 (ho : zO a 3) : zEv sc 82 4 [l0] [.ref a] (zst p iv) Q ↔ zEv sc 82 7 [l0] [.int (iv a 0)] (zst p iv) Q := zE_gfI dz82_4 (by decide +kernel : z_lk3 zFT (z_cls 82) 225 = some (3, 0, 1, 200)) (by decide +kernel) ho
theorem dz82_7 : decode (z_code 82) 7 = .ok (.ifCond .ne 6, 3) := by decide +kernel
theorem u82_7 : zEv sc 82 7 [l0] [.int x] h Q ↔ (if ¬ x = 0 then zEv sc 82 13 [l0] [] h Q else zEv sc 82 10 [l0] [] h Q) := zE_ifP (P := ¬ x = 0) inferInstance 13 dz82_7 rfl rfl
theorem dz82_10 : decode (z_code 82) 10 = .ok (.ldc 155, 2) := by decide +kernel
theorem u82_10 : zEv sc 82 10 [l0] [] h Q ↔ zEv sc 82 12 [l0] [.int (-1000002)] h Q := zE_ldc (by decide +kernel : z_lkK zKT (z_cls 82) 155 = some ((-1000002), 483)) dz82_10
theorem dz82_12 : decode (z_code 82) 12 = .ok (.ireturn, 1) := by decide +kernel
theorem u82_12 : zEv sc 82 12 [l0] [.int x] h Q ↔ Q (some (.int x)) h := zE_ri dz82_12 (by decide +kernel)
theorem dz82_13 : decode (z_code 82) 13 = .ok (.aload_n 0, 1) := by decide +kernel
theorem u82_13 : zEv sc 82 13 [.ref a] [] h Q ↔ zEv sc 82 14 [.ref a] [.ref a] h Q := zE_pure (q := (14, [.ref a], [.ref a])) dz82_13 rfl rfl rfl
theorem dz82_14 : decode (z_code 82) 14 = .ok (.getfield 22, 3) := by decide +kernel
theorem u82_14 (ho : zO a 9) : zEv sc 82 14 [l0] [.ref a] (zst p iv) Q ↔ zRef (zRV p a 2) (fun j => zEv sc 82 17 [l0] [.ref j] (zst p iv) Q) := zE_gfR dz82_14 (by decide +kernel : z_lk3 zFT (z_cls 82) 22 = some (9, 2, 0, 311)) (by decide +kernel) ho
theorem dz82_17 : decode (z_code 82) 17 = .ok (.aload_n 0, 1) := by decide +kernel
theorem u82_17 : zEv sc 82 17 [.ref a] [t0] h Q ↔ zEv sc 82 18 [.ref a] [.ref a, t0] h Q := zE_pure (q := (18, [.ref a], [.ref a, t0])) dz82_17 rfl rfl rfl
theorem dz82_18 : decode (z_code 82) 18 = .ok (.getfield 10, 3) := by decide +kernel
theorem u82_18 (ho : zO a 9) : zEv sc 82 18 [l0] [.ref a, t0] (zst p iv) Q ↔ zRef (zRV p a 0) (fun j => zEv sc 82 21 [l0] [.ref j, t0] (zst p iv) Q) := zE_gfR dz82_18 (by decide +kernel : z_lk3 zFT (z_cls 82) 10 = some (9, 0, 0, 309)) (by decide +kernel) ho
theorem dz82_21 : decode (z_code 82) 21 = .ok (.invokevirtual 229, 3) := by decide +kernel
theorem u82_21 (ho : zO a 3) : zEv sc 82 21 [l0] [.ref b0, .ref a] (zst p iv) Q ↔ zEv sc 27 0 [.ref a, .ref b0] [] (zst p iv) (fun r h9 => zEv sc 82 24 [l0] (r.toList ++ []) h9 Q) := zE_call (kd := 0) (na := 2) (nr := 0) (as := [.ref a, .ref b0]) (rest := []) (Or.inl ⟨rfl, rfl⟩) dz82_21 (by decide +kernel : z_lk2 zCT (z_cls 82) 229 = some (27, 1, 597)) (fun z => by cases z) rfl rfl rfl (by decide +kernel) rfl (Or.inr (zE_rc ho))
theorem dz82_24 : decode (z_code 82) 24 = .ok (.aload_n 0, 1) := by decide +kernel
theorem u82_24 : zEv sc 82 24 [.ref a] [] h Q ↔ zEv sc 82 25 [.ref a] [.ref a] h Q := zE_pure (q := (25, [.ref a], [.ref a])) dz82_24 rfl rfl rfl
theorem dz82_25 : decode (z_code 82) 25 = .ok (.getfield 22, 3) := by decide +kernel
theorem u82_25 (ho : zO a 9) : zEv sc 82 25 [l0] [.ref a] (zst p iv) Q ↔ zRef (zRV p a 2) (fun j => zEv sc 82 28 [l0] [.ref j] (zst p iv) Q) := zE_gfR dz82_25 (by decide +kernel : z_lk3 zFT (z_cls 82) 22 = some (9, 2, 0, 311)) (by decide +kernel) ho
theorem dz82_28 : decode (z_code 82) 28 = .ok (.getfield 225, 3) := by decide +kernel
theorem u82_28 (ho : zO a 3) : zEv sc 82 28 [l0] [.ref a] (zst p iv) Q ↔ zEv sc 82 31 [l0] [.int (iv a 0)] (zst p iv) Q := zE_gfI dz82_28 (by decide +kernel : z_lk3 zFT (z_cls 82) 225 = some (3, 0, 1, 200)) (by decide +kernel) ho
theorem dz82_31 : decode (z_code 82) 31 = .ok (.ireturn, 1) := by decide +kernel
theorem u82_31 : zEv sc 82 31 [l0] [.int x] h Q ↔ Q (some (.int x)) h := zE_ri dz82_31 (by decide +kernel)
/-! method 83: FieldMixtures.type(I)I -/
theorem dz83_0 : decode (z_code 83) 0 = .ok (.iload_n 1, 1) := by decide +kernel
theorem u83_0 : zEv sc 83 0 [l0, .int x] [] h Q ↔ zEv sc 83 1 [l0, .int x] [.int x] h Q := zE_pure (q := (1, [l0, .int x], [.int x])) dz83_0 rfl rfl rfl
theorem dz83_1 : decode (z_code 83) 1 = .ok (.bipush 32, 2) := by decide +kernel
theorem u83_1 : zEv sc 83 1 [l0, l1] [t0] h Q ↔ zEv sc 83 3 [l0, l1] [.int 32, t0] h Q := zE_bipush dz83_1 (by decide +kernel)
theorem dz83_3 : decode (z_code 83) 3 = .ok (.bipush 126, 2) := by decide +kernel
theorem u83_3 : zEv sc 83 3 [l0, l1] [t0, t1] h Q ↔ zEv sc 83 5 [l0, l1] [.int 126, t0, t1] h Q := zE_bipush dz83_3 (by decide +kernel)
theorem dz83_5 : decode (z_code 83) 5 = .ok (.invokestatic 67, 3) := by decide +kernel
theorem u83_5 : zEv sc 83 5 [l0, l1] [.int z2, .int z1, .int z0] h Q ↔ zEv sc 15 0 [.int z0, .int z1, .int z2] [] h (fun r h9 => zEv sc 83 8 [l0, l1] (r.toList ++ []) h9 Q) := zE_call (kd := 1) (na := 3) (nr := 0) (as := [.int z0, .int z1, .int z2]) (rest := []) (Or.inr ⟨rfl, rfl⟩) dz83_5 (by decide +kernel : z_lk2 zCT (z_cls 83) 67 = some (15, 0, 344)) (fun _ => by decide +kernel) rfl rfl rfl (by decide +kernel) rfl (Or.inl rfl)
theorem dz83_8 : decode (z_code 83) 8 = .ok (.ifCond .ne 6, 3) := by decide +kernel
theorem u83_8 : zEv sc 83 8 [l0, l1] [.int x] h Q ↔ (if ¬ x = 0 then zEv sc 83 14 [l0, l1] [] h Q else zEv sc 83 11 [l0, l1] [] h Q) := zE_ifP (P := ¬ x = 0) inferInstance 14 dz83_8 rfl rfl
theorem dz83_11 : decode (z_code 83) 11 = .ok (.ldc 71, 2) := by decide +kernel
theorem u83_11 : zEv sc 83 11 [l0, l1] [] h Q ↔ zEv sc 83 13 [l0, l1] [.int (-1000001)] h Q := zE_ldc (by decide +kernel : z_lkK zKT (z_cls 83) 71 = some ((-1000001), 347)) dz83_11
theorem dz83_13 : decode (z_code 83) 13 = .ok (.ireturn, 1) := by decide +kernel
theorem u83_13 : zEv sc 83 13 [l0, l1] [.int x] h Q ↔ Q (some (.int x)) h := zE_ri dz83_13 (by decide +kernel)
theorem dz83_14 : decode (z_code 83) 14 = .ok (.aload_n 0, 1) := by decide +kernel
theorem u83_14 : zEv sc 83 14 [.ref a, l1] [] h Q ↔ zEv sc 83 15 [.ref a, l1] [.ref a] h Q := zE_pure (q := (15, [.ref a, l1], [.ref a])) dz83_14 rfl rfl rfl
theorem dz83_15 : decode (z_code 83) 15 = .ok (.getfield 56, 3) := by decide +kernel
theorem u83_15 (ho : zO a 9) : zEv sc 83 15 [l0, l1] [.ref a] (zst p iv) Q ↔ zRef (zRV p a 8) (fun j => zEv sc 83 18 [l0, l1] [.ref j] (zst p iv) Q) := zE_gfR dz83_15 (by decide +kernel : z_lk3 zFT (z_cls 83) 56 = some (9, 8, 0, 317)) (by decide +kernel) ho
theorem dz83_18 : decode (z_code 83) 18 = .ok (.getfield 226, 3) := by decide +kernel
theorem u83_18 (ho : zO a 7) : zEv sc 83 18 [l0, l1] [.ref a] (zst p iv) Q ↔ zEv sc 83 21 [l0, l1] [.int (iv a 0)] (zst p iv) Q := zE_gfI dz83_18 (by decide +kernel : z_lk3 zFT (z_cls 83) 226 = some (7, 0, 1, 270)) (by decide +kernel) ho
theorem dz83_21 : decode (z_code 83) 21 = .ok (.bipush 80, 2) := by decide +kernel
theorem u83_21 : zEv sc 83 21 [l0, l1] [t0] h Q ↔ zEv sc 83 23 [l0, l1] [.int 80, t0] h Q := zE_bipush dz83_21 (by decide +kernel)
theorem dz83_23 : decode (z_code 83) 23 = .ok (.if_icmp .lt 6, 3) := by decide +kernel
theorem u83_23 : zEv sc 83 23 [l0, l1] [.int x2, .int x1] h Q ↔ (if x1 < x2 then zEv sc 83 29 [l0, l1] [] h Q else zEv sc 83 26 [l0, l1] [] h Q) := zE_icP (P := x1 < x2) inferInstance 29 dz83_23 rfl rfl
theorem dz83_26 : decode (z_code 83) 26 = .ok (.ldc 146, 2) := by decide +kernel
theorem u83_26 : zEv sc 83 26 [l0, l1] [] h Q ↔ zEv sc 83 28 [l0, l1] [.int (-1000003)] h Q := zE_ldc (by decide +kernel : z_lkK zKT (z_cls 83) 146 = some ((-1000003), 469)) dz83_26
theorem dz83_28 : decode (z_code 83) 28 = .ok (.ireturn, 1) := by decide +kernel
theorem u83_28 : zEv sc 83 28 [l0, l1] [.int x] h Q ↔ Q (some (.int x)) h := zE_ri dz83_28 (by decide +kernel)
theorem dz83_29 : decode (z_code 83) 29 = .ok (.aload_n 0, 1) := by decide +kernel
theorem u83_29 : zEv sc 83 29 [.ref a, l1] [] h Q ↔ zEv sc 83 30 [.ref a, l1] [.ref a] h Q := zE_pure (q := (30, [.ref a, l1], [.ref a])) dz83_29 rfl rfl rfl
theorem dz83_30 : decode (z_code 83) 30 = .ok (.getfield 56, 3) := by decide +kernel
theorem u83_30 (ho : zO a 9) : zEv sc 83 30 [l0, l1] [.ref a] (zst p iv) Q ↔ zRef (zRV p a 8) (fun j => zEv sc 83 33 [l0, l1] [.ref j] (zst p iv) Q) := zE_gfR dz83_30 (by decide +kernel : z_lk3 zFT (z_cls 83) 56 = some (9, 8, 0, 317)) (by decide +kernel) ho
theorem dz83_33 : decode (z_code 83) 33 = .ok (.iload_n 1, 1) := by decide +kernel
theorem u83_33 : zEv sc 83 33 [l0, .int x] [t0] h Q ↔ zEv sc 83 34 [l0, .int x] [.int x, t0] h Q := zE_pure (q := (34, [l0, .int x], [.int x, t0])) dz83_33 rfl rfl rfl
theorem dz83_34 : decode (z_code 83) 34 = .ok (.invokevirtual 232, 3) := by decide +kernel
theorem u83_34 (ho : zO a 7) : zEv sc 83 34 [l0, l1] [.int z0, .ref a] (zst p iv) Q ↔ zEv sc 43 0 [.ref a, .int z0] [] (zst p iv) (fun r h9 => zEv sc 83 37 [l0, l1] (r.toList ++ []) h9 Q) := zE_call (kd := 0) (na := 2) (nr := 0) (as := [.ref a, .int z0]) (rest := []) (Or.inl ⟨rfl, rfl⟩) dz83_34 (by decide +kernel : z_lk2 zCT (z_cls 83) 232 = some (43, 1, 605)) (fun z => by cases z) rfl rfl rfl (by decide +kernel) rfl (Or.inr (zE_rc ho))
theorem dz83_37 : decode (z_code 83) 37 = .ok (.aload_n 0, 1) := by decide +kernel
theorem u83_37 : zEv sc 83 37 [.ref a, l1] [] h Q ↔ zEv sc 83 38 [.ref a, l1] [.ref a] h Q := zE_pure (q := (38, [.ref a, l1], [.ref a])) dz83_37 rfl rfl rfl
theorem dz83_38 : decode (z_code 83) 38 = .ok (.getfield 56, 3) := by decide +kernel
theorem u83_38 (ho : zO a 9) : zEv sc 83 38 [l0, l1] [.ref a] (zst p iv) Q ↔ zRef (zRV p a 8) (fun j => zEv sc 83 41 [l0, l1] [.ref j] (zst p iv) Q) := zE_gfR dz83_38 (by decide +kernel : z_lk3 zFT (z_cls 83) 56 = some (9, 8, 0, 317)) (by decide +kernel) ho
theorem dz83_41 : decode (z_code 83) 41 = .ok (.getfield 226, 3) := by decide +kernel
theorem u83_41 (ho : zO a 7) : zEv sc 83 41 [l0, l1] [.ref a] (zst p iv) Q ↔ zEv sc 83 44 [l0, l1] [.int (iv a 0)] (zst p iv) Q := zE_gfI dz83_41 (by decide +kernel : z_lk3 zFT (z_cls 83) 226 = some (7, 0, 1, 270)) (by decide +kernel) ho
theorem dz83_44 : decode (z_code 83) 44 = .ok (.ireturn, 1) := by decide +kernel
theorem u83_44 : zEv sc 83 44 [l0, l1] [.int x] h Q ↔ Q (some (.int x)) h := zE_ri dz83_44 (by decide +kernel)
/-! method 84: FieldMixtures.clearText()I -/
theorem dz84_0 : decode (z_code 84) 0 = .ok (.aload_n 0, 1) := by decide +kernel
theorem u84_0 : zEv sc 84 0 [.ref a, l1] [] h Q ↔ zEv sc 84 1 [.ref a, l1] [.ref a] h Q := zE_pure (q := (1, [.ref a, l1], [.ref a])) dz84_0 rfl rfl rfl
theorem dz84_1 : decode (z_code 84) 1 = .ok (.getfield 56, 3) := by decide +kernel
theorem u84_1 (ho : zO a 9) : zEv sc 84 1 [l0, l1] [.ref a] (zst p iv) Q ↔ zRef (zRV p a 8) (fun j => zEv sc 84 4 [l0, l1] [.ref j] (zst p iv) Q) := zE_gfR dz84_1 (by decide +kernel : z_lk3 zFT (z_cls 84) 56 = some (9, 8, 0, 317)) (by decide +kernel) ho
theorem dz84_4 : decode (z_code 84) 4 = .ok (.getfield 226, 3) := by decide +kernel
theorem u84_4 (ho : zO a 7) : zEv sc 84 4 [l0, l1] [.ref a] (zst p iv) Q ↔ zEv sc 84 7 [l0, l1] [.int (iv a 0)] (zst p iv) Q := zE_gfI dz84_4 (by decide +kernel : z_lk3 zFT (z_cls 84) 226 = some (7, 0, 1, 270)) (by decide +kernel) ho
theorem dz84_7 : decode (z_code 84) 7 = .ok (.istore_n 1, 1) := by decide +kernel
theorem u84_7 : zEv sc 84 7 [l0, l1] [.int x] h Q ↔ zEv sc 84 8 [l0, .int x] [] h Q := zE_pure (q := (8, [l0, .int x], [])) dz84_7 rfl rfl rfl
theorem dz84_8 : decode (z_code 84) 8 = .ok (.aload_n 0, 1) := by decide +kernel
theorem u84_8 : zEv sc 84 8 [.ref a, l1] [] h Q ↔ zEv sc 84 9 [.ref a, l1] [.ref a] h Q := zE_pure (q := (9, [.ref a, l1], [.ref a])) dz84_8 rfl rfl rfl
theorem dz84_9 : decode (z_code 84) 9 = .ok (.getfield 56, 3) := by decide +kernel
theorem u84_9 (ho : zO a 9) : zEv sc 84 9 [l0, l1] [.ref a] (zst p iv) Q ↔ zRef (zRV p a 8) (fun j => zEv sc 84 12 [l0, l1] [.ref j] (zst p iv) Q) := zE_gfR dz84_9 (by decide +kernel : z_lk3 zFT (z_cls 84) 56 = some (9, 8, 0, 317)) (by decide +kernel) ho
theorem dz84_12 : decode (z_code 84) 12 = .ok (.invokevirtual 235, 3) := by decide +kernel
theorem u84_12 (ho : zO a 7) : zEv sc 84 12 [l0, l1] [.ref a] (zst p iv) Q ↔ zEv sc 44 0 [.ref a] [] (zst p iv) (fun r h9 => zEv sc 84 15 [l0, l1] (r.toList ++ []) h9 Q) := zE_call (kd := 0) (na := 1) (nr := 0) (as := [.ref a]) (rest := []) (Or.inl ⟨rfl, rfl⟩) dz84_12 (by decide +kernel : z_lk2 zCT (z_cls 84) 235 = some (44, 1, 613)) (fun z => by cases z) rfl rfl rfl (by decide +kernel) rfl (Or.inr (zE_rc ho))
theorem dz84_15 : decode (z_code 84) 15 = .ok (.iload_n 1, 1) := by decide +kernel
theorem u84_15 : zEv sc 84 15 [l0, .int x] [] h Q ↔ zEv sc 84 16 [l0, .int x] [.int x] h Q := zE_pure (q := (16, [l0, .int x], [.int x])) dz84_15 rfl rfl rfl
theorem dz84_16 : decode (z_code 84) 16 = .ok (.ireturn, 1) := by decide +kernel
theorem u84_16 : zEv sc 84 16 [l0, l1] [.int x] h Q ↔ Q (some (.int x)) h := zE_ri dz84_16 (by decide +kernel)
/-! method 85: FieldMixtures.fault(I)I -/
theorem dz85_0 : decode (z_code 85) 0 = .ok (.iload_n 1, 1) := by decide +kernel
theorem u85_0 : zEv sc 85 0 [l0, .int x] [] h Q ↔ zEv sc 85 1 [l0, .int x] [.int x] h Q := zE_pure (q := (1, [l0, .int x], [.int x])) dz85_0 rfl rfl rfl
theorem dz85_1 : decode (z_code 85) 1 = .ok (.iconst 0, 1) := by decide +kernel
theorem u85_1 : zEv sc 85 1 [l0, l1] [t0] h Q ↔ zEv sc 85 2 [l0, l1] [.int 0, t0] h Q := zE_iconst dz85_1 (by decide +kernel)
theorem dz85_2 : decode (z_code 85) 2 = .ok (.iconst 2, 1) := by decide +kernel
theorem u85_2 : zEv sc 85 2 [l0, l1] [t0, t1] h Q ↔ zEv sc 85 3 [l0, l1] [.int 2, t0, t1] h Q := zE_iconst dz85_2 (by decide +kernel)
theorem dz85_3 : decode (z_code 85) 3 = .ok (.invokestatic 67, 3) := by decide +kernel
theorem u85_3 : zEv sc 85 3 [l0, l1] [.int z2, .int z1, .int z0] h Q ↔ zEv sc 15 0 [.int z0, .int z1, .int z2] [] h (fun r h9 => zEv sc 85 6 [l0, l1] (r.toList ++ []) h9 Q) := zE_call (kd := 1) (na := 3) (nr := 0) (as := [.int z0, .int z1, .int z2]) (rest := []) (Or.inr ⟨rfl, rfl⟩) dz85_3 (by decide +kernel : z_lk2 zCT (z_cls 85) 67 = some (15, 0, 344)) (fun _ => by decide +kernel) rfl rfl rfl (by decide +kernel) rfl (Or.inl rfl)
theorem dz85_6 : decode (z_code 85) 6 = .ok (.ifCond .ne 6, 3) := by decide +kernel
theorem u85_6 : zEv sc 85 6 [l0, l1] [.int x] h Q ↔ (if ¬ x = 0 then zEv sc 85 12 [l0, l1] [] h Q else zEv sc 85 9 [l0, l1] [] h Q) := zE_ifP (P := ¬ x = 0) inferInstance 12 dz85_6 rfl rfl
theorem dz85_9 : decode (z_code 85) 9 = .ok (.ldc 71, 2) := by decide +kernel
theorem u85_9 : zEv sc 85 9 [l0, l1] [] h Q ↔ zEv sc 85 11 [l0, l1] [.int (-1000001)] h Q := zE_ldc (by decide +kernel : z_lkK zKT (z_cls 85) 71 = some ((-1000001), 347)) dz85_9
theorem dz85_11 : decode (z_code 85) 11 = .ok (.ireturn, 1) := by decide +kernel
theorem u85_11 : zEv sc 85 11 [l0, l1] [.int x] h Q ↔ Q (some (.int x)) h := zE_ri dz85_11 (by decide +kernel)
theorem dz85_12 : decode (z_code 85) 12 = .ok (.aload_n 0, 1) := by decide +kernel
theorem u85_12 : zEv sc 85 12 [.ref a, l1] [] h Q ↔ zEv sc 85 13 [.ref a, l1] [.ref a] h Q := zE_pure (q := (13, [.ref a, l1], [.ref a])) dz85_12 rfl rfl rfl
theorem dz85_13 : decode (z_code 85) 13 = .ok (.getfield 16, 3) := by decide +kernel
theorem u85_13 (ho : zO a 9) : zEv sc 85 13 [l0, l1] [.ref a] (zst p iv) Q ↔ zRef (zRV p a 1) (fun j => zEv sc 85 16 [l0, l1] [.ref j] (zst p iv) Q) := zE_gfR dz85_13 (by decide +kernel : z_lk3 zFT (z_cls 85) 16 = some (9, 1, 0, 310)) (by decide +kernel) ho
theorem dz85_16 : decode (z_code 85) 16 = .ok (.aload_n 0, 1) := by decide +kernel
theorem u85_16 : zEv sc 85 16 [.ref a, l1] [t0] h Q ↔ zEv sc 85 17 [.ref a, l1] [.ref a, t0] h Q := zE_pure (q := (17, [.ref a, l1], [.ref a, t0])) dz85_16 rfl rfl rfl
theorem dz85_17 : decode (z_code 85) 17 = .ok (.getfield 10, 3) := by decide +kernel
theorem u85_17 (ho : zO a 9) : zEv sc 85 17 [l0, l1] [.ref a, t0] (zst p iv) Q ↔ zRef (zRV p a 0) (fun j => zEv sc 85 20 [l0, l1] [.ref j, t0] (zst p iv) Q) := zE_gfR dz85_17 (by decide +kernel : z_lk3 zFT (z_cls 85) 10 = some (9, 0, 0, 309)) (by decide +kernel) ho
theorem dz85_20 : decode (z_code 85) 20 = .ok (.invokevirtual 163, 3) := by decide +kernel
theorem u85_20 (ho : zO a 2) : zEv sc 85 20 [l0, l1] [.ref b0, .ref a] (zst p iv) Q ↔ zEv sc 13 0 [.ref a, .ref b0, .null] [] (zst p iv) (fun r h9 => zEv sc 85 23 [l0, l1] (r.toList ++ []) h9 Q) := zE_call (kd := 0) (na := 2) (nr := 0) (as := [.ref a, .ref b0]) (rest := []) (Or.inl ⟨rfl, rfl⟩) dz85_20 (by decide +kernel : z_lk2 zCT (z_cls 85) 163 = some (13, 1, 493)) (fun z => by cases z) rfl rfl rfl (by decide +kernel) rfl (Or.inr (zE_rc ho))
theorem dz85_23 : decode (z_code 85) 23 = .ok (.aload_n 0, 1) := by decide +kernel
theorem u85_23 : zEv sc 85 23 [.ref a, l1] [] h Q ↔ zEv sc 85 24 [.ref a, l1] [.ref a] h Q := zE_pure (q := (24, [.ref a, l1], [.ref a])) dz85_23 rfl rfl rfl
theorem dz85_24 : decode (z_code 85) 24 = .ok (.getfield 63, 3) := by decide +kernel
theorem u85_24 (ho : zO a 9) : zEv sc 85 24 [l0, l1] [.ref a] (zst p iv) Q ↔ zRef (zRV p a 9) (fun j => zEv sc 85 27 [l0, l1] [.ref j] (zst p iv) Q) := zE_gfR dz85_24 (by decide +kernel : z_lk3 zFT (z_cls 85) 63 = some (9, 9, 0, 318)) (by decide +kernel) ho
theorem dz85_27 : decode (z_code 85) 27 = .ok (.aload_n 0, 1) := by decide +kernel
theorem u85_27 : zEv sc 85 27 [.ref a, l1] [t0] h Q ↔ zEv sc 85 28 [.ref a, l1] [.ref a, t0] h Q := zE_pure (q := (28, [.ref a, l1], [.ref a, t0])) dz85_27 rfl rfl rfl
theorem dz85_28 : decode (z_code 85) 28 = .ok (.getfield 16, 3) := by decide +kernel
theorem u85_28 (ho : zO a 9) : zEv sc 85 28 [l0, l1] [.ref a, t0] (zst p iv) Q ↔ zRef (zRV p a 1) (fun j => zEv sc 85 31 [l0, l1] [.ref j, t0] (zst p iv) Q) := zE_gfR dz85_28 (by decide +kernel : z_lk3 zFT (z_cls 85) 16 = some (9, 1, 0, 310)) (by decide +kernel) ho
theorem dz85_31 : decode (z_code 85) 31 = .ok (.aload_n 0, 1) := by decide +kernel
theorem u85_31 : zEv sc 85 31 [.ref a, l1] [t0, t1] h Q ↔ zEv sc 85 32 [.ref a, l1] [.ref a, t0, t1] h Q := zE_pure (q := (32, [.ref a, l1], [.ref a, t0, t1])) dz85_31 rfl rfl rfl
theorem dz85_32 : decode (z_code 85) 32 = .ok (.getfield 56, 3) := by decide +kernel
theorem u85_32 (ho : zO a 9) : zEv sc 85 32 [l0, l1] [.ref a, t0, t1] (zst p iv) Q ↔ zRef (zRV p a 8) (fun j => zEv sc 85 35 [l0, l1] [.ref j, t0, t1] (zst p iv) Q) := zE_gfR dz85_32 (by decide +kernel : z_lk3 zFT (z_cls 85) 56 = some (9, 8, 0, 317)) (by decide +kernel) ho
theorem dz85_35 : decode (z_code 85) 35 = .ok (.invokevirtual 238, 3) := by decide +kernel
theorem u85_35 (ho : zO a 8) : zEv sc 85 35 [l0, l1] [.ref b1, .ref b0, .ref a] (zst p iv) Q ↔ zEv sc 55 0 [.ref a, .ref b0, .ref b1, .null] [] (zst p iv) (fun r h9 => zEv sc 85 38 [l0, l1] (r.toList ++ []) h9 Q) := zE_call (kd := 0) (na := 3) (nr := 0) (as := [.ref a, .ref b0, .ref b1]) (rest := []) (Or.inl ⟨rfl, rfl⟩) dz85_35 (by decide +kernel : z_lk2 zCT (z_cls 85) 238 = some (55, 1, 621)) (fun z => by cases z) rfl rfl rfl (by decide +kernel) rfl (Or.inr (zE_rc ho))
theorem dz85_38 : decode (z_code 85) 38 = .ok (.aload_n 0, 1) := by decide +kernel
theorem u85_38 : zEv sc 85 38 [.ref a, l1] [] h Q ↔ zEv sc 85 39 [.ref a, l1] [.ref a] h Q := zE_pure (q := (39, [.ref a, l1], [.ref a])) dz85_38 rfl rfl rfl
theorem dz85_39 : decode (z_code 85) 39 = .ok (.getfield 63, 3) := by decide +kernel
theorem u85_39 (ho : zO a 9) : zEv sc 85 39 [l0, l1] [.ref a] (zst p iv) Q ↔ zRef (zRV p a 9) (fun j => zEv sc 85 42 [l0, l1] [.ref j] (zst p iv) Q) := zE_gfR dz85_39 (by decide +kernel : z_lk3 zFT (z_cls 85) 63 = some (9, 9, 0, 318)) (by decide +kernel) ho
theorem dz85_42 : decode (z_code 85) 42 = .ok (.getfield 242, 3) := by decide +kernel
theorem u85_42 (ho : zO a 8) : zEv sc 85 42 [l0, l1] [.ref a] (zst p iv) Q ↔ zEv sc 85 45 [l0, l1] [.int (iv a 1)] (zst p iv) Q := zE_gfI dz85_42 (by decide +kernel : z_lk3 zFT (z_cls 85) 242 = some (8, 1, 1, 287)) (by decide +kernel) ho
theorem dz85_45 : decode (z_code 85) 45 = .ok (.ifCond .ne 6, 3) := by decide +kernel
theorem u85_45 : zEv sc 85 45 [l0, l1] [.int x] h Q ↔ (if ¬ x = 0 then zEv sc 85 51 [l0, l1] [] h Q else zEv sc 85 48 [l0, l1] [] h Q) := zE_ifP (P := ¬ x = 0) inferInstance 51 dz85_45 rfl rfl
theorem dz85_48 : decode (z_code 85) 48 = .ok (.ldc 130, 2) := by decide +kernel
theorem u85_48 : zEv sc 85 48 [l0, l1] [] h Q ↔ zEv sc 85 50 [l0, l1] [.int (-1000004)] h Q := zE_ldc (by decide +kernel : z_lkK zKT (z_cls 85) 130 = some ((-1000004), 430)) dz85_48
theorem dz85_50 : decode (z_code 85) 50 = .ok (.ireturn, 1) := by decide +kernel
theorem u85_50 : zEv sc 85 50 [l0, l1] [.int x] h Q ↔ Q (some (.int x)) h := zE_ri dz85_50 (by decide +kernel)
theorem dz85_51 : decode (z_code 85) 51 = .ok (.iload_n 1, 1) := by decide +kernel
theorem u85_51 : zEv sc 85 51 [l0, .int x] [] h Q ↔ zEv sc 85 52 [l0, .int x] [.int x] h Q := zE_pure (q := (52, [l0, .int x], [.int x])) dz85_51 rfl rfl rfl
theorem dz85_52 : decode (z_code 85) 52 = .ok (.lookupswitch 44 #[(0, 28), (1, 36)], 28) := by decide +kernel
theorem u85_52_0 : zEv sc 85 52 [l0, l1] [.int 0] h Q ↔ zEv sc 85 80 [l0, l1] [] h Q := zE_swi (off := 28) 80 dz85_52 (by decide +kernel) (by decide +kernel) rfl
theorem u85_52_1 : zEv sc 85 52 [l0, l1] [.int 1] h Q ↔ zEv sc 85 88 [l0, l1] [] h Q := zE_swi (off := 36) 88 dz85_52 (by decide +kernel) (by decide +kernel) rfl
theorem u85_52_d (h0 : ¬ x = 0) (h1 : ¬ x = 1) : zEv sc 85 52 [l0, l1] [.int x] h Q ↔ zEv sc 85 96 [l0, l1] [] h Q := zE_swi (off := 44) 96 dz85_52 (by decide +kernel) ((lv_osw (k := 0) (a := 0) (o := 28) h0 rfl).trans ((lv_osw (k := 1) (a := 1) (o := 36) h1 rfl).trans (rfl))) rfl
theorem dz85_96 : decode (z_code 85) 96 = .ok (.aload_n 0, 1) := by decide +kernel
theorem u85_96 : zEv sc 85 96 [.ref a, l1] [] h Q ↔ zEv sc 85 97 [.ref a, l1] [.ref a] h Q := zE_pure (q := (97, [.ref a, l1], [.ref a])) dz85_96 rfl rfl rfl
theorem dz85_97 : decode (z_code 85) 97 = .ok (.getfield 63, 3) := by decide +kernel
theorem u85_97 (ho : zO a 9) : zEv sc 85 97 [l0, l1] [.ref a] (zst p iv) Q ↔ zRef (zRV p a 9) (fun j => zEv sc 85 100 [l0, l1] [.ref j] (zst p iv) Q) := zE_gfR dz85_97 (by decide +kernel : z_lk3 zFT (z_cls 85) 63 = some (9, 9, 0, 318)) (by decide +kernel) ho
theorem dz85_100 : decode (z_code 85) 100 = .ok (.getfield 242, 3) := by decide +kernel
theorem u85_100 (ho : zO a 8) : zEv sc 85 100 [l0, l1] [.ref a] (zst p iv) Q ↔ zEv sc 85 103 [l0, l1] [.int (iv a 1)] (zst p iv) Q := zE_gfI dz85_100 (by decide +kernel : z_lk3 zFT (z_cls 85) 242 = some (8, 1, 1, 287)) (by decide +kernel) ho
theorem dz85_103 : decode (z_code 85) 103 = .ok (.iconst 1, 1) := by decide +kernel
theorem u85_103 : zEv sc 85 103 [l0, l1] [t0] h Q ↔ zEv sc 85 104 [l0, l1] [.int 1, t0] h Q := zE_iconst dz85_103 (by decide +kernel)
theorem dz85_104 : decode (z_code 85) 104 = .ok (.if_icmp .ne 13, 3) := by decide +kernel
theorem u85_104 : zEv sc 85 104 [l0, l1] [.int x2, .int x1] h Q ↔ (if ¬ x1 = x2 then zEv sc 85 117 [l0, l1] [] h Q else zEv sc 85 107 [l0, l1] [] h Q) := zE_icP (P := ¬ x1 = x2) inferInstance 117 dz85_104 rfl rfl
theorem dz85_107 : decode (z_code 85) 107 = .ok (.aload_n 0, 1) := by decide +kernel
theorem u85_107 : zEv sc 85 107 [.ref a, l1] [] h Q ↔ zEv sc 85 108 [.ref a, l1] [.ref a] h Q := zE_pure (q := (108, [.ref a, l1], [.ref a])) dz85_107 rfl rfl rfl
theorem dz85_108 : decode (z_code 85) 108 = .ok (.getfield 63, 3) := by decide +kernel
theorem u85_108 (ho : zO a 9) : zEv sc 85 108 [l0, l1] [.ref a] (zst p iv) Q ↔ zRef (zRV p a 9) (fun j => zEv sc 85 111 [l0, l1] [.ref j] (zst p iv) Q) := zE_gfR dz85_108 (by decide +kernel : z_lk3 zFT (z_cls 85) 63 = some (9, 9, 0, 318)) (by decide +kernel) ho
theorem dz85_111 : decode (z_code 85) 111 = .ok (.getfield 248, 3) := by decide +kernel
theorem u85_111 (ho : zO a 8) : zEv sc 85 111 [l0, l1] [.ref a] (zst p iv) Q ↔ zEv sc 85 114 [l0, l1] [.int (iv a 2)] (zst p iv) Q := zE_gfI dz85_111 (by decide +kernel : z_lk3 zFT (z_cls 85) 248 = some (8, 2, 1, 289)) (by decide +kernel) ho
theorem dz85_114 : decode (z_code 85) 114 = .ok (.goto 5, 3) := by decide +kernel
theorem u85_114 : zEv sc 85 114 [l0, l1] [t0] h Q ↔ zEv sc 85 119 [l0, l1] [t0] h Q := zE_go 119 dz85_114 rfl
theorem dz85_119 : decode (z_code 85) 119 = .ok (.ireturn, 1) := by decide +kernel
theorem u85_119 : zEv sc 85 119 [l0, l1] [.int x] h Q ↔ Q (some (.int x)) h := zE_ri dz85_119 (by decide +kernel)
theorem dz85_117 : decode (z_code 85) 117 = .ok (.ldc 130, 2) := by decide +kernel
theorem u85_117 : zEv sc 85 117 [l0, l1] [] h Q ↔ zEv sc 85 119 [l0, l1] [.int (-1000004)] h Q := zE_ldc (by decide +kernel : z_lkK zKT (z_cls 85) 130 = some ((-1000004), 430)) dz85_117
theorem dz85_88 : decode (z_code 85) 88 = .ok (.aload_n 0, 1) := by decide +kernel
theorem u85_88 : zEv sc 85 88 [.ref a, l1] [] h Q ↔ zEv sc 85 89 [.ref a, l1] [.ref a] h Q := zE_pure (q := (89, [.ref a, l1], [.ref a])) dz85_88 rfl rfl rfl
theorem dz85_89 : decode (z_code 85) 89 = .ok (.getfield 63, 3) := by decide +kernel
theorem u85_89 (ho : zO a 9) : zEv sc 85 89 [l0, l1] [.ref a] (zst p iv) Q ↔ zRef (zRV p a 9) (fun j => zEv sc 85 92 [l0, l1] [.ref j] (zst p iv) Q) := zE_gfR dz85_89 (by decide +kernel : z_lk3 zFT (z_cls 85) 63 = some (9, 9, 0, 318)) (by decide +kernel) ho
theorem dz85_92 : decode (z_code 85) 92 = .ok (.getfield 242, 3) := by decide +kernel
theorem u85_92 (ho : zO a 8) : zEv sc 85 92 [l0, l1] [.ref a] (zst p iv) Q ↔ zEv sc 85 95 [l0, l1] [.int (iv a 1)] (zst p iv) Q := zE_gfI dz85_92 (by decide +kernel : z_lk3 zFT (z_cls 85) 242 = some (8, 1, 1, 287)) (by decide +kernel) ho
theorem dz85_95 : decode (z_code 85) 95 = .ok (.ireturn, 1) := by decide +kernel
theorem u85_95 : zEv sc 85 95 [l0, l1] [.int x] h Q ↔ Q (some (.int x)) h := zE_ri dz85_95 (by decide +kernel)
theorem dz85_80 : decode (z_code 85) 80 = .ok (.aload_n 0, 1) := by decide +kernel
theorem u85_80 : zEv sc 85 80 [.ref a, l1] [] h Q ↔ zEv sc 85 81 [.ref a, l1] [.ref a] h Q := zE_pure (q := (81, [.ref a, l1], [.ref a])) dz85_80 rfl rfl rfl
theorem dz85_81 : decode (z_code 85) 81 = .ok (.getfield 63, 3) := by decide +kernel
theorem u85_81 (ho : zO a 9) : zEv sc 85 81 [l0, l1] [.ref a] (zst p iv) Q ↔ zRef (zRV p a 9) (fun j => zEv sc 85 84 [l0, l1] [.ref j] (zst p iv) Q) := zE_gfR dz85_81 (by decide +kernel : z_lk3 zFT (z_cls 85) 63 = some (9, 9, 0, 318)) (by decide +kernel) ho
theorem dz85_84 : decode (z_code 85) 84 = .ok (.getfield 245, 3) := by decide +kernel
theorem u85_84 (ho : zO a 8) : zEv sc 85 84 [l0, l1] [.ref a] (zst p iv) Q ↔ zEv sc 85 87 [l0, l1] [.int (iv a 0)] (zst p iv) Q := zE_gfI dz85_84 (by decide +kernel : z_lk3 zFT (z_cls 85) 245 = some (8, 0, 1, 285)) (by decide +kernel) ho
theorem dz85_87 : decode (z_code 85) 87 = .ok (.ireturn, 1) := by decide +kernel
theorem u85_87 : zEv sc 85 87 [l0, l1] [.int x] h Q ↔ Q (some (.int x)) h := zE_ri dz85_87 (by decide +kernel)
/-! method 86: FieldMixtures.read()I -/
theorem dz86_0 : decode (z_code 86) 0 = .ok (.aload_n 0, 1) := by decide +kernel
theorem u86_0 : zEv sc 86 0 [.ref a] [] h Q ↔ zEv sc 86 1 [.ref a] [.ref a] h Q := zE_pure (q := (1, [.ref a], [.ref a])) dz86_0 rfl rfl rfl
theorem dz86_1 : decode (z_code 86) 1 = .ok (.getfield 16, 3) := by decide +kernel
theorem u86_1 (ho : zO a 9) : zEv sc 86 1 [l0] [.ref a] (zst p iv) Q ↔ zRef (zRV p a 1) (fun j => zEv sc 86 4 [l0] [.ref j] (zst p iv) Q) := zE_gfR dz86_1 (by decide +kernel : z_lk3 zFT (z_cls 86) 16 = some (9, 1, 0, 310)) (by decide +kernel) ho
theorem dz86_4 : decode (z_code 86) 4 = .ok (.aload_n 0, 1) := by decide +kernel
theorem u86_4 : zEv sc 86 4 [.ref a] [t0] h Q ↔ zEv sc 86 5 [.ref a] [.ref a, t0] h Q := zE_pure (q := (5, [.ref a], [.ref a, t0])) dz86_4 rfl rfl rfl
theorem dz86_5 : decode (z_code 86) 5 = .ok (.getfield 10, 3) := by decide +kernel
theorem u86_5 (ho : zO a 9) : zEv sc 86 5 [l0] [.ref a, t0] (zst p iv) Q ↔ zRef (zRV p a 0) (fun j => zEv sc 86 8 [l0] [.ref j, t0] (zst p iv) Q) := zE_gfR dz86_5 (by decide +kernel : z_lk3 zFT (z_cls 86) 10 = some (9, 0, 0, 309)) (by decide +kernel) ho
theorem dz86_8 : decode (z_code 86) 8 = .ok (.invokevirtual 163, 3) := by decide +kernel
theorem u86_8 (ho : zO a 2) : zEv sc 86 8 [l0] [.ref b0, .ref a] (zst p iv) Q ↔ zEv sc 13 0 [.ref a, .ref b0, .null] [] (zst p iv) (fun r h9 => zEv sc 86 11 [l0] (r.toList ++ []) h9 Q) := zE_call (kd := 0) (na := 2) (nr := 0) (as := [.ref a, .ref b0]) (rest := []) (Or.inl ⟨rfl, rfl⟩) dz86_8 (by decide +kernel : z_lk2 zCT (z_cls 86) 163 = some (13, 1, 493)) (fun z => by cases z) rfl rfl rfl (by decide +kernel) rfl (Or.inr (zE_rc ho))
theorem dz86_11 : decode (z_code 86) 11 = .ok (.aload_n 0, 1) := by decide +kernel
theorem u86_11 : zEv sc 86 11 [.ref a] [] h Q ↔ zEv sc 86 12 [.ref a] [.ref a] h Q := zE_pure (q := (12, [.ref a], [.ref a])) dz86_11 rfl rfl rfl
theorem dz86_12 : decode (z_code 86) 12 = .ok (.getfield 63, 3) := by decide +kernel
theorem u86_12 (ho : zO a 9) : zEv sc 86 12 [l0] [.ref a] (zst p iv) Q ↔ zRef (zRV p a 9) (fun j => zEv sc 86 15 [l0] [.ref j] (zst p iv) Q) := zE_gfR dz86_12 (by decide +kernel : z_lk3 zFT (z_cls 86) 63 = some (9, 9, 0, 318)) (by decide +kernel) ho
theorem dz86_15 : decode (z_code 86) 15 = .ok (.aload_n 0, 1) := by decide +kernel
theorem u86_15 : zEv sc 86 15 [.ref a] [t0] h Q ↔ zEv sc 86 16 [.ref a] [.ref a, t0] h Q := zE_pure (q := (16, [.ref a], [.ref a, t0])) dz86_15 rfl rfl rfl
theorem dz86_16 : decode (z_code 86) 16 = .ok (.getfield 16, 3) := by decide +kernel
theorem u86_16 (ho : zO a 9) : zEv sc 86 16 [l0] [.ref a, t0] (zst p iv) Q ↔ zRef (zRV p a 1) (fun j => zEv sc 86 19 [l0] [.ref j, t0] (zst p iv) Q) := zE_gfR dz86_16 (by decide +kernel : z_lk3 zFT (z_cls 86) 16 = some (9, 1, 0, 310)) (by decide +kernel) ho
theorem dz86_19 : decode (z_code 86) 19 = .ok (.aload_n 0, 1) := by decide +kernel
theorem u86_19 : zEv sc 86 19 [.ref a] [t0, t1] h Q ↔ zEv sc 86 20 [.ref a] [.ref a, t0, t1] h Q := zE_pure (q := (20, [.ref a], [.ref a, t0, t1])) dz86_19 rfl rfl rfl
theorem dz86_20 : decode (z_code 86) 20 = .ok (.getfield 56, 3) := by decide +kernel
theorem u86_20 (ho : zO a 9) : zEv sc 86 20 [l0] [.ref a, t0, t1] (zst p iv) Q ↔ zRef (zRV p a 8) (fun j => zEv sc 86 23 [l0] [.ref j, t0, t1] (zst p iv) Q) := zE_gfR dz86_20 (by decide +kernel : z_lk3 zFT (z_cls 86) 56 = some (9, 8, 0, 317)) (by decide +kernel) ho
theorem dz86_23 : decode (z_code 86) 23 = .ok (.invokevirtual 238, 3) := by decide +kernel
theorem u86_23 (ho : zO a 8) : zEv sc 86 23 [l0] [.ref b1, .ref b0, .ref a] (zst p iv) Q ↔ zEv sc 55 0 [.ref a, .ref b0, .ref b1, .null] [] (zst p iv) (fun r h9 => zEv sc 86 26 [l0] (r.toList ++ []) h9 Q) := zE_call (kd := 0) (na := 3) (nr := 0) (as := [.ref a, .ref b0, .ref b1]) (rest := []) (Or.inl ⟨rfl, rfl⟩) dz86_23 (by decide +kernel : z_lk2 zCT (z_cls 86) 238 = some (55, 1, 621)) (fun z => by cases z) rfl rfl rfl (by decide +kernel) rfl (Or.inr (zE_rc ho))
theorem dz86_26 : decode (z_code 86) 26 = .ok (.aload_n 0, 1) := by decide +kernel
theorem u86_26 : zEv sc 86 26 [.ref a] [] h Q ↔ zEv sc 86 27 [.ref a] [.ref a] h Q := zE_pure (q := (27, [.ref a], [.ref a])) dz86_26 rfl rfl rfl
theorem dz86_27 : decode (z_code 86) 27 = .ok (.getfield 63, 3) := by decide +kernel
theorem u86_27 (ho : zO a 9) : zEv sc 86 27 [l0] [.ref a] (zst p iv) Q ↔ zRef (zRV p a 9) (fun j => zEv sc 86 30 [l0] [.ref j] (zst p iv) Q) := zE_gfR dz86_27 (by decide +kernel : z_lk3 zFT (z_cls 86) 63 = some (9, 9, 0, 318)) (by decide +kernel) ho
theorem dz86_30 : decode (z_code 86) 30 = .ok (.getfield 242, 3) := by decide +kernel
theorem u86_30 (ho : zO a 8) : zEv sc 86 30 [l0] [.ref a] (zst p iv) Q ↔ zEv sc 86 33 [l0] [.int (iv a 1)] (zst p iv) Q := zE_gfI dz86_30 (by decide +kernel : z_lk3 zFT (z_cls 86) 242 = some (8, 1, 1, 287)) (by decide +kernel) ho
theorem dz86_33 : decode (z_code 86) 33 = .ok (.ifCond .eq 6, 3) := by decide +kernel
theorem u86_33 : zEv sc 86 33 [l0] [.int x] h Q ↔ (if x = 0 then zEv sc 86 39 [l0] [] h Q else zEv sc 86 36 [l0] [] h Q) := zE_ifP (P := x = 0) inferInstance 39 dz86_33 rfl rfl
theorem dz86_36 : decode (z_code 86) 36 = .ok (.ldc 155, 2) := by decide +kernel
theorem u86_36 : zEv sc 86 36 [l0] [] h Q ↔ zEv sc 86 38 [l0] [.int (-1000002)] h Q := zE_ldc (by decide +kernel : z_lkK zKT (z_cls 86) 155 = some ((-1000002), 483)) dz86_36
theorem dz86_38 : decode (z_code 86) 38 = .ok (.ireturn, 1) := by decide +kernel
theorem u86_38 : zEv sc 86 38 [l0] [.int x] h Q ↔ Q (some (.int x)) h := zE_ri dz86_38 (by decide +kernel)
theorem dz86_39 : decode (z_code 86) 39 = .ok (.aload_n 0, 1) := by decide +kernel
theorem u86_39 : zEv sc 86 39 [.ref a] [] h Q ↔ zEv sc 86 40 [.ref a] [.ref a] h Q := zE_pure (q := (40, [.ref a], [.ref a])) dz86_39 rfl rfl rfl
theorem dz86_40 : decode (z_code 86) 40 = .ok (.invokevirtual 170, 3) := by decide +kernel
theorem u86_40 (ho : zO a 9) : zEv sc 86 40 [l0] [.ref a] (zst p iv) Q ↔ zEv sc 70 0 [.ref a] [] (zst p iv) (fun r h9 => zEv sc 86 43 [l0] (r.toList ++ []) h9 Q) := zE_call (kd := 0) (na := 1) (nr := 0) (as := [.ref a]) (rest := []) (Or.inl ⟨rfl, rfl⟩) dz86_40 (by decide +kernel : z_lk2 zCT (z_cls 86) 170 = some (70, 0, 529)) (fun z => by cases z) rfl rfl rfl (by decide +kernel) rfl (Or.inr (zE_rc ho))
theorem dz86_43 : decode (z_code 86) 43 = .ok (.aload_n 0, 1) := by decide +kernel
theorem u86_43 : zEv sc 86 43 [.ref a] [] h Q ↔ zEv sc 86 44 [.ref a] [.ref a] h Q := zE_pure (q := (44, [.ref a], [.ref a])) dz86_43 rfl rfl rfl
theorem dz86_44 : decode (z_code 86) 44 = .ok (.getfield 10, 3) := by decide +kernel
theorem u86_44 (ho : zO a 9) : zEv sc 86 44 [l0] [.ref a] (zst p iv) Q ↔ zRef (zRV p a 0) (fun j => zEv sc 86 47 [l0] [.ref j] (zst p iv) Q) := zE_gfR dz86_44 (by decide +kernel : z_lk3 zFT (z_cls 86) 10 = some (9, 0, 0, 309)) (by decide +kernel) ho
theorem dz86_47 : decode (z_code 86) 47 = .ok (.invokevirtual 173, 3) := by decide +kernel
theorem u86_47 (ho : zO a 2) : zEv sc 86 47 [l0] [.ref a] (zst p iv) Q ↔ zEv sc 19 0 [.ref a] [] (zst p iv) (fun r h9 => zEv sc 86 50 [l0] (r.toList ++ []) h9 Q) := zE_call (kd := 0) (na := 1) (nr := 0) (as := [.ref a]) (rest := []) (Or.inl ⟨rfl, rfl⟩) dz86_47 (by decide +kernel : z_lk2 zCT (z_cls 86) 173 = some (19, 1, 533)) (fun z => by cases z) rfl rfl rfl (by decide +kernel) rfl (Or.inr (zE_rc ho))
theorem dz86_50 : decode (z_code 86) 50 = .ok (.ireturn, 1) := by decide +kernel
theorem u86_50 : zEv sc 86 50 [l0] [.int x] h Q ↔ Q (some (.int x)) h := zE_ri dz86_50 (by decide +kernel)
/-! method 87: FieldMixturesModel.laysFields()V -/
theorem dz87_0 : decode (z_code 87) 0 = .ok (.iconst 0, 1) := by decide +kernel
theorem u87_0 : zEv sc 87 0 [l0, l1] [] h Q ↔ zEv sc 87 1 [l0, l1] [.int 0] h Q := zE_iconst dz87_0 (by decide +kernel)
theorem dz87_1 : decode (z_code 87) 1 = .ok (.istore_n 1, 1) := by decide +kernel
theorem u87_1 : zEv sc 87 1 [l0, l1] [.int x] h Q ↔ zEv sc 87 2 [l0, .int x] [] h Q := zE_pure (q := (2, [l0, .int x], [])) dz87_1 rfl rfl rfl
theorem dz87_2 : decode (z_code 87) 2 = .ok (.iload_n 1, 1) := by decide +kernel
theorem u87_2 : zEv sc 87 2 [l0, .int x] [] h Q ↔ zEv sc 87 3 [l0, .int x] [.int x] h Q := zE_pure (q := (3, [l0, .int x], [.int x])) dz87_2 rfl rfl rfl
theorem dz87_3 : decode (z_code 87) 3 = .ok (.iconst 4, 1) := by decide +kernel
theorem u87_3 : zEv sc 87 3 [l0, l1] [t0] h Q ↔ zEv sc 87 4 [l0, l1] [.int 4, t0] h Q := zE_iconst dz87_3 (by decide +kernel)
theorem dz87_4 : decode (z_code 87) 4 = .ok (.if_icmp .ge 40, 3) := by decide +kernel
theorem u87_4 : zEv sc 87 4 [l0, l1] [.int x2, .int x1] h Q ↔ (if x2 ≤ x1 then zEv sc 87 44 [l0, l1] [] h Q else zEv sc 87 7 [l0, l1] [] h Q) := zE_icP (P := x2 ≤ x1) inferInstance 44 dz87_4 rfl rfl
theorem dz87_7 : decode (z_code 87) 7 = .ok (.aload_n 0, 1) := by decide +kernel
theorem u87_7 : zEv sc 87 7 [.ref a, l1] [] h Q ↔ zEv sc 87 8 [.ref a, l1] [.ref a] h Q := zE_pure (q := (8, [.ref a, l1], [.ref a])) dz87_7 rfl rfl rfl
theorem dz87_8 : decode (z_code 87) 8 = .ok (.getfield 7, 3) := by decide +kernel
theorem u87_8 (ho : zO a 10) : zEv sc 87 8 [l0, l1] [.ref a] (zst p iv) Q ↔ zRef (zRV p a 0) (fun j => zEv sc 87 11 [l0, l1] [.ref j] (zst p iv) Q) := zE_gfR dz87_8 (by decide +kernel : z_lk3 zFT (z_cls 87) 7 = some (10, 0, 0, 677)) (by decide +kernel) ho
theorem dz87_11 : decode (z_code 87) 11 = .ok (.iconst 2, 1) := by decide +kernel
theorem u87_11 : zEv sc 87 11 [l0, l1] [t0] h Q ↔ zEv sc 87 12 [l0, l1] [.int 2, t0] h Q := zE_iconst dz87_11 (by decide +kernel)
theorem dz87_12 : decode (z_code 87) 12 = .ok (.iload_n 1, 1) := by decide +kernel
theorem u87_12 : zEv sc 87 12 [l0, .int x] [t0, t1] h Q ↔ zEv sc 87 13 [l0, .int x] [.int x, t0, t1] h Q := zE_pure (q := (13, [l0, .int x], [.int x, t0, t1])) dz87_12 rfl rfl rfl
theorem dz87_13 : decode (z_code 87) 13 = .ok (.iadd, 1) := by decide +kernel
theorem u87_13 : zEv sc 87 13 [l0, l1] [.int x2, .int x1, t0] h Q ↔ zEv sc 87 14 [l0, l1] [.int (x1 + x2), t0] h Q := zE_pure (q := (14, [l0, l1], [.int (x1 + x2), t0])) dz87_13 rfl rfl rfl
theorem dz87_14 : decode (z_code 87) 14 = .ok (.iconst 1, 1) := by decide +kernel
theorem u87_14 : zEv sc 87 14 [l0, l1] [t0, t1] h Q ↔ zEv sc 87 15 [l0, l1] [.int 1, t0, t1] h Q := zE_iconst dz87_14 (by decide +kernel)
theorem dz87_15 : decode (z_code 87) 15 = .ok (.iastore, 1) := by decide +kernel
theorem u87_15 (ho : zO a 100) : zEv sc 87 15 [l0, l1] [.int x2, .int x1, .ref a] (zst p iv) Q ↔ (vp_in x1 (zLn a) ∧ zEv sc 87 16 [l0, l1] [] (zst p (w2 iv a x1.toNatClampNeg x2)) Q) := zE_ast (Or.inl ⟨rfl, rfl, rfl⟩) dz87_15 ho
theorem dz87_16 : decode (z_code 87) 16 = .ok (.aload_n 0, 1) := by decide +kernel
theorem u87_16 : zEv sc 87 16 [.ref a, l1] [] h Q ↔ zEv sc 87 17 [.ref a, l1] [.ref a] h Q := zE_pure (q := (17, [.ref a, l1], [.ref a])) dz87_16 rfl rfl rfl
theorem dz87_17 : decode (z_code 87) 17 = .ok (.getfield 7, 3) := by decide +kernel
theorem u87_17 (ho : zO a 10) : zEv sc 87 17 [l0, l1] [.ref a] (zst p iv) Q ↔ zRef (zRV p a 0) (fun j => zEv sc 87 20 [l0, l1] [.ref j] (zst p iv) Q) := zE_gfR dz87_17 (by decide +kernel : z_lk3 zFT (z_cls 87) 7 = some (10, 0, 0, 677)) (by decide +kernel) ho
theorem dz87_20 : decode (z_code 87) 20 = .ok (.bipush 8, 2) := by decide +kernel
theorem u87_20 : zEv sc 87 20 [l0, l1] [t0] h Q ↔ zEv sc 87 22 [l0, l1] [.int 8, t0] h Q := zE_bipush dz87_20 (by decide +kernel)
theorem dz87_22 : decode (z_code 87) 22 = .ok (.iload_n 1, 1) := by decide +kernel
theorem u87_22 : zEv sc 87 22 [l0, .int x] [t0, t1] h Q ↔ zEv sc 87 23 [l0, .int x] [.int x, t0, t1] h Q := zE_pure (q := (23, [l0, .int x], [.int x, t0, t1])) dz87_22 rfl rfl rfl
theorem dz87_23 : decode (z_code 87) 23 = .ok (.iadd, 1) := by decide +kernel
theorem u87_23 : zEv sc 87 23 [l0, l1] [.int x2, .int x1, t0] h Q ↔ zEv sc 87 24 [l0, l1] [.int (x1 + x2), t0] h Q := zE_pure (q := (24, [l0, l1], [.int (x1 + x2), t0])) dz87_23 rfl rfl rfl
theorem dz87_24 : decode (z_code 87) 24 = .ok (.bipush 8, 2) := by decide +kernel
theorem u87_24 : zEv sc 87 24 [l0, l1] [t0, t1] h Q ↔ zEv sc 87 26 [l0, l1] [.int 8, t0, t1] h Q := zE_bipush dz87_24 (by decide +kernel)
theorem dz87_26 : decode (z_code 87) 26 = .ok (.iastore, 1) := by decide +kernel
theorem u87_26 (ho : zO a 100) : zEv sc 87 26 [l0, l1] [.int x2, .int x1, .ref a] (zst p iv) Q ↔ (vp_in x1 (zLn a) ∧ zEv sc 87 27 [l0, l1] [] (zst p (w2 iv a x1.toNatClampNeg x2)) Q) := zE_ast (Or.inl ⟨rfl, rfl, rfl⟩) dz87_26 ho
theorem dz87_27 : decode (z_code 87) 27 = .ok (.aload_n 0, 1) := by decide +kernel
theorem u87_27 : zEv sc 87 27 [.ref a, l1] [] h Q ↔ zEv sc 87 28 [.ref a, l1] [.ref a] h Q := zE_pure (q := (28, [.ref a, l1], [.ref a])) dz87_27 rfl rfl rfl
theorem dz87_28 : decode (z_code 87) 28 = .ok (.getfield 7, 3) := by decide +kernel
theorem u87_28 (ho : zO a 10) : zEv sc 87 28 [l0, l1] [.ref a] (zst p iv) Q ↔ zRef (zRV p a 0) (fun j => zEv sc 87 31 [l0, l1] [.ref j] (zst p iv) Q) := zE_gfR dz87_28 (by decide +kernel : z_lk3 zFT (z_cls 87) 7 = some (10, 0, 0, 677)) (by decide +kernel) ho
theorem dz87_31 : decode (z_code 87) 31 = .ok (.bipush 12, 2) := by decide +kernel
theorem u87_31 : zEv sc 87 31 [l0, l1] [t0] h Q ↔ zEv sc 87 33 [l0, l1] [.int 12, t0] h Q := zE_bipush dz87_31 (by decide +kernel)
theorem dz87_33 : decode (z_code 87) 33 = .ok (.iload_n 1, 1) := by decide +kernel
theorem u87_33 : zEv sc 87 33 [l0, .int x] [t0, t1] h Q ↔ zEv sc 87 34 [l0, .int x] [.int x, t0, t1] h Q := zE_pure (q := (34, [l0, .int x], [.int x, t0, t1])) dz87_33 rfl rfl rfl
theorem dz87_34 : decode (z_code 87) 34 = .ok (.iadd, 1) := by decide +kernel
theorem u87_34 : zEv sc 87 34 [l0, l1] [.int x2, .int x1, t0] h Q ↔ zEv sc 87 35 [l0, l1] [.int (x1 + x2), t0] h Q := zE_pure (q := (35, [l0, l1], [.int (x1 + x2), t0])) dz87_34 rfl rfl rfl
theorem dz87_35 : decode (z_code 87) 35 = .ok (.bipush 8, 2) := by decide +kernel
theorem u87_35 : zEv sc 87 35 [l0, l1] [t0, t1] h Q ↔ zEv sc 87 37 [l0, l1] [.int 8, t0, t1] h Q := zE_bipush dz87_35 (by decide +kernel)
theorem dz87_37 : decode (z_code 87) 37 = .ok (.iastore, 1) := by decide +kernel
theorem u87_37 (ho : zO a 100) : zEv sc 87 37 [l0, l1] [.int x2, .int x1, .ref a] (zst p iv) Q ↔ (vp_in x1 (zLn a) ∧ zEv sc 87 38 [l0, l1] [] (zst p (w2 iv a x1.toNatClampNeg x2)) Q) := zE_ast (Or.inl ⟨rfl, rfl, rfl⟩) dz87_37 ho
theorem dz87_38 : decode (z_code 87) 38 = .ok (.iinc 1 1, 3) := by decide +kernel
theorem u87_38 : zEv sc 87 38 [l0, .int x] [] h Q ↔ zEv sc 87 41 [l0, .int (x + 1)] [] h Q := zE_iinc (ls2 := [l0, .int (x + 1)]) dz87_38 (by decide +kernel) rfl (by simp) rfl
theorem dz87_41 : decode (z_code 87) 41 = .ok (.goto (-39), 3) := by decide +kernel
theorem u87_41 : zEv sc 87 41 [l0, l1] [] h Q ↔ zEv sc 87 2 [l0, l1] [] h Q := zE_go 2 dz87_41 rfl
theorem dz87_44 : decode (z_code 87) 44 = .ok (.return_, 1) := by decide +kernel
theorem u87_44 : zEv sc 87 44 [l0, l1] [] h Q ↔ Q none h := zE_rv dz87_44 (by decide +kernel)
/-! method 89: FieldMixturesModel.in(III)Z -/
theorem dz89_0 : decode (z_code 89) 0 = .ok (.iload_n 0, 1) := by decide +kernel
theorem u89_0 : zEv sc 89 0 [.int x, l1, l2] [] h Q ↔ zEv sc 89 1 [.int x, l1, l2] [.int x] h Q := zE_pure (q := (1, [.int x, l1, l2], [.int x])) dz89_0 rfl rfl rfl
theorem dz89_1 : decode (z_code 89) 1 = .ok (.iload_n 1, 1) := by decide +kernel
theorem u89_1 : zEv sc 89 1 [l0, .int x, l2] [t0] h Q ↔ zEv sc 89 2 [l0, .int x, l2] [.int x, t0] h Q := zE_pure (q := (2, [l0, .int x, l2], [.int x, t0])) dz89_1 rfl rfl rfl
theorem dz89_2 : decode (z_code 89) 2 = .ok (.if_icmp .lt 12, 3) := by decide +kernel
theorem u89_2 : zEv sc 89 2 [l0, l1, l2] [.int x2, .int x1] h Q ↔ (if x1 < x2 then zEv sc 89 14 [l0, l1, l2] [] h Q else zEv sc 89 5 [l0, l1, l2] [] h Q) := zE_icP (P := x1 < x2) inferInstance 14 dz89_2 rfl rfl
theorem dz89_5 : decode (z_code 89) 5 = .ok (.iload_n 0, 1) := by decide +kernel
theorem u89_5 : zEv sc 89 5 [.int x, l1, l2] [] h Q ↔ zEv sc 89 6 [.int x, l1, l2] [.int x] h Q := zE_pure (q := (6, [.int x, l1, l2], [.int x])) dz89_5 rfl rfl rfl
theorem dz89_6 : decode (z_code 89) 6 = .ok (.iload_n 2, 1) := by decide +kernel
theorem u89_6 : zEv sc 89 6 [l0, l1, .int x] [t0] h Q ↔ zEv sc 89 7 [l0, l1, .int x] [.int x, t0] h Q := zE_pure (q := (7, [l0, l1, .int x], [.int x, t0])) dz89_6 rfl rfl rfl
theorem dz89_7 : decode (z_code 89) 7 = .ok (.if_icmp .gt 7, 3) := by decide +kernel
theorem u89_7 : zEv sc 89 7 [l0, l1, l2] [.int x2, .int x1] h Q ↔ (if x2 < x1 then zEv sc 89 14 [l0, l1, l2] [] h Q else zEv sc 89 10 [l0, l1, l2] [] h Q) := zE_icP (P := x2 < x1) inferInstance 14 dz89_7 rfl rfl
theorem dz89_10 : decode (z_code 89) 10 = .ok (.iconst 1, 1) := by decide +kernel
theorem u89_10 : zEv sc 89 10 [l0, l1, l2] [] h Q ↔ zEv sc 89 11 [l0, l1, l2] [.int 1] h Q := zE_iconst dz89_10 (by decide +kernel)
theorem dz89_11 : decode (z_code 89) 11 = .ok (.goto 4, 3) := by decide +kernel
theorem u89_11 : zEv sc 89 11 [l0, l1, l2] [t0] h Q ↔ zEv sc 89 15 [l0, l1, l2] [t0] h Q := zE_go 15 dz89_11 rfl
theorem dz89_15 : decode (z_code 89) 15 = .ok (.ireturn, 1) := by decide +kernel
theorem u89_15 : zEv sc 89 15 [l0, l1, l2] [.int x] h Q ↔ ((x = 0 ∨ x = 1) ∧ Q (some (.int x)) h) := zE_rz dz89_15 (by decide +kernel)
theorem dz89_14 : decode (z_code 89) 14 = .ok (.iconst 0, 1) := by decide +kernel
theorem u89_14 : zEv sc 89 14 [l0, l1, l2] [] h Q ↔ zEv sc 89 15 [l0, l1, l2] [.int 0] h Q := zE_iconst dz89_14 (by decide +kernel)
/-! method 90: FieldMixturesModel.begins()V -/
theorem dz90_0 : decode (z_code 90) 0 = .ok (.iconst 0, 1) := by decide +kernel
theorem u90_0 : zEv sc 90 0 [l0, l1] [] h Q ↔ zEv sc 90 1 [l0, l1] [.int 0] h Q := zE_iconst dz90_0 (by decide +kernel)
theorem dz90_1 : decode (z_code 90) 1 = .ok (.istore_n 1, 1) := by decide +kernel
theorem u90_1 : zEv sc 90 1 [l0, l1] [.int x] h Q ↔ zEv sc 90 2 [l0, .int x] [] h Q := zE_pure (q := (2, [l0, .int x], [])) dz90_1 rfl rfl rfl
theorem dz90_2 : decode (z_code 90) 2 = .ok (.iload_n 1, 1) := by decide +kernel
theorem u90_2 : zEv sc 90 2 [l0, .int x] [] h Q ↔ zEv sc 90 3 [l0, .int x] [.int x] h Q := zE_pure (q := (3, [l0, .int x], [.int x])) dz90_2 rfl rfl rfl
theorem dz90_3 : decode (z_code 90) 3 = .ok (.bipush 66, 2) := by decide +kernel
theorem u90_3 : zEv sc 90 3 [l0, l1] [t0] h Q ↔ zEv sc 90 5 [l0, l1] [.int 66, t0] h Q := zE_bipush dz90_3 (by decide +kernel)
theorem dz90_5 : decode (z_code 90) 5 = .ok (.if_icmp .ge 21, 3) := by decide +kernel
theorem u90_5 : zEv sc 90 5 [l0, l1] [.int x2, .int x1] h Q ↔ (if x2 ≤ x1 then zEv sc 90 26 [l0, l1] [] h Q else zEv sc 90 8 [l0, l1] [] h Q) := zE_icP (P := x2 ≤ x1) inferInstance 26 dz90_5 rfl rfl
theorem dz90_8 : decode (z_code 90) 8 = .ok (.aload_n 0, 1) := by decide +kernel
theorem u90_8 : zEv sc 90 8 [.ref a, l1] [] h Q ↔ zEv sc 90 9 [.ref a, l1] [.ref a] h Q := zE_pure (q := (9, [.ref a, l1], [.ref a])) dz90_8 rfl rfl rfl
theorem dz90_9 : decode (z_code 90) 9 = .ok (.getfield 13, 3) := by decide +kernel
theorem u90_9 (ho : zO a 10) : zEv sc 90 9 [l0, l1] [.ref a] (zst p iv) Q ↔ zRef (zRV p a 1) (fun j => zEv sc 90 12 [l0, l1] [.ref j] (zst p iv) Q) := zE_gfR dz90_9 (by decide +kernel : z_lk3 zFT (z_cls 90) 13 = some (10, 1, 0, 678)) (by decide +kernel) ho
theorem dz90_12 : decode (z_code 90) 12 = .ok (.iload_n 1, 1) := by decide +kernel
theorem u90_12 : zEv sc 90 12 [l0, .int x] [t0] h Q ↔ zEv sc 90 13 [l0, .int x] [.int x, t0] h Q := zE_pure (q := (13, [l0, .int x], [.int x, t0])) dz90_12 rfl rfl rfl
theorem dz90_13 : decode (z_code 90) 13 = .ok (.aload_n 0, 1) := by decide +kernel
theorem u90_13 : zEv sc 90 13 [.ref a, l1] [t0, t1] h Q ↔ zEv sc 90 14 [.ref a, l1] [.ref a, t0, t1] h Q := zE_pure (q := (14, [.ref a, l1], [.ref a, t0, t1])) dz90_13 rfl rfl rfl
theorem dz90_14 : decode (z_code 90) 14 = .ok (.getfield 7, 3) := by decide +kernel
theorem u90_14 (ho : zO a 10) : zEv sc 90 14 [l0, l1] [.ref a, t0, t1] (zst p iv) Q ↔ zRef (zRV p a 0) (fun j => zEv sc 90 17 [l0, l1] [.ref j, t0, t1] (zst p iv) Q) := zE_gfR dz90_14 (by decide +kernel : z_lk3 zFT (z_cls 90) 7 = some (10, 0, 0, 677)) (by decide +kernel) ho
theorem dz90_17 : decode (z_code 90) 17 = .ok (.iload_n 1, 1) := by decide +kernel
theorem u90_17 : zEv sc 90 17 [l0, .int x] [t0, t1, t2] h Q ↔ zEv sc 90 18 [l0, .int x] [.int x, t0, t1, t2] h Q := zE_pure (q := (18, [l0, .int x], [.int x, t0, t1, t2])) dz90_17 rfl rfl rfl
theorem dz90_18 : decode (z_code 90) 18 = .ok (.iaload, 1) := by decide +kernel
theorem u90_18 (ho : zO a 100) : zEv sc 90 18 [l0, l1] [.int x, .ref a, t0, t1] (zst p iv) Q ↔ (vp_in x (zLn a) ∧ zEv sc 90 19 [l0, l1] [.int (iv a x.toNatClampNeg), t0, t1] (zst p iv) Q) := zE_ald (Or.inl ⟨rfl, rfl⟩) dz90_18 ho
theorem dz90_19 : decode (z_code 90) 19 = .ok (.iastore, 1) := by decide +kernel
theorem u90_19 (ho : zO a 100) : zEv sc 90 19 [l0, l1] [.int x2, .int x1, .ref a] (zst p iv) Q ↔ (vp_in x1 (zLn a) ∧ zEv sc 90 20 [l0, l1] [] (zst p (w2 iv a x1.toNatClampNeg x2)) Q) := zE_ast (Or.inl ⟨rfl, rfl, rfl⟩) dz90_19 ho
theorem dz90_20 : decode (z_code 90) 20 = .ok (.iinc 1 1, 3) := by decide +kernel
theorem u90_20 : zEv sc 90 20 [l0, .int x] [] h Q ↔ zEv sc 90 23 [l0, .int (x + 1)] [] h Q := zE_iinc (ls2 := [l0, .int (x + 1)]) dz90_20 (by decide +kernel) rfl (by simp) rfl
theorem dz90_23 : decode (z_code 90) 23 = .ok (.goto (-21), 3) := by decide +kernel
theorem u90_23 : zEv sc 90 23 [l0, l1] [] h Q ↔ zEv sc 90 2 [l0, l1] [] h Q := zE_go 2 dz90_23 rfl
theorem dz90_26 : decode (z_code 90) 26 = .ok (.return_, 1) := by decide +kernel
theorem u90_26 : zEv sc 90 26 [l0, l1] [] h Q ↔ Q none h := zE_rv dz90_26 (by decide +kernel)
/-! method 91: FieldMixturesModel.returns()V -/
theorem dz91_0 : decode (z_code 91) 0 = .ok (.iconst 0, 1) := by decide +kernel
theorem u91_0 : zEv sc 91 0 [l0, l1] [] h Q ↔ zEv sc 91 1 [l0, l1] [.int 0] h Q := zE_iconst dz91_0 (by decide +kernel)
theorem dz91_1 : decode (z_code 91) 1 = .ok (.istore_n 1, 1) := by decide +kernel
theorem u91_1 : zEv sc 91 1 [l0, l1] [.int x] h Q ↔ zEv sc 91 2 [l0, .int x] [] h Q := zE_pure (q := (2, [l0, .int x], [])) dz91_1 rfl rfl rfl
theorem dz91_2 : decode (z_code 91) 2 = .ok (.iload_n 1, 1) := by decide +kernel
theorem u91_2 : zEv sc 91 2 [l0, .int x] [] h Q ↔ zEv sc 91 3 [l0, .int x] [.int x] h Q := zE_pure (q := (3, [l0, .int x], [.int x])) dz91_2 rfl rfl rfl
theorem dz91_3 : decode (z_code 91) 3 = .ok (.bipush 66, 2) := by decide +kernel
theorem u91_3 : zEv sc 91 3 [l0, l1] [t0] h Q ↔ zEv sc 91 5 [l0, l1] [.int 66, t0] h Q := zE_bipush dz91_3 (by decide +kernel)
theorem dz91_5 : decode (z_code 91) 5 = .ok (.if_icmp .ge 21, 3) := by decide +kernel
theorem u91_5 : zEv sc 91 5 [l0, l1] [.int x2, .int x1] h Q ↔ (if x2 ≤ x1 then zEv sc 91 26 [l0, l1] [] h Q else zEv sc 91 8 [l0, l1] [] h Q) := zE_icP (P := x2 ≤ x1) inferInstance 26 dz91_5 rfl rfl
theorem dz91_8 : decode (z_code 91) 8 = .ok (.aload_n 0, 1) := by decide +kernel
theorem u91_8 : zEv sc 91 8 [.ref a, l1] [] h Q ↔ zEv sc 91 9 [.ref a, l1] [.ref a] h Q := zE_pure (q := (9, [.ref a, l1], [.ref a])) dz91_8 rfl rfl rfl
theorem dz91_9 : decode (z_code 91) 9 = .ok (.getfield 7, 3) := by decide +kernel
theorem u91_9 (ho : zO a 10) : zEv sc 91 9 [l0, l1] [.ref a] (zst p iv) Q ↔ zRef (zRV p a 0) (fun j => zEv sc 91 12 [l0, l1] [.ref j] (zst p iv) Q) := zE_gfR dz91_9 (by decide +kernel : z_lk3 zFT (z_cls 91) 7 = some (10, 0, 0, 677)) (by decide +kernel) ho
theorem dz91_12 : decode (z_code 91) 12 = .ok (.iload_n 1, 1) := by decide +kernel
theorem u91_12 : zEv sc 91 12 [l0, .int x] [t0] h Q ↔ zEv sc 91 13 [l0, .int x] [.int x, t0] h Q := zE_pure (q := (13, [l0, .int x], [.int x, t0])) dz91_12 rfl rfl rfl
theorem dz91_13 : decode (z_code 91) 13 = .ok (.aload_n 0, 1) := by decide +kernel
theorem u91_13 : zEv sc 91 13 [.ref a, l1] [t0, t1] h Q ↔ zEv sc 91 14 [.ref a, l1] [.ref a, t0, t1] h Q := zE_pure (q := (14, [.ref a, l1], [.ref a, t0, t1])) dz91_13 rfl rfl rfl
theorem dz91_14 : decode (z_code 91) 14 = .ok (.getfield 13, 3) := by decide +kernel
theorem u91_14 (ho : zO a 10) : zEv sc 91 14 [l0, l1] [.ref a, t0, t1] (zst p iv) Q ↔ zRef (zRV p a 1) (fun j => zEv sc 91 17 [l0, l1] [.ref j, t0, t1] (zst p iv) Q) := zE_gfR dz91_14 (by decide +kernel : z_lk3 zFT (z_cls 91) 13 = some (10, 1, 0, 678)) (by decide +kernel) ho
theorem dz91_17 : decode (z_code 91) 17 = .ok (.iload_n 1, 1) := by decide +kernel
theorem u91_17 : zEv sc 91 17 [l0, .int x] [t0, t1, t2] h Q ↔ zEv sc 91 18 [l0, .int x] [.int x, t0, t1, t2] h Q := zE_pure (q := (18, [l0, .int x], [.int x, t0, t1, t2])) dz91_17 rfl rfl rfl
theorem dz91_18 : decode (z_code 91) 18 = .ok (.iaload, 1) := by decide +kernel
theorem u91_18 (ho : zO a 100) : zEv sc 91 18 [l0, l1] [.int x, .ref a, t0, t1] (zst p iv) Q ↔ (vp_in x (zLn a) ∧ zEv sc 91 19 [l0, l1] [.int (iv a x.toNatClampNeg), t0, t1] (zst p iv) Q) := zE_ald (Or.inl ⟨rfl, rfl⟩) dz91_18 ho
theorem dz91_19 : decode (z_code 91) 19 = .ok (.iastore, 1) := by decide +kernel
theorem u91_19 (ho : zO a 100) : zEv sc 91 19 [l0, l1] [.int x2, .int x1, .ref a] (zst p iv) Q ↔ (vp_in x1 (zLn a) ∧ zEv sc 91 20 [l0, l1] [] (zst p (w2 iv a x1.toNatClampNeg x2)) Q) := zE_ast (Or.inl ⟨rfl, rfl, rfl⟩) dz91_19 ho
theorem dz91_20 : decode (z_code 91) 20 = .ok (.iinc 1 1, 3) := by decide +kernel
theorem u91_20 : zEv sc 91 20 [l0, .int x] [] h Q ↔ zEv sc 91 23 [l0, .int (x + 1)] [] h Q := zE_iinc (ls2 := [l0, .int (x + 1)]) dz91_20 (by decide +kernel) rfl (by simp) rfl
theorem dz91_23 : decode (z_code 91) 23 = .ok (.goto (-21), 3) := by decide +kernel
theorem u91_23 : zEv sc 91 23 [l0, l1] [] h Q ↔ zEv sc 91 2 [l0, l1] [] h Q := zE_go 2 dz91_23 rfl
theorem dz91_26 : decode (z_code 91) 26 = .ok (.return_, 1) := by decide +kernel
theorem u91_26 : zEv sc 91 26 [l0, l1] [] h Q ↔ Q none h := zE_rv dz91_26 (by decide +kernel)
/-! method 92: FieldMixturesModel.acted(I)I -/
theorem dz92_0 : decode (z_code 92) 0 = .ok (.iload_n 1, 1) := by decide +kernel
theorem u92_0 : zEv sc 92 0 [l0, .int x, l2] [] h Q ↔ zEv sc 92 1 [l0, .int x, l2] [.int x] h Q := zE_pure (q := (1, [l0, .int x, l2], [.int x])) dz92_0 rfl rfl rfl
theorem dz92_1 : decode (z_code 92) 1 = .ok (.ldc 31, 2) := by decide +kernel
theorem u92_1 : zEv sc 92 1 [l0, l1, l2] [t0] h Q ↔ zEv sc 92 3 [l0, l1, l2] [.int (-1000001), t0] h Q := zE_ldc (by decide +kernel : z_lkK zKT (z_cls 92) 31 = some ((-1000001), 744)) dz92_1
theorem dz92_3 : decode (z_code 92) 3 = .ok (.if_icmp .gt 9, 3) := by decide +kernel
theorem u92_3 : zEv sc 92 3 [l0, l1, l2] [.int x2, .int x1] h Q ↔ (if x2 < x1 then zEv sc 92 12 [l0, l1, l2] [] h Q else zEv sc 92 6 [l0, l1, l2] [] h Q) := zE_icP (P := x2 < x1) inferInstance 12 dz92_3 rfl rfl
theorem dz92_6 : decode (z_code 92) 6 = .ok (.aload_n 0, 1) := by decide +kernel
theorem u92_6 : zEv sc 92 6 [.ref a, l1, l2] [] h Q ↔ zEv sc 92 7 [.ref a, l1, l2] [.ref a] h Q := zE_pure (q := (7, [.ref a, l1, l2], [.ref a])) dz92_6 rfl rfl rfl
theorem dz92_7 : decode (z_code 92) 7 = .ok (.invokevirtual 32, 3) := by decide +kernel
theorem u92_7 (ho : zO a 10) : zEv sc 92 7 [l0, l1, l2] [.ref a] (zst p iv) Q ↔ zEv sc 91 0 [.ref a, .null] [] (zst p iv) (fun r h9 => zEv sc 92 10 [l0, l1, l2] (r.toList ++ []) h9 Q) := zE_call (kd := 0) (na := 1) (nr := 0) (as := [.ref a]) (rest := []) (Or.inl ⟨rfl, rfl⟩) dz92_7 (by decide +kernel : z_lk2 zCT (z_cls 92) 32 = some (91, 0, 749)) (fun z => by cases z) rfl rfl rfl (by decide +kernel) rfl (Or.inr (zE_rc ho))
theorem dz92_10 : decode (z_code 92) 10 = .ok (.iload_n 1, 1) := by decide +kernel
theorem u92_10 : zEv sc 92 10 [l0, .int x, l2] [] h Q ↔ zEv sc 92 11 [l0, .int x, l2] [.int x] h Q := zE_pure (q := (11, [l0, .int x, l2], [.int x])) dz92_10 rfl rfl rfl
theorem dz92_11 : decode (z_code 92) 11 = .ok (.ireturn, 1) := by decide +kernel
theorem u92_11 : zEv sc 92 11 [l0, l1, l2] [.int x] h Q ↔ Q (some (.int x)) h := zE_ri dz92_11 (by decide +kernel)
theorem dz92_12 : decode (z_code 92) 12 = .ok (.aload_n 0, 1) := by decide +kernel
theorem u92_12 : zEv sc 92 12 [.ref a, l1, l2] [] h Q ↔ zEv sc 92 13 [.ref a, l1, l2] [.ref a] h Q := zE_pure (q := (13, [.ref a, l1, l2], [.ref a])) dz92_12 rfl rfl rfl
theorem dz92_13 : decode (z_code 92) 13 = .ok (.getfield 35, 3) := by decide +kernel
theorem u92_13 (ho : zO a 10) : zEv sc 92 13 [l0, l1, l2] [.ref a] (zst p iv) Q ↔ zEv sc 92 16 [l0, l1, l2] [.int (iv a 3)] (zst p iv) Q := zE_gfI dz92_13 (by decide +kernel : z_lk3 zFT (z_cls 92) 35 = some (10, 3, 0, 680)) (by decide +kernel) ho
theorem dz92_16 : decode (z_code 92) 16 = .ok (.iconst 4, 1) := by decide +kernel
theorem u92_16 : zEv sc 92 16 [l0, l1, l2] [t0] h Q ↔ zEv sc 92 17 [l0, l1, l2] [.int 4, t0] h Q := zE_iconst dz92_16 (by decide +kernel)
theorem dz92_17 : decode (z_code 92) 17 = .ok (.if_icmp .ne 43, 3) := by decide +kernel
theorem u92_17 : zEv sc 92 17 [l0, l1, l2] [.int x2, .int x1] h Q ↔ (if ¬ x1 = x2 then zEv sc 92 60 [l0, l1, l2] [] h Q else zEv sc 92 20 [l0, l1, l2] [] h Q) := zE_icP (P := ¬ x1 = x2) inferInstance 60 dz92_17 rfl rfl
theorem dz92_20 : decode (z_code 92) 20 = .ok (.iconst 0, 1) := by decide +kernel
theorem u92_20 : zEv sc 92 20 [l0, l1, l2] [] h Q ↔ zEv sc 92 21 [l0, l1, l2] [.int 0] h Q := zE_iconst dz92_20 (by decide +kernel)
theorem dz92_21 : decode (z_code 92) 21 = .ok (.istore_n 2, 1) := by decide +kernel
theorem u92_21 : zEv sc 92 21 [l0, l1, l2] [.int x] h Q ↔ zEv sc 92 22 [l0, l1, .int x] [] h Q := zE_pure (q := (22, [l0, l1, .int x], [])) dz92_21 rfl rfl rfl
theorem dz92_22 : decode (z_code 92) 22 = .ok (.iload_n 2, 1) := by decide +kernel
theorem u92_22 : zEv sc 92 22 [l0, l1, .int x] [] h Q ↔ zEv sc 92 23 [l0, l1, .int x] [.int x] h Q := zE_pure (q := (23, [l0, l1, .int x], [.int x])) dz92_22 rfl rfl rfl
theorem dz92_23 : decode (z_code 92) 23 = .ok (.sipush 198, 3) := by decide +kernel
theorem u92_23 : zEv sc 92 23 [l0, l1, l2] [t0] h Q ↔ zEv sc 92 26 [l0, l1, l2] [.int 198, t0] h Q := zE_sipush dz92_23 (by decide +kernel)
theorem dz92_26 : decode (z_code 92) 26 = .ok (.if_icmp .ge 24, 3) := by decide +kernel
theorem u92_26 : zEv sc 92 26 [l0, l1, l2] [.int x2, .int x1] h Q ↔ (if x2 ≤ x1 then zEv sc 92 50 [l0, l1, l2] [] h Q else zEv sc 92 29 [l0, l1, l2] [] h Q) := zE_icP (P := x2 ≤ x1) inferInstance 50 dz92_26 rfl rfl
theorem dz92_29 : decode (z_code 92) 29 = .ok (.aload_n 0, 1) := by decide +kernel
theorem u92_29 : zEv sc 92 29 [.ref a, l1, l2] [] h Q ↔ zEv sc 92 30 [.ref a, l1, l2] [.ref a] h Q := zE_pure (q := (30, [.ref a, l1, l2], [.ref a])) dz92_29 rfl rfl rfl
theorem dz92_30 : decode (z_code 92) 30 = .ok (.getfield 16, 3) := by decide +kernel
theorem u92_30 (ho : zO a 10) : zEv sc 92 30 [l0, l1, l2] [.ref a] (zst p iv) Q ↔ zRef (zRV p a 2) (fun j => zEv sc 92 33 [l0, l1, l2] [.ref j] (zst p iv) Q) := zE_gfR dz92_30 (by decide +kernel : z_lk3 zFT (z_cls 92) 16 = some (10, 2, 0, 679)) (by decide +kernel) ho
theorem dz92_33 : decode (z_code 92) 33 = .ok (.iload_n 2, 1) := by decide +kernel
theorem u92_33 : zEv sc 92 33 [l0, l1, .int x] [t0] h Q ↔ zEv sc 92 34 [l0, l1, .int x] [.int x, t0] h Q := zE_pure (q := (34, [l0, l1, .int x], [.int x, t0])) dz92_33 rfl rfl rfl
theorem dz92_34 : decode (z_code 92) 34 = .ok (.aload_n 0, 1) := by decide +kernel
theorem u92_34 : zEv sc 92 34 [.ref a, l1, l2] [t0, t1] h Q ↔ zEv sc 92 35 [.ref a, l1, l2] [.ref a, t0, t1] h Q := zE_pure (q := (35, [.ref a, l1, l2], [.ref a, t0, t1])) dz92_34 rfl rfl rfl
theorem dz92_35 : decode (z_code 92) 35 = .ok (.getfield 16, 3) := by decide +kernel
theorem u92_35 (ho : zO a 10) : zEv sc 92 35 [l0, l1, l2] [.ref a, t0, t1] (zst p iv) Q ↔ zRef (zRV p a 2) (fun j => zEv sc 92 38 [l0, l1, l2] [.ref j, t0, t1] (zst p iv) Q) := zE_gfR dz92_35 (by decide +kernel : z_lk3 zFT (z_cls 92) 16 = some (10, 2, 0, 679)) (by decide +kernel) ho
theorem dz92_38 : decode (z_code 92) 38 = .ok (.iload_n 2, 1) := by decide +kernel
theorem u92_38 : zEv sc 92 38 [l0, l1, .int x] [t0, t1, t2] h Q ↔ zEv sc 92 39 [l0, l1, .int x] [.int x, t0, t1, t2] h Q := zE_pure (q := (39, [l0, l1, .int x], [.int x, t0, t1, t2])) dz92_38 rfl rfl rfl
theorem dz92_39 : decode (z_code 92) 39 = .ok (.bipush 66, 2) := by decide +kernel
theorem u92_39 : zEv sc 92 39 [l0, l1, l2] [t0, t1, t2, t3] h Q ↔ zEv sc 92 41 [l0, l1, l2] [.int 66, t0, t1, t2, t3] h Q := zE_bipush dz92_39 (by decide +kernel)
theorem dz92_41 : decode (z_code 92) 41 = .ok (.iadd, 1) := by decide +kernel
theorem u92_41 : zEv sc 92 41 [l0, l1, l2] [.int x2, .int x1, t0, t1, t2] h Q ↔ zEv sc 92 42 [l0, l1, l2] [.int (x1 + x2), t0, t1, t2] h Q := zE_pure (q := (42, [l0, l1, l2], [.int (x1 + x2), t0, t1, t2])) dz92_41 rfl rfl rfl
theorem dz92_42 : decode (z_code 92) 42 = .ok (.iaload, 1) := by decide +kernel
theorem u92_42 (ho : zO a 100) : zEv sc 92 42 [l0, l1, l2] [.int x, .ref a, t0, t1] (zst p iv) Q ↔ (vp_in x (zLn a) ∧ zEv sc 92 43 [l0, l1, l2] [.int (iv a x.toNatClampNeg), t0, t1] (zst p iv) Q) := zE_ald (Or.inl ⟨rfl, rfl⟩) dz92_42 ho
theorem dz92_43 : decode (z_code 92) 43 = .ok (.iastore, 1) := by decide +kernel
theorem u92_43 (ho : zO a 100) : zEv sc 92 43 [l0, l1, l2] [.int x2, .int x1, .ref a] (zst p iv) Q ↔ (vp_in x1 (zLn a) ∧ zEv sc 92 44 [l0, l1, l2] [] (zst p (w2 iv a x1.toNatClampNeg x2)) Q) := zE_ast (Or.inl ⟨rfl, rfl, rfl⟩) dz92_43 ho
theorem dz92_44 : decode (z_code 92) 44 = .ok (.iinc 2 1, 3) := by decide +kernel
theorem u92_44 : zEv sc 92 44 [l0, l1, .int x] [] h Q ↔ zEv sc 92 47 [l0, l1, .int (x + 1)] [] h Q := zE_iinc (ls2 := [l0, l1, .int (x + 1)]) dz92_44 (by decide +kernel) rfl (by simp) rfl
theorem dz92_47 : decode (z_code 92) 47 = .ok (.goto (-25), 3) := by decide +kernel
theorem u92_47 : zEv sc 92 47 [l0, l1, l2] [] h Q ↔ zEv sc 92 22 [l0, l1, l2] [] h Q := zE_go 22 dz92_47 rfl
theorem dz92_50 : decode (z_code 92) 50 = .ok (.aload_n 0, 1) := by decide +kernel
theorem u92_50 : zEv sc 92 50 [.ref a, l1, l2] [] h Q ↔ zEv sc 92 51 [.ref a, l1, l2] [.ref a] h Q := zE_pure (q := (51, [.ref a, l1, l2], [.ref a])) dz92_50 rfl rfl rfl
theorem dz92_51 : decode (z_code 92) 51 = .ok (.dup, 1) := by decide +kernel
theorem u92_51 : zEv sc 92 51 [l0, l1, l2] [v1] h Q ↔ zEv sc 92 52 [l0, l1, l2] [v1, v1] h Q := zE_pure (q := (52, [l0, l1, l2], [v1, v1])) dz92_51 rfl rfl rfl
theorem dz92_52 : decode (z_code 92) 52 = .ok (.getfield 35, 3) := by decide +kernel
theorem u92_52 (ho : zO a 10) : zEv sc 92 52 [l0, l1, l2] [.ref a, t0] (zst p iv) Q ↔ zEv sc 92 55 [l0, l1, l2] [.int (iv a 3), t0] (zst p iv) Q := zE_gfI dz92_52 (by decide +kernel : z_lk3 zFT (z_cls 92) 35 = some (10, 3, 0, 680)) (by decide +kernel) ho
theorem dz92_55 : decode (z_code 92) 55 = .ok (.iconst 1, 1) := by decide +kernel
theorem u92_55 : zEv sc 92 55 [l0, l1, l2] [t0, t1] h Q ↔ zEv sc 92 56 [l0, l1, l2] [.int 1, t0, t1] h Q := zE_iconst dz92_55 (by decide +kernel)
theorem dz92_56 : decode (z_code 92) 56 = .ok (.isub, 1) := by decide +kernel
theorem u92_56 : zEv sc 92 56 [l0, l1, l2] [.int x2, .int x1, t0] h Q ↔ zEv sc 92 57 [l0, l1, l2] [.int (x1 - x2), t0] h Q := zE_pure (q := (57, [l0, l1, l2], [.int (x1 - x2), t0])) dz92_56 rfl rfl rfl
theorem dz92_57 : decode (z_code 92) 57 = .ok (.putfield 35, 3) := by decide +kernel
theorem u92_57 (ho : zO a 10) : zEv sc 92 57 [l0, l1, l2] [.int x, .ref a] (zst p iv) Q ↔ zEv sc 92 60 [l0, l1, l2] [] (zst p (w2 iv a 3 x)) Q := zE_pfI dz92_57 (by decide +kernel : z_lk3 zFT (z_cls 92) 35 = some (10, 3, 0, 680)) (by decide +kernel) (by decide +kernel) (by decide +kernel) ho
theorem dz92_60 : decode (z_code 92) 60 = .ok (.iconst 0, 1) := by decide +kernel
theorem u92_60 : zEv sc 92 60 [l0, l1, l2] [] h Q ↔ zEv sc 92 61 [l0, l1, l2] [.int 0] h Q := zE_iconst dz92_60 (by decide +kernel)
theorem dz92_61 : decode (z_code 92) 61 = .ok (.istore_n 2, 1) := by decide +kernel
theorem u92_61 : zEv sc 92 61 [l0, l1, l2] [.int x] h Q ↔ zEv sc 92 62 [l0, l1, .int x] [] h Q := zE_pure (q := (62, [l0, l1, .int x], [])) dz92_61 rfl rfl rfl
theorem dz92_62 : decode (z_code 92) 62 = .ok (.iload_n 2, 1) := by decide +kernel
theorem u92_62 : zEv sc 92 62 [l0, l1, .int x] [] h Q ↔ zEv sc 92 63 [l0, l1, .int x] [.int x] h Q := zE_pure (q := (63, [l0, l1, .int x], [.int x])) dz92_62 rfl rfl rfl
theorem dz92_63 : decode (z_code 92) 63 = .ok (.bipush 66, 2) := by decide +kernel
theorem u92_63 : zEv sc 92 63 [l0, l1, l2] [t0] h Q ↔ zEv sc 92 65 [l0, l1, l2] [.int 66, t0] h Q := zE_bipush dz92_63 (by decide +kernel)
theorem dz92_65 : decode (z_code 92) 65 = .ok (.if_icmp .ge 29, 3) := by decide +kernel
theorem u92_65 : zEv sc 92 65 [l0, l1, l2] [.int x2, .int x1] h Q ↔ (if x2 ≤ x1 then zEv sc 92 94 [l0, l1, l2] [] h Q else zEv sc 92 68 [l0, l1, l2] [] h Q) := zE_icP (P := x2 ≤ x1) inferInstance 94 dz92_65 rfl rfl
theorem dz92_68 : decode (z_code 92) 68 = .ok (.aload_n 0, 1) := by decide +kernel
theorem u92_68 : zEv sc 92 68 [.ref a, l1, l2] [] h Q ↔ zEv sc 92 69 [.ref a, l1, l2] [.ref a] h Q := zE_pure (q := (69, [.ref a, l1, l2], [.ref a])) dz92_68 rfl rfl rfl
theorem dz92_69 : decode (z_code 92) 69 = .ok (.getfield 16, 3) := by decide +kernel
theorem u92_69 (ho : zO a 10) : zEv sc 92 69 [l0, l1, l2] [.ref a] (zst p iv) Q ↔ zRef (zRV p a 2) (fun j => zEv sc 92 72 [l0, l1, l2] [.ref j] (zst p iv) Q) := zE_gfR dz92_69 (by decide +kernel : z_lk3 zFT (z_cls 92) 16 = some (10, 2, 0, 679)) (by decide +kernel) ho
theorem dz92_72 : decode (z_code 92) 72 = .ok (.bipush 66, 2) := by decide +kernel
theorem u92_72 : zEv sc 92 72 [l0, l1, l2] [t0] h Q ↔ zEv sc 92 74 [l0, l1, l2] [.int 66, t0] h Q := zE_bipush dz92_72 (by decide +kernel)
theorem dz92_74 : decode (z_code 92) 74 = .ok (.aload_n 0, 1) := by decide +kernel
theorem u92_74 : zEv sc 92 74 [.ref a, l1, l2] [t0, t1] h Q ↔ zEv sc 92 75 [.ref a, l1, l2] [.ref a, t0, t1] h Q := zE_pure (q := (75, [.ref a, l1, l2], [.ref a, t0, t1])) dz92_74 rfl rfl rfl
theorem dz92_75 : decode (z_code 92) 75 = .ok (.getfield 35, 3) := by decide +kernel
theorem u92_75 (ho : zO a 10) : zEv sc 92 75 [l0, l1, l2] [.ref a, t0, t1] (zst p iv) Q ↔ zEv sc 92 78 [l0, l1, l2] [.int (iv a 3), t0, t1] (zst p iv) Q := zE_gfI dz92_75 (by decide +kernel : z_lk3 zFT (z_cls 92) 35 = some (10, 3, 0, 680)) (by decide +kernel) ho
theorem dz92_78 : decode (z_code 92) 78 = .ok (.imul, 1) := by decide +kernel
theorem u92_78 : zEv sc 92 78 [l0, l1, l2] [.int x2, .int x1, t0] h Q ↔ zEv sc 92 79 [l0, l1, l2] [.int (x1 * x2), t0] h Q := zE_pure (q := (79, [l0, l1, l2], [.int (x1 * x2), t0])) dz92_78 rfl rfl rfl
theorem dz92_79 : decode (z_code 92) 79 = .ok (.iload_n 2, 1) := by decide +kernel
theorem u92_79 : zEv sc 92 79 [l0, l1, .int x] [t0, t1] h Q ↔ zEv sc 92 80 [l0, l1, .int x] [.int x, t0, t1] h Q := zE_pure (q := (80, [l0, l1, .int x], [.int x, t0, t1])) dz92_79 rfl rfl rfl
theorem dz92_80 : decode (z_code 92) 80 = .ok (.iadd, 1) := by decide +kernel
theorem u92_80 : zEv sc 92 80 [l0, l1, l2] [.int x2, .int x1, t0] h Q ↔ zEv sc 92 81 [l0, l1, l2] [.int (x1 + x2), t0] h Q := zE_pure (q := (81, [l0, l1, l2], [.int (x1 + x2), t0])) dz92_80 rfl rfl rfl
theorem dz92_81 : decode (z_code 92) 81 = .ok (.aload_n 0, 1) := by decide +kernel
theorem u92_81 : zEv sc 92 81 [.ref a, l1, l2] [t0, t1] h Q ↔ zEv sc 92 82 [.ref a, l1, l2] [.ref a, t0, t1] h Q := zE_pure (q := (82, [.ref a, l1, l2], [.ref a, t0, t1])) dz92_81 rfl rfl rfl
theorem dz92_82 : decode (z_code 92) 82 = .ok (.getfield 13, 3) := by decide +kernel
theorem u92_82 (ho : zO a 10) : zEv sc 92 82 [l0, l1, l2] [.ref a, t0, t1] (zst p iv) Q ↔ zRef (zRV p a 1) (fun j => zEv sc 92 85 [l0, l1, l2] [.ref j, t0, t1] (zst p iv) Q) := zE_gfR dz92_82 (by decide +kernel : z_lk3 zFT (z_cls 92) 13 = some (10, 1, 0, 678)) (by decide +kernel) ho
theorem dz92_85 : decode (z_code 92) 85 = .ok (.iload_n 2, 1) := by decide +kernel
theorem u92_85 : zEv sc 92 85 [l0, l1, .int x] [t0, t1, t2] h Q ↔ zEv sc 92 86 [l0, l1, .int x] [.int x, t0, t1, t2] h Q := zE_pure (q := (86, [l0, l1, .int x], [.int x, t0, t1, t2])) dz92_85 rfl rfl rfl
theorem dz92_86 : decode (z_code 92) 86 = .ok (.iaload, 1) := by decide +kernel
theorem u92_86 (ho : zO a 100) : zEv sc 92 86 [l0, l1, l2] [.int x, .ref a, t0, t1] (zst p iv) Q ↔ (vp_in x (zLn a) ∧ zEv sc 92 87 [l0, l1, l2] [.int (iv a x.toNatClampNeg), t0, t1] (zst p iv) Q) := zE_ald (Or.inl ⟨rfl, rfl⟩) dz92_86 ho
theorem dz92_87 : decode (z_code 92) 87 = .ok (.iastore, 1) := by decide +kernel
theorem u92_87 (ho : zO a 100) : zEv sc 92 87 [l0, l1, l2] [.int x2, .int x1, .ref a] (zst p iv) Q ↔ (vp_in x1 (zLn a) ∧ zEv sc 92 88 [l0, l1, l2] [] (zst p (w2 iv a x1.toNatClampNeg x2)) Q) := zE_ast (Or.inl ⟨rfl, rfl, rfl⟩) dz92_87 ho
theorem dz92_88 : decode (z_code 92) 88 = .ok (.iinc 2 1, 3) := by decide +kernel
theorem u92_88 : zEv sc 92 88 [l0, l1, .int x] [] h Q ↔ zEv sc 92 91 [l0, l1, .int (x + 1)] [] h Q := zE_iinc (ls2 := [l0, l1, .int (x + 1)]) dz92_88 (by decide +kernel) rfl (by simp) rfl
theorem dz92_91 : decode (z_code 92) 91 = .ok (.goto (-29), 3) := by decide +kernel
theorem u92_91 : zEv sc 92 91 [l0, l1, l2] [] h Q ↔ zEv sc 92 62 [l0, l1, l2] [] h Q := zE_go 62 dz92_91 rfl
theorem dz92_94 : decode (z_code 92) 94 = .ok (.aload_n 0, 1) := by decide +kernel
theorem u92_94 : zEv sc 92 94 [.ref a, l1, l2] [] h Q ↔ zEv sc 92 95 [.ref a, l1, l2] [.ref a] h Q := zE_pure (q := (95, [.ref a, l1, l2], [.ref a])) dz92_94 rfl rfl rfl
theorem dz92_95 : decode (z_code 92) 95 = .ok (.dup, 1) := by decide +kernel
theorem u92_95 : zEv sc 92 95 [l0, l1, l2] [v1] h Q ↔ zEv sc 92 96 [l0, l1, l2] [v1, v1] h Q := zE_pure (q := (96, [l0, l1, l2], [v1, v1])) dz92_95 rfl rfl rfl
theorem dz92_96 : decode (z_code 92) 96 = .ok (.getfield 35, 3) := by decide +kernel
theorem u92_96 (ho : zO a 10) : zEv sc 92 96 [l0, l1, l2] [.ref a, t0] (zst p iv) Q ↔ zEv sc 92 99 [l0, l1, l2] [.int (iv a 3), t0] (zst p iv) Q := zE_gfI dz92_96 (by decide +kernel : z_lk3 zFT (z_cls 92) 35 = some (10, 3, 0, 680)) (by decide +kernel) ho
theorem dz92_99 : decode (z_code 92) 99 = .ok (.iconst 1, 1) := by decide +kernel
theorem u92_99 : zEv sc 92 99 [l0, l1, l2] [t0, t1] h Q ↔ zEv sc 92 100 [l0, l1, l2] [.int 1, t0, t1] h Q := zE_iconst dz92_99 (by decide +kernel)
theorem dz92_100 : decode (z_code 92) 100 = .ok (.iadd, 1) := by decide +kernel
theorem u92_100 : zEv sc 92 100 [l0, l1, l2] [.int x2, .int x1, t0] h Q ↔ zEv sc 92 101 [l0, l1, l2] [.int (x1 + x2), t0] h Q := zE_pure (q := (101, [l0, l1, l2], [.int (x1 + x2), t0])) dz92_100 rfl rfl rfl
theorem dz92_101 : decode (z_code 92) 101 = .ok (.putfield 35, 3) := by decide +kernel
theorem u92_101 (ho : zO a 10) : zEv sc 92 101 [l0, l1, l2] [.int x, .ref a] (zst p iv) Q ↔ zEv sc 92 104 [l0, l1, l2] [] (zst p (w2 iv a 3 x)) Q := zE_pfI dz92_101 (by decide +kernel : z_lk3 zFT (z_cls 92) 35 = some (10, 3, 0, 680)) (by decide +kernel) (by decide +kernel) (by decide +kernel) ho
theorem dz92_104 : decode (z_code 92) 104 = .ok (.iload_n 1, 1) := by decide +kernel
theorem u92_104 : zEv sc 92 104 [l0, .int x, l2] [] h Q ↔ zEv sc 92 105 [l0, .int x, l2] [.int x] h Q := zE_pure (q := (105, [l0, .int x, l2], [.int x])) dz92_104 rfl rfl rfl
theorem dz92_105 : decode (z_code 92) 105 = .ok (.ireturn, 1) := by decide +kernel
theorem u92_105 : zEv sc 92 105 [l0, l1, l2] [.int x] h Q ↔ Q (some (.int x)) h := zE_ri dz92_105 (by decide +kernel)
/-! method 93: FieldMixturesModel.isPlayer(I)Z -/
theorem dz93_0 : decode (z_code 93) 0 = .ok (.iload_n 0, 1) := by decide +kernel
theorem u93_0 : zEv sc 93 0 [.int x] [] h Q ↔ zEv sc 93 1 [.int x] [.int x] h Q := zE_pure (q := (1, [.int x], [.int x])) dz93_0 rfl rfl rfl
theorem dz93_1 : decode (z_code 93) 1 = .ok (.iconst 0, 1) := by decide +kernel
theorem u93_1 : zEv sc 93 1 [l0] [t0] h Q ↔ zEv sc 93 2 [l0] [.int 0, t0] h Q := zE_iconst dz93_1 (by decide +kernel)
theorem dz93_2 : decode (z_code 93) 2 = .ok (.iconst 1, 1) := by decide +kernel
theorem u93_2 : zEv sc 93 2 [l0] [t0, t1] h Q ↔ zEv sc 93 3 [l0] [.int 1, t0, t1] h Q := zE_iconst dz93_2 (by decide +kernel)
theorem dz93_3 : decode (z_code 93) 3 = .ok (.invokestatic 39, 3) := by decide +kernel
theorem u93_3 : zEv sc 93 3 [l0] [.int z2, .int z1, .int z0] h Q ↔ zEv sc 89 0 [.int z0, .int z1, .int z2] [] h (fun r h9 => zEv sc 93 6 [l0] (r.toList ++ []) h9 Q) := zE_call (kd := 1) (na := 3) (nr := 0) (as := [.int z0, .int z1, .int z2]) (rest := []) (Or.inr ⟨rfl, rfl⟩) dz93_3 (by decide +kernel : z_lk2 zCT (z_cls 93) 39 = some (89, 0, 734)) (fun _ => by decide +kernel) rfl rfl rfl (by decide +kernel) rfl (Or.inl rfl)
theorem dz93_6 : decode (z_code 93) 6 = .ok (.ireturn, 1) := by decide +kernel
theorem u93_6 : zEv sc 93 6 [l0] [.int x] h Q ↔ ((x = 0 ∨ x = 1) ∧ Q (some (.int x)) h) := zE_rz dz93_6 (by decide +kernel)
/-! method 94: FieldMixturesModel.isField(I)Z -/
theorem dz94_0 : decode (z_code 94) 0 = .ok (.iload_n 1, 1) := by decide +kernel
theorem u94_0 : zEv sc 94 0 [l0, .int x] [] h Q ↔ zEv sc 94 1 [l0, .int x] [.int x] h Q := zE_pure (q := (1, [l0, .int x], [.int x])) dz94_0 rfl rfl rfl
theorem dz94_1 : decode (z_code 94) 1 = .ok (.iconst 0, 1) := by decide +kernel
theorem u94_1 : zEv sc 94 1 [l0, l1] [t0] h Q ↔ zEv sc 94 2 [l0, l1] [.int 0, t0] h Q := zE_iconst dz94_1 (by decide +kernel)
theorem dz94_2 : decode (z_code 94) 2 = .ok (.aload_n 0, 1) := by decide +kernel
theorem u94_2 : zEv sc 94 2 [.ref a, l1] [t0, t1] h Q ↔ zEv sc 94 3 [.ref a, l1] [.ref a, t0, t1] h Q := zE_pure (q := (3, [.ref a, l1], [.ref a, t0, t1])) dz94_2 rfl rfl rfl
theorem dz94_3 : decode (z_code 94) 3 = .ok (.getfield 7, 3) := by decide +kernel
theorem u94_3 (ho : zO a 10) : zEv sc 94 3 [l0, l1] [.ref a, t0, t1] (zst p iv) Q ↔ zRef (zRV p a 0) (fun j => zEv sc 94 6 [l0, l1] [.ref j, t0, t1] (zst p iv) Q) := zE_gfR dz94_3 (by decide +kernel : z_lk3 zFT (z_cls 94) 7 = some (10, 0, 0, 677)) (by decide +kernel) ho
theorem dz94_6 : decode (z_code 94) 6 = .ok (.iconst 0, 1) := by decide +kernel
theorem u94_6 : zEv sc 94 6 [l0, l1] [t0, t1, t2] h Q ↔ zEv sc 94 7 [l0, l1] [.int 0, t0, t1, t2] h Q := zE_iconst dz94_6 (by decide +kernel)
theorem dz94_7 : decode (z_code 94) 7 = .ok (.iaload, 1) := by decide +kernel
theorem u94_7 (ho : zO a 100) : zEv sc 94 7 [l0, l1] [.int x, .ref a, t0, t1] (zst p iv) Q ↔ (vp_in x (zLn a) ∧ zEv sc 94 8 [l0, l1] [.int (iv a x.toNatClampNeg), t0, t1] (zst p iv) Q) := zE_ald (Or.inl ⟨rfl, rfl⟩) dz94_7 ho
theorem dz94_8 : decode (z_code 94) 8 = .ok (.iconst 1, 1) := by decide +kernel
theorem u94_8 : zEv sc 94 8 [l0, l1] [t0, t1, t2] h Q ↔ zEv sc 94 9 [l0, l1] [.int 1, t0, t1, t2] h Q := zE_iconst dz94_8 (by decide +kernel)
theorem dz94_9 : decode (z_code 94) 9 = .ok (.isub, 1) := by decide +kernel
theorem u94_9 : zEv sc 94 9 [l0, l1] [.int x2, .int x1, t0, t1] h Q ↔ zEv sc 94 10 [l0, l1] [.int (x1 - x2), t0, t1] h Q := zE_pure (q := (10, [l0, l1], [.int (x1 - x2), t0, t1])) dz94_9 rfl rfl rfl
theorem dz94_10 : decode (z_code 94) 10 = .ok (.invokestatic 39, 3) := by decide +kernel
theorem u94_10 : zEv sc 94 10 [l0, l1] [.int z2, .int z1, .int z0] h Q ↔ zEv sc 89 0 [.int z0, .int z1, .int z2] [] h (fun r h9 => zEv sc 94 13 [l0, l1] (r.toList ++ []) h9 Q) := zE_call (kd := 1) (na := 3) (nr := 0) (as := [.int z0, .int z1, .int z2]) (rest := []) (Or.inr ⟨rfl, rfl⟩) dz94_10 (by decide +kernel : z_lk2 zCT (z_cls 94) 39 = some (89, 0, 734)) (fun _ => by decide +kernel) rfl rfl rfl (by decide +kernel) rfl (Or.inl rfl)
theorem dz94_13 : decode (z_code 94) 13 = .ok (.ireturn, 1) := by decide +kernel
theorem u94_13 : zEv sc 94 13 [l0, l1] [.int x] h Q ↔ ((x = 0 ∨ x = 1) ∧ Q (some (.int x)) h) := zE_rz dz94_13 (by decide +kernel)
/-! method 95: FieldMixturesModel.amount(II)I -/
theorem dz95_0 : decode (z_code 95) 0 = .ok (.iload_n 1, 1) := by decide +kernel
theorem u95_0 : zEv sc 95 0 [l0, .int x, l2, l3, l4] [] h Q ↔ zEv sc 95 1 [l0, .int x, l2, l3, l4] [.int x] h Q := zE_pure (q := (1, [l0, .int x, l2, l3, l4], [.int x])) dz95_0 rfl rfl rfl
theorem dz95_1 : decode (z_code 95) 1 = .ok (.istore_n 3, 1) := by decide +kernel
theorem u95_1 : zEv sc 95 1 [l0, l1, l2, l3, l4] [.int x] h Q ↔ zEv sc 95 2 [l0, l1, l2, .int x, l4] [] h Q := zE_pure (q := (2, [l0, l1, l2, .int x, l4], [])) dz95_1 rfl rfl rfl
theorem dz95_2 : decode (z_code 95) 2 = .ok (.aload_n 0, 1) := by decide +kernel
theorem u95_2 : zEv sc 95 2 [.ref a, l1, l2, l3, l4] [] h Q ↔ zEv sc 95 3 [.ref a, l1, l2, l3, l4] [.ref a] h Q := zE_pure (q := (3, [.ref a, l1, l2, l3, l4], [.ref a])) dz95_2 rfl rfl rfl
theorem dz95_3 : decode (z_code 95) 3 = .ok (.getfield 7, 3) := by decide +kernel
theorem u95_3 (ho : zO a 10) : zEv sc 95 3 [l0, l1, l2, l3, l4] [.ref a] (zst p iv) Q ↔ zRef (zRV p a 0) (fun j => zEv sc 95 6 [l0, l1, l2, l3, l4] [.ref j] (zst p iv) Q) := zE_gfR dz95_3 (by decide +kernel : z_lk3 zFT (z_cls 95) 7 = some (10, 0, 0, 677)) (by decide +kernel) ho
theorem dz95_6 : decode (z_code 95) 6 = .ok (.iconst 0, 1) := by decide +kernel
theorem u95_6 : zEv sc 95 6 [l0, l1, l2, l3, l4] [t0] h Q ↔ zEv sc 95 7 [l0, l1, l2, l3, l4] [.int 0, t0] h Q := zE_iconst dz95_6 (by decide +kernel)
theorem dz95_7 : decode (z_code 95) 7 = .ok (.iaload, 1) := by decide +kernel
theorem u95_7 (ho : zO a 100) : zEv sc 95 7 [l0, l1, l2, l3, l4] [.int x, .ref a] (zst p iv) Q ↔ (vp_in x (zLn a) ∧ zEv sc 95 8 [l0, l1, l2, l3, l4] [.int (iv a x.toNatClampNeg)] (zst p iv) Q) := zE_ald (Or.inl ⟨rfl, rfl⟩) dz95_7 ho
theorem dz95_8 : decode (z_code 95) 8 = .ok (.iconst 1, 1) := by decide +kernel
theorem u95_8 : zEv sc 95 8 [l0, l1, l2, l3, l4] [t0] h Q ↔ zEv sc 95 9 [l0, l1, l2, l3, l4] [.int 1, t0] h Q := zE_iconst dz95_8 (by decide +kernel)
theorem dz95_9 : decode (z_code 95) 9 = .ok (.isub, 1) := by decide +kernel
theorem u95_9 : zEv sc 95 9 [l0, l1, l2, l3, l4] [.int x2, .int x1] h Q ↔ zEv sc 95 10 [l0, l1, l2, l3, l4] [.int (x1 - x2)] h Q := zE_pure (q := (10, [l0, l1, l2, l3, l4], [.int (x1 - x2)])) dz95_9 rfl rfl rfl
theorem dz95_10 : decode (z_code 95) 10 = .ok (.istore 4, 2) := by decide +kernel
theorem u95_10 : zEv sc 95 10 [l0, l1, l2, l3, l4] [.int x] h Q ↔ zEv sc 95 12 [l0, l1, l2, l3, .int x] [] h Q := zE_pure (q := (12, [l0, l1, l2, l3, .int x], [])) dz95_10 rfl rfl rfl
theorem dz95_12 : decode (z_code 95) 12 = .ok (.iload 4, 2) := by decide +kernel
theorem u95_12 : zEv sc 95 12 [l0, l1, l2, l3, .int x] [] h Q ↔ zEv sc 95 14 [l0, l1, l2, l3, .int x] [.int x] h Q := zE_pure (q := (14, [l0, l1, l2, l3, .int x], [.int x])) dz95_12 rfl rfl rfl
theorem dz95_14 : decode (z_code 95) 14 = .ok (.iload_n 2, 1) := by decide +kernel
theorem u95_14 : zEv sc 95 14 [l0, l1, .int x, l3, l4] [t0] h Q ↔ zEv sc 95 15 [l0, l1, .int x, l3, l4] [.int x, t0] h Q := zE_pure (q := (15, [l0, l1, .int x, l3, l4], [.int x, t0])) dz95_14 rfl rfl rfl
theorem dz95_15 : decode (z_code 95) 15 = .ok (.if_icmp .le 14, 3) := by decide +kernel
theorem u95_15 : zEv sc 95 15 [l0, l1, l2, l3, l4] [.int x2, .int x1] h Q ↔ (if x1 ≤ x2 then zEv sc 95 29 [l0, l1, l2, l3, l4] [] h Q else zEv sc 95 18 [l0, l1, l2, l3, l4] [] h Q) := zE_icP (P := x1 ≤ x2) inferInstance 29 dz95_15 rfl rfl
theorem dz95_18 : decode (z_code 95) 18 = .ok (.iload_n 3, 1) := by decide +kernel
theorem u95_18 : zEv sc 95 18 [l0, l1, l2, .int x, l4] [] h Q ↔ zEv sc 95 19 [l0, l1, l2, .int x, l4] [.int x] h Q := zE_pure (q := (19, [l0, l1, l2, .int x, l4], [.int x])) dz95_18 rfl rfl rfl
theorem dz95_19 : decode (z_code 95) 19 = .ok (.bipush 10, 2) := by decide +kernel
theorem u95_19 : zEv sc 95 19 [l0, l1, l2, l3, l4] [t0] h Q ↔ zEv sc 95 21 [l0, l1, l2, l3, l4] [.int 10, t0] h Q := zE_bipush dz95_19 (by decide +kernel)
theorem dz95_21 : decode (z_code 95) 21 = .ok (.idiv, 1) := by decide +kernel
theorem u95_21 : zEv sc 95 21 [l0, l1, l2, l3, l4] [.int x2, .int x1] h Q ↔ (¬ x2 = 0 ∧ zEv sc 95 22 [l0, l1, l2, l3, l4] [.int (x1 / x2)] h Q) := zE_div dz95_21
theorem dz95_22 : decode (z_code 95) 22 = .ok (.istore_n 3, 1) := by decide +kernel
theorem u95_22 : zEv sc 95 22 [l0, l1, l2, l3, l4] [.int x] h Q ↔ zEv sc 95 23 [l0, l1, l2, .int x, l4] [] h Q := zE_pure (q := (23, [l0, l1, l2, .int x, l4], [])) dz95_22 rfl rfl rfl
theorem dz95_23 : decode (z_code 95) 23 = .ok (.iinc 4 (-1), 3) := by decide +kernel
theorem u95_23 : zEv sc 95 23 [l0, l1, l2, l3, .int x] [] h Q ↔ zEv sc 95 26 [l0, l1, l2, l3, .int (x + (-1))] [] h Q := zE_iinc (ls2 := [l0, l1, l2, l3, .int (x + (-1))]) dz95_23 (by decide +kernel) rfl (by simp) rfl
theorem dz95_26 : decode (z_code 95) 26 = .ok (.goto (-14), 3) := by decide +kernel
theorem u95_26 : zEv sc 95 26 [l0, l1, l2, l3, l4] [] h Q ↔ zEv sc 95 12 [l0, l1, l2, l3, l4] [] h Q := zE_go 12 dz95_26 rfl
theorem dz95_29 : decode (z_code 95) 29 = .ok (.iload_n 3, 1) := by decide +kernel
theorem u95_29 : zEv sc 95 29 [l0, l1, l2, .int x, l4] [] h Q ↔ zEv sc 95 30 [l0, l1, l2, .int x, l4] [.int x] h Q := zE_pure (q := (30, [l0, l1, l2, .int x, l4], [.int x])) dz95_29 rfl rfl rfl
theorem dz95_30 : decode (z_code 95) 30 = .ok (.bipush 10, 2) := by decide +kernel
theorem u95_30 : zEv sc 95 30 [l0, l1, l2, l3, l4] [t0] h Q ↔ zEv sc 95 32 [l0, l1, l2, l3, l4] [.int 10, t0] h Q := zE_bipush dz95_30 (by decide +kernel)
theorem dz95_32 : decode (z_code 95) 32 = .ok (.irem, 1) := by decide +kernel
theorem u95_32 : zEv sc 95 32 [l0, l1, l2, l3, l4] [.int x2, .int x1] h Q ↔ (¬ x2 = 0 ∧ zEv sc 95 33 [l0, l1, l2, l3, l4] [.int (x1 - x1 / x2 * x2)] h Q) := zE_rem dz95_32
theorem dz95_33 : decode (z_code 95) 33 = .ok (.ireturn, 1) := by decide +kernel
theorem u95_33 : zEv sc 95 33 [l0, l1, l2, l3, l4] [.int x] h Q ↔ Q (some (.int x)) h := zE_ri dz95_33 (by decide +kernel)
/-! method 96: FieldMixturesModel.isAllocation(II)Z -/
theorem dz96_0 : decode (z_code 96) 0 = .ok (.aload_n 0, 1) := by decide +kernel
theorem u96_0 : zEv sc 96 0 [.ref a, l1, l2, l3, l4, l5, l6, l7] [] h Q ↔ zEv sc 96 1 [.ref a, l1, l2, l3, l4, l5, l6, l7] [.ref a] h Q := zE_pure (q := (1, [.ref a, l1, l2, l3, l4, l5, l6, l7], [.ref a])) dz96_0 rfl rfl rfl
theorem dz96_1 : decode (z_code 96) 1 = .ok (.getfield 7, 3) := by decide +kernel
theorem u96_1 (ho : zO a 10) : zEv sc 96 1 [l0, l1, l2, l3, l4, l5, l6, l7] [.ref a] (zst p iv) Q ↔ zRef (zRV p a 0) (fun j => zEv sc 96 4 [l0, l1, l2, l3, l4, l5, l6, l7] [.ref j] (zst p iv) Q) := zE_gfR dz96_1 (by decide +kernel : z_lk3 zFT (z_cls 96) 7 = some (10, 0, 0, 677)) (by decide +kernel) ho
theorem dz96_4 : decode (z_code 96) 4 = .ok (.iconst 0, 1) := by decide +kernel
theorem u96_4 : zEv sc 96 4 [l0, l1, l2, l3, l4, l5, l6, l7] [t0] h Q ↔ zEv sc 96 5 [l0, l1, l2, l3, l4, l5, l6, l7] [.int 0, t0] h Q := zE_iconst dz96_4 (by decide +kernel)
theorem dz96_5 : decode (z_code 96) 5 = .ok (.iaload, 1) := by decide +kernel
theorem u96_5 (ho : zO a 100) : zEv sc 96 5 [l0, l1, l2, l3, l4, l5, l6, l7] [.int x, .ref a] (zst p iv) Q ↔ (vp_in x (zLn a) ∧ zEv sc 96 6 [l0, l1, l2, l3, l4, l5, l6, l7] [.int (iv a x.toNatClampNeg)] (zst p iv) Q) := zE_ald (Or.inl ⟨rfl, rfl⟩) dz96_5 ho
theorem dz96_6 : decode (z_code 96) 6 = .ok (.iconst 2, 1) := by decide +kernel
theorem u96_6 : zEv sc 96 6 [l0, l1, l2, l3, l4, l5, l6, l7] [t0] h Q ↔ zEv sc 96 7 [l0, l1, l2, l3, l4, l5, l6, l7] [.int 2, t0] h Q := zE_iconst dz96_6 (by decide +kernel)
theorem dz96_7 : decode (z_code 96) 7 = .ok (.if_icmp .ne 8, 3) := by decide +kernel
theorem u96_7 : zEv sc 96 7 [l0, l1, l2, l3, l4, l5, l6, l7] [.int x2, .int x1] h Q ↔ (if ¬ x1 = x2 then zEv sc 96 15 [l0, l1, l2, l3, l4, l5, l6, l7] [] h Q else zEv sc 96 10 [l0, l1, l2, l3, l4, l5, l6, l7] [] h Q) := zE_icP (P := ¬ x1 = x2) inferInstance 15 dz96_7 rfl rfl
theorem dz96_10 : decode (z_code 96) 10 = .ok (.bipush 99, 2) := by decide +kernel
theorem u96_10 : zEv sc 96 10 [l0, l1, l2, l3, l4, l5, l6, l7] [] h Q ↔ zEv sc 96 12 [l0, l1, l2, l3, l4, l5, l6, l7] [.int 99] h Q := zE_bipush dz96_10 (by decide +kernel)
theorem dz96_12 : decode (z_code 96) 12 = .ok (.goto 22, 3) := by decide +kernel
theorem u96_12 : zEv sc 96 12 [l0, l1, l2, l3, l4, l5, l6, l7] [t0] h Q ↔ zEv sc 96 34 [l0, l1, l2, l3, l4, l5, l6, l7] [t0] h Q := zE_go 34 dz96_12 rfl
theorem dz96_34 : decode (z_code 96) 34 = .ok (.istore_n 3, 1) := by decide +kernel
theorem u96_34 : zEv sc 96 34 [l0, l1, l2, l3, l4, l5, l6, l7] [.int x] h Q ↔ zEv sc 96 35 [l0, l1, l2, .int x, l4, l5, l6, l7] [] h Q := zE_pure (q := (35, [l0, l1, l2, .int x, l4, l5, l6, l7], [])) dz96_34 rfl rfl rfl
theorem dz96_35 : decode (z_code 96) 35 = .ok (.iload_n 2, 1) := by decide +kernel
theorem u96_35 : zEv sc 96 35 [l0, l1, .int x, l3, l4, l5, l6, l7] [] h Q ↔ zEv sc 96 36 [l0, l1, .int x, l3, l4, l5, l6, l7] [.int x] h Q := zE_pure (q := (36, [l0, l1, .int x, l3, l4, l5, l6, l7], [.int x])) dz96_35 rfl rfl rfl
theorem dz96_36 : decode (z_code 96) 36 = .ok (.iconst 0, 1) := by decide +kernel
theorem u96_36 : zEv sc 96 36 [l0, l1, l2, l3, l4, l5, l6, l7] [t0] h Q ↔ zEv sc 96 37 [l0, l1, l2, l3, l4, l5, l6, l7] [.int 0, t0] h Q := zE_iconst dz96_36 (by decide +kernel)
theorem dz96_37 : decode (z_code 96) 37 = .ok (.iload_n 3, 1) := by decide +kernel
theorem u96_37 : zEv sc 96 37 [l0, l1, l2, .int x, l4, l5, l6, l7] [t0, t1] h Q ↔ zEv sc 96 38 [l0, l1, l2, .int x, l4, l5, l6, l7] [.int x, t0, t1] h Q := zE_pure (q := (38, [l0, l1, l2, .int x, l4, l5, l6, l7], [.int x, t0, t1])) dz96_37 rfl rfl rfl
theorem dz96_38 : decode (z_code 96) 38 = .ok (.invokestatic 39, 3) := by decide +kernel
theorem u96_38 : zEv sc 96 38 [l0, l1, l2, l3, l4, l5, l6, l7] [.int z2, .int z1, .int z0] h Q ↔ zEv sc 89 0 [.int z0, .int z1, .int z2] [] h (fun r h9 => zEv sc 96 41 [l0, l1, l2, l3, l4, l5, l6, l7] (r.toList ++ []) h9 Q) := zE_call (kd := 1) (na := 3) (nr := 0) (as := [.int z0, .int z1, .int z2]) (rest := []) (Or.inr ⟨rfl, rfl⟩) dz96_38 (by decide +kernel : z_lk2 zCT (z_cls 96) 39 = some (89, 0, 734)) (fun _ => by decide +kernel) rfl rfl rfl (by decide +kernel) rfl (Or.inl rfl)
theorem dz96_41 : decode (z_code 96) 41 = .ok (.ifCond .ne 5, 3) := by decide +kernel
theorem u96_41 : zEv sc 96 41 [l0, l1, l2, l3, l4, l5, l6, l7] [.int x] h Q ↔ (if ¬ x = 0 then zEv sc 96 46 [l0, l1, l2, l3, l4, l5, l6, l7] [] h Q else zEv sc 96 44 [l0, l1, l2, l3, l4, l5, l6, l7] [] h Q) := zE_ifP (P := ¬ x = 0) inferInstance 46 dz96_41 rfl rfl
theorem dz96_44 : decode (z_code 96) 44 = .ok (.iconst 0, 1) := by decide +kernel
theorem u96_44 : zEv sc 96 44 [l0, l1, l2, l3, l4, l5, l6, l7] [] h Q ↔ zEv sc 96 45 [l0, l1, l2, l3, l4, l5, l6, l7] [.int 0] h Q := zE_iconst dz96_44 (by decide +kernel)
theorem dz96_45 : decode (z_code 96) 45 = .ok (.ireturn, 1) := by decide +kernel
theorem u96_45 : zEv sc 96 45 [l0, l1, l2, l3, l4, l5, l6, l7] [.int x] h Q ↔ ((x = 0 ∨ x = 1) ∧ Q (some (.int x)) h) := zE_rz dz96_45 (by decide +kernel)
theorem dz96_46 : decode (z_code 96) 46 = .ok (.iconst 0, 1) := by decide +kernel
theorem u96_46 : zEv sc 96 46 [l0, l1, l2, l3, l4, l5, l6, l7] [] h Q ↔ zEv sc 96 47 [l0, l1, l2, l3, l4, l5, l6, l7] [.int 0] h Q := zE_iconst dz96_46 (by decide +kernel)
theorem dz96_47 : decode (z_code 96) 47 = .ok (.istore 4, 2) := by decide +kernel
theorem u96_47 : zEv sc 96 47 [l0, l1, l2, l3, l4, l5, l6, l7] [.int x] h Q ↔ zEv sc 96 49 [l0, l1, l2, l3, .int x, l5, l6, l7] [] h Q := zE_pure (q := (49, [l0, l1, l2, l3, .int x, l5, l6, l7], [])) dz96_47 rfl rfl rfl
theorem dz96_49 : decode (z_code 96) 49 = .ok (.iconst 1, 1) := by decide +kernel
theorem u96_49 : zEv sc 96 49 [l0, l1, l2, l3, l4, l5, l6, l7] [] h Q ↔ zEv sc 96 50 [l0, l1, l2, l3, l4, l5, l6, l7] [.int 1] h Q := zE_iconst dz96_49 (by decide +kernel)
theorem dz96_50 : decode (z_code 96) 50 = .ok (.istore 5, 2) := by decide +kernel
theorem u96_50 : zEv sc 96 50 [l0, l1, l2, l3, l4, l5, l6, l7] [.int x] h Q ↔ zEv sc 96 52 [l0, l1, l2, l3, l4, .int x, l6, l7] [] h Q := zE_pure (q := (52, [l0, l1, l2, l3, l4, .int x, l6, l7], [])) dz96_50 rfl rfl rfl
theorem dz96_52 : decode (z_code 96) 52 = .ok (.iconst 0, 1) := by decide +kernel
theorem u96_52 : zEv sc 96 52 [l0, l1, l2, l3, l4, l5, l6, l7] [] h Q ↔ zEv sc 96 53 [l0, l1, l2, l3, l4, l5, l6, l7] [.int 0] h Q := zE_iconst dz96_52 (by decide +kernel)
theorem dz96_53 : decode (z_code 96) 53 = .ok (.istore 6, 2) := by decide +kernel
theorem u96_53 : zEv sc 96 53 [l0, l1, l2, l3, l4, l5, l6, l7] [.int x] h Q ↔ zEv sc 96 55 [l0, l1, l2, l3, l4, l5, .int x, l7] [] h Q := zE_pure (q := (55, [l0, l1, l2, l3, l4, l5, .int x, l7], [])) dz96_53 rfl rfl rfl
theorem dz96_55 : decode (z_code 96) 55 = .ok (.iload 6, 2) := by decide +kernel
theorem u96_55 : zEv sc 96 55 [l0, l1, l2, l3, l4, l5, .int x, l7] [] h Q ↔ zEv sc 96 57 [l0, l1, l2, l3, l4, l5, .int x, l7] [.int x] h Q := zE_pure (q := (57, [l0, l1, l2, l3, l4, l5, .int x, l7], [.int x])) dz96_55 rfl rfl rfl
theorem dz96_57 : decode (z_code 96) 57 = .ok (.aload_n 0, 1) := by decide +kernel
theorem u96_57 : zEv sc 96 57 [.ref a, l1, l2, l3, l4, l5, l6, l7] [t0] h Q ↔ zEv sc 96 58 [.ref a, l1, l2, l3, l4, l5, l6, l7] [.ref a, t0] h Q := zE_pure (q := (58, [.ref a, l1, l2, l3, l4, l5, l6, l7], [.ref a, t0])) dz96_57 rfl rfl rfl
theorem dz96_58 : decode (z_code 96) 58 = .ok (.getfield 7, 3) := by decide +kernel
theorem u96_58 (ho : zO a 10) : zEv sc 96 58 [l0, l1, l2, l3, l4, l5, l6, l7] [.ref a, t0] (zst p iv) Q ↔ zRef (zRV p a 0) (fun j => zEv sc 96 61 [l0, l1, l2, l3, l4, l5, l6, l7] [.ref j, t0] (zst p iv) Q) := zE_gfR dz96_58 (by decide +kernel : z_lk3 zFT (z_cls 96) 7 = some (10, 0, 0, 677)) (by decide +kernel) ho
theorem dz96_61 : decode (z_code 96) 61 = .ok (.iconst 0, 1) := by decide +kernel
theorem u96_61 : zEv sc 96 61 [l0, l1, l2, l3, l4, l5, l6, l7] [t0, t1] h Q ↔ zEv sc 96 62 [l0, l1, l2, l3, l4, l5, l6, l7] [.int 0, t0, t1] h Q := zE_iconst dz96_61 (by decide +kernel)
theorem dz96_62 : decode (z_code 96) 62 = .ok (.iaload, 1) := by decide +kernel
theorem u96_62 (ho : zO a 100) : zEv sc 96 62 [l0, l1, l2, l3, l4, l5, l6, l7] [.int x, .ref a, t0] (zst p iv) Q ↔ (vp_in x (zLn a) ∧ zEv sc 96 63 [l0, l1, l2, l3, l4, l5, l6, l7] [.int (iv a x.toNatClampNeg), t0] (zst p iv) Q) := zE_ald (Or.inl ⟨rfl, rfl⟩) dz96_62 ho
theorem dz96_63 : decode (z_code 96) 63 = .ok (.if_icmp .ge 56, 3) := by decide +kernel
theorem u96_63 : zEv sc 96 63 [l0, l1, l2, l3, l4, l5, l6, l7] [.int x2, .int x1] h Q ↔ (if x2 ≤ x1 then zEv sc 96 119 [l0, l1, l2, l3, l4, l5, l6, l7] [] h Q else zEv sc 96 66 [l0, l1, l2, l3, l4, l5, l6, l7] [] h Q) := zE_icP (P := x2 ≤ x1) inferInstance 119 dz96_63 rfl rfl
theorem dz96_66 : decode (z_code 96) 66 = .ok (.aload_n 0, 1) := by decide +kernel
theorem u96_66 : zEv sc 96 66 [.ref a, l1, l2, l3, l4, l5, l6, l7] [] h Q ↔ zEv sc 96 67 [.ref a, l1, l2, l3, l4, l5, l6, l7] [.ref a] h Q := zE_pure (q := (67, [.ref a, l1, l2, l3, l4, l5, l6, l7], [.ref a])) dz96_66 rfl rfl rfl
theorem dz96_67 : decode (z_code 96) 67 = .ok (.iload_n 2, 1) := by decide +kernel
theorem u96_67 : zEv sc 96 67 [l0, l1, .int x, l3, l4, l5, l6, l7] [t0] h Q ↔ zEv sc 96 68 [l0, l1, .int x, l3, l4, l5, l6, l7] [.int x, t0] h Q := zE_pure (q := (68, [l0, l1, .int x, l3, l4, l5, l6, l7], [.int x, t0])) dz96_67 rfl rfl rfl
theorem dz96_68 : decode (z_code 96) 68 = .ok (.iload 6, 2) := by decide +kernel
theorem u96_68 : zEv sc 96 68 [l0, l1, l2, l3, l4, l5, .int x, l7] [t0, t1] h Q ↔ zEv sc 96 70 [l0, l1, l2, l3, l4, l5, .int x, l7] [.int x, t0, t1] h Q := zE_pure (q := (70, [l0, l1, l2, l3, l4, l5, .int x, l7], [.int x, t0, t1])) dz96_68 rfl rfl rfl
theorem dz96_70 : decode (z_code 96) 70 = .ok (.invokevirtual 43, 3) := by decide +kernel
theorem u96_70 (ho : zO a 10) : zEv sc 96 70 [l0, l1, l2, l3, l4, l5, l6, l7] [.int z1, .int z0, .ref a] (zst p iv) Q ↔ zEv sc 95 0 [.ref a, .int z0, .int z1, .null, .null] [] (zst p iv) (fun r h9 => zEv sc 96 73 [l0, l1, l2, l3, l4, l5, l6, l7] (r.toList ++ []) h9 Q) := zE_call (kd := 0) (na := 3) (nr := 0) (as := [.ref a, .int z0, .int z1]) (rest := []) (Or.inl ⟨rfl, rfl⟩) dz96_70 (by decide +kernel : z_lk2 zCT (z_cls 96) 43 = some (95, 0, 788)) (fun z => by cases z) rfl rfl rfl (by decide +kernel) rfl (Or.inr (zE_rc ho))
theorem dz96_73 : decode (z_code 96) 73 = .ok (.istore 7, 2) := by decide +kernel
theorem u96_73 : zEv sc 96 73 [l0, l1, l2, l3, l4, l5, l6, l7] [.int x] h Q ↔ zEv sc 96 75 [l0, l1, l2, l3, l4, l5, l6, .int x] [] h Q := zE_pure (q := (75, [l0, l1, l2, l3, l4, l5, l6, .int x], [])) dz96_73 rfl rfl rfl
theorem dz96_75 : decode (z_code 96) 75 = .ok (.iload 5, 2) := by decide +kernel
theorem u96_75 : zEv sc 96 75 [l0, l1, l2, l3, l4, .int x, l6, l7] [] h Q ↔ zEv sc 96 77 [l0, l1, l2, l3, l4, .int x, l6, l7] [.int x] h Q := zE_pure (q := (77, [l0, l1, l2, l3, l4, .int x, l6, l7], [.int x])) dz96_75 rfl rfl rfl
theorem dz96_77 : decode (z_code 96) 77 = .ok (.ifCond .eq 26, 3) := by decide +kernel
theorem u96_77 : zEv sc 96 77 [l0, l1, l2, l3, l4, l5, l6, l7] [.int x] h Q ↔ (if x = 0 then zEv sc 96 103 [l0, l1, l2, l3, l4, l5, l6, l7] [] h Q else zEv sc 96 80 [l0, l1, l2, l3, l4, l5, l6, l7] [] h Q) := zE_ifP (P := x = 0) inferInstance 103 dz96_77 rfl rfl
theorem dz96_80 : decode (z_code 96) 80 = .ok (.iload 7, 2) := by decide +kernel
theorem u96_80 : zEv sc 96 80 [l0, l1, l2, l3, l4, l5, l6, .int x] [] h Q ↔ zEv sc 96 82 [l0, l1, l2, l3, l4, l5, l6, .int x] [.int x] h Q := zE_pure (q := (82, [l0, l1, l2, l3, l4, l5, l6, .int x], [.int x])) dz96_80 rfl rfl rfl
theorem dz96_82 : decode (z_code 96) 82 = .ok (.aload_n 0, 1) := by decide +kernel
theorem u96_82 : zEv sc 96 82 [.ref a, l1, l2, l3, l4, l5, l6, l7] [t0] h Q ↔ zEv sc 96 83 [.ref a, l1, l2, l3, l4, l5, l6, l7] [.ref a, t0] h Q := zE_pure (q := (83, [.ref a, l1, l2, l3, l4, l5, l6, l7], [.ref a, t0])) dz96_82 rfl rfl rfl
theorem dz96_83 : decode (z_code 96) 83 = .ok (.getfield 7, 3) := by decide +kernel
theorem u96_83 (ho : zO a 10) : zEv sc 96 83 [l0, l1, l2, l3, l4, l5, l6, l7] [.ref a, t0] (zst p iv) Q ↔ zRef (zRV p a 0) (fun j => zEv sc 96 86 [l0, l1, l2, l3, l4, l5, l6, l7] [.ref j, t0] (zst p iv) Q) := zE_gfR dz96_83 (by decide +kernel : z_lk3 zFT (z_cls 96) 7 = some (10, 0, 0, 677)) (by decide +kernel) ho
theorem dz96_86 : decode (z_code 96) 86 = .ok (.bipush 8, 2) := by decide +kernel
theorem u96_86 : zEv sc 96 86 [l0, l1, l2, l3, l4, l5, l6, l7] [t0, t1] h Q ↔ zEv sc 96 88 [l0, l1, l2, l3, l4, l5, l6, l7] [.int 8, t0, t1] h Q := zE_bipush dz96_86 (by decide +kernel)
theorem dz96_88 : decode (z_code 96) 88 = .ok (.iconst 4, 1) := by decide +kernel
theorem u96_88 : zEv sc 96 88 [l0, l1, l2, l3, l4, l5, l6, l7] [t0, t1, t2] h Q ↔ zEv sc 96 89 [l0, l1, l2, l3, l4, l5, l6, l7] [.int 4, t0, t1, t2] h Q := zE_iconst dz96_88 (by decide +kernel)
theorem dz96_89 : decode (z_code 96) 89 = .ok (.iload_n 1, 1) := by decide +kernel
theorem u96_89 : zEv sc 96 89 [l0, .int x, l2, l3, l4, l5, l6, l7] [t0, t1, t2, t3] h Q ↔ zEv sc 96 90 [l0, .int x, l2, l3, l4, l5, l6, l7] [.int x, t0, t1, t2, t3] h Q := zE_pure (q := (90, [l0, .int x, l2, l3, l4, l5, l6, l7], [.int x, t0, t1, t2, t3])) dz96_89 rfl rfl rfl
theorem dz96_90 : decode (z_code 96) 90 = .ok (.imul, 1) := by decide +kernel
theorem u96_90 : zEv sc 96 90 [l0, l1, l2, l3, l4, l5, l6, l7] [.int x2, .int x1, t0, t1, t2] h Q ↔ zEv sc 96 91 [l0, l1, l2, l3, l4, l5, l6, l7] [.int (x1 * x2), t0, t1, t2] h Q := zE_pure (q := (91, [l0, l1, l2, l3, l4, l5, l6, l7], [.int (x1 * x2), t0, t1, t2])) dz96_90 rfl rfl rfl
theorem dz96_91 : decode (z_code 96) 91 = .ok (.iadd, 1) := by decide +kernel
theorem u96_91 : zEv sc 96 91 [l0, l1, l2, l3, l4, l5, l6, l7] [.int x2, .int x1, t0, t1] h Q ↔ zEv sc 96 92 [l0, l1, l2, l3, l4, l5, l6, l7] [.int (x1 + x2), t0, t1] h Q := zE_pure (q := (92, [l0, l1, l2, l3, l4, l5, l6, l7], [.int (x1 + x2), t0, t1])) dz96_91 rfl rfl rfl
theorem dz96_92 : decode (z_code 96) 92 = .ok (.iload 6, 2) := by decide +kernel
theorem u96_92 : zEv sc 96 92 [l0, l1, l2, l3, l4, l5, .int x, l7] [t0, t1, t2] h Q ↔ zEv sc 96 94 [l0, l1, l2, l3, l4, l5, .int x, l7] [.int x, t0, t1, t2] h Q := zE_pure (q := (94, [l0, l1, l2, l3, l4, l5, .int x, l7], [.int x, t0, t1, t2])) dz96_92 rfl rfl rfl
theorem dz96_94 : decode (z_code 96) 94 = .ok (.iadd, 1) := by decide +kernel
theorem u96_94 : zEv sc 96 94 [l0, l1, l2, l3, l4, l5, l6, l7] [.int x2, .int x1, t0, t1] h Q ↔ zEv sc 96 95 [l0, l1, l2, l3, l4, l5, l6, l7] [.int (x1 + x2), t0, t1] h Q := zE_pure (q := (95, [l0, l1, l2, l3, l4, l5, l6, l7], [.int (x1 + x2), t0, t1])) dz96_94 rfl rfl rfl
theorem dz96_95 : decode (z_code 96) 95 = .ok (.iaload, 1) := by decide +kernel
theorem u96_95 (ho : zO a 100) : zEv sc 96 95 [l0, l1, l2, l3, l4, l5, l6, l7] [.int x, .ref a, t0] (zst p iv) Q ↔ (vp_in x (zLn a) ∧ zEv sc 96 96 [l0, l1, l2, l3, l4, l5, l6, l7] [.int (iv a x.toNatClampNeg), t0] (zst p iv) Q) := zE_ald (Or.inl ⟨rfl, rfl⟩) dz96_95 ho
theorem dz96_96 : decode (z_code 96) 96 = .ok (.if_icmp .gt 7, 3) := by decide +kernel
theorem u96_96 : zEv sc 96 96 [l0, l1, l2, l3, l4, l5, l6, l7] [.int x2, .int x1] h Q ↔ (if x2 < x1 then zEv sc 96 103 [l0, l1, l2, l3, l4, l5, l6, l7] [] h Q else zEv sc 96 99 [l0, l1, l2, l3, l4, l5, l6, l7] [] h Q) := zE_icP (P := x2 < x1) inferInstance 103 dz96_96 rfl rfl
theorem dz96_99 : decode (z_code 96) 99 = .ok (.iconst 1, 1) := by decide +kernel
theorem u96_99 : zEv sc 96 99 [l0, l1, l2, l3, l4, l5, l6, l7] [] h Q ↔ zEv sc 96 100 [l0, l1, l2, l3, l4, l5, l6, l7] [.int 1] h Q := zE_iconst dz96_99 (by decide +kernel)
theorem dz96_100 : decode (z_code 96) 100 = .ok (.goto 4, 3) := by decide +kernel
theorem u96_100 : zEv sc 96 100 [l0, l1, l2, l3, l4, l5, l6, l7] [t0] h Q ↔ zEv sc 96 104 [l0, l1, l2, l3, l4, l5, l6, l7] [t0] h Q := zE_go 104 dz96_100 rfl
theorem dz96_104 : decode (z_code 96) 104 = .ok (.istore 5, 2) := by decide +kernel
theorem u96_104 : zEv sc 96 104 [l0, l1, l2, l3, l4, l5, l6, l7] [.int x] h Q ↔ zEv sc 96 106 [l0, l1, l2, l3, l4, .int x, l6, l7] [] h Q := zE_pure (q := (106, [l0, l1, l2, l3, l4, .int x, l6, l7], [])) dz96_104 rfl rfl rfl
theorem dz96_106 : decode (z_code 96) 106 = .ok (.iload 4, 2) := by decide +kernel
theorem u96_106 : zEv sc 96 106 [l0, l1, l2, l3, .int x, l5, l6, l7] [] h Q ↔ zEv sc 96 108 [l0, l1, l2, l3, .int x, l5, l6, l7] [.int x] h Q := zE_pure (q := (108, [l0, l1, l2, l3, .int x, l5, l6, l7], [.int x])) dz96_106 rfl rfl rfl
theorem dz96_108 : decode (z_code 96) 108 = .ok (.iload 7, 2) := by decide +kernel
theorem u96_108 : zEv sc 96 108 [l0, l1, l2, l3, l4, l5, l6, .int x] [t0] h Q ↔ zEv sc 96 110 [l0, l1, l2, l3, l4, l5, l6, .int x] [.int x, t0] h Q := zE_pure (q := (110, [l0, l1, l2, l3, l4, l5, l6, .int x], [.int x, t0])) dz96_108 rfl rfl rfl
theorem dz96_110 : decode (z_code 96) 110 = .ok (.iadd, 1) := by decide +kernel
theorem u96_110 : zEv sc 96 110 [l0, l1, l2, l3, l4, l5, l6, l7] [.int x2, .int x1] h Q ↔ zEv sc 96 111 [l0, l1, l2, l3, l4, l5, l6, l7] [.int (x1 + x2)] h Q := zE_pure (q := (111, [l0, l1, l2, l3, l4, l5, l6, l7], [.int (x1 + x2)])) dz96_110 rfl rfl rfl
theorem dz96_111 : decode (z_code 96) 111 = .ok (.istore 4, 2) := by decide +kernel
theorem u96_111 : zEv sc 96 111 [l0, l1, l2, l3, l4, l5, l6, l7] [.int x] h Q ↔ zEv sc 96 113 [l0, l1, l2, l3, .int x, l5, l6, l7] [] h Q := zE_pure (q := (113, [l0, l1, l2, l3, .int x, l5, l6, l7], [])) dz96_111 rfl rfl rfl
theorem dz96_113 : decode (z_code 96) 113 = .ok (.iinc 6 1, 3) := by decide +kernel
theorem u96_113 : zEv sc 96 113 [l0, l1, l2, l3, l4, l5, .int x, l7] [] h Q ↔ zEv sc 96 116 [l0, l1, l2, l3, l4, l5, .int (x + 1), l7] [] h Q := zE_iinc (ls2 := [l0, l1, l2, l3, l4, l5, .int (x + 1), l7]) dz96_113 (by decide +kernel) rfl (by simp) rfl
theorem dz96_116 : decode (z_code 96) 116 = .ok (.goto (-61), 3) := by decide +kernel
theorem u96_116 : zEv sc 96 116 [l0, l1, l2, l3, l4, l5, l6, l7] [] h Q ↔ zEv sc 96 55 [l0, l1, l2, l3, l4, l5, l6, l7] [] h Q := zE_go 55 dz96_116 rfl
theorem dz96_103 : decode (z_code 96) 103 = .ok (.iconst 0, 1) := by decide +kernel
theorem u96_103 : zEv sc 96 103 [l0, l1, l2, l3, l4, l5, l6, l7] [] h Q ↔ zEv sc 96 104 [l0, l1, l2, l3, l4, l5, l6, l7] [.int 0] h Q := zE_iconst dz96_103 (by decide +kernel)
theorem dz96_119 : decode (z_code 96) 119 = .ok (.iload 5, 2) := by decide +kernel
theorem u96_119 : zEv sc 96 119 [l0, l1, l2, l3, l4, .int x, l6, l7] [] h Q ↔ zEv sc 96 121 [l0, l1, l2, l3, l4, .int x, l6, l7] [.int x] h Q := zE_pure (q := (121, [l0, l1, l2, l3, l4, .int x, l6, l7], [.int x])) dz96_119 rfl rfl rfl
theorem dz96_121 : decode (z_code 96) 121 = .ok (.ifCond .eq 21, 3) := by decide +kernel
theorem u96_121 : zEv sc 96 121 [l0, l1, l2, l3, l4, l5, l6, l7] [.int x] h Q ↔ (if x = 0 then zEv sc 96 142 [l0, l1, l2, l3, l4, l5, l6, l7] [] h Q else zEv sc 96 124 [l0, l1, l2, l3, l4, l5, l6, l7] [] h Q) := zE_ifP (P := x = 0) inferInstance 142 dz96_121 rfl rfl
theorem dz96_124 : decode (z_code 96) 124 = .ok (.iload 4, 2) := by decide +kernel
theorem u96_124 : zEv sc 96 124 [l0, l1, l2, l3, .int x, l5, l6, l7] [] h Q ↔ zEv sc 96 126 [l0, l1, l2, l3, .int x, l5, l6, l7] [.int x] h Q := zE_pure (q := (126, [l0, l1, l2, l3, .int x, l5, l6, l7], [.int x])) dz96_124 rfl rfl rfl
theorem dz96_126 : decode (z_code 96) 126 = .ok (.aload_n 0, 1) := by decide +kernel
theorem u96_126 : zEv sc 96 126 [.ref a, l1, l2, l3, l4, l5, l6, l7] [t0] h Q ↔ zEv sc 96 127 [.ref a, l1, l2, l3, l4, l5, l6, l7] [.ref a, t0] h Q := zE_pure (q := (127, [.ref a, l1, l2, l3, l4, l5, l6, l7], [.ref a, t0])) dz96_126 rfl rfl rfl
theorem dz96_127 : decode (z_code 96) 127 = .ok (.getfield 7, 3) := by decide +kernel
theorem u96_127 (ho : zO a 10) : zEv sc 96 127 [l0, l1, l2, l3, l4, l5, l6, l7] [.ref a, t0] (zst p iv) Q ↔ zRef (zRV p a 0) (fun j => zEv sc 96 130 [l0, l1, l2, l3, l4, l5, l6, l7] [.ref j, t0] (zst p iv) Q) := zE_gfR dz96_127 (by decide +kernel : z_lk3 zFT (z_cls 96) 7 = some (10, 0, 0, 677)) (by decide +kernel) ho
theorem dz96_130 : decode (z_code 96) 130 = .ok (.bipush 6, 2) := by decide +kernel
theorem u96_130 : zEv sc 96 130 [l0, l1, l2, l3, l4, l5, l6, l7] [t0, t1] h Q ↔ zEv sc 96 132 [l0, l1, l2, l3, l4, l5, l6, l7] [.int 6, t0, t1] h Q := zE_bipush dz96_130 (by decide +kernel)
theorem dz96_132 : decode (z_code 96) 132 = .ok (.iload_n 1, 1) := by decide +kernel
theorem u96_132 : zEv sc 96 132 [l0, .int x, l2, l3, l4, l5, l6, l7] [t0, t1, t2] h Q ↔ zEv sc 96 133 [l0, .int x, l2, l3, l4, l5, l6, l7] [.int x, t0, t1, t2] h Q := zE_pure (q := (133, [l0, .int x, l2, l3, l4, l5, l6, l7], [.int x, t0, t1, t2])) dz96_132 rfl rfl rfl
theorem dz96_133 : decode (z_code 96) 133 = .ok (.iadd, 1) := by decide +kernel
theorem u96_133 : zEv sc 96 133 [l0, l1, l2, l3, l4, l5, l6, l7] [.int x2, .int x1, t0, t1] h Q ↔ zEv sc 96 134 [l0, l1, l2, l3, l4, l5, l6, l7] [.int (x1 + x2), t0, t1] h Q := zE_pure (q := (134, [l0, l1, l2, l3, l4, l5, l6, l7], [.int (x1 + x2), t0, t1])) dz96_133 rfl rfl rfl
theorem dz96_134 : decode (z_code 96) 134 = .ok (.iaload, 1) := by decide +kernel
theorem u96_134 (ho : zO a 100) : zEv sc 96 134 [l0, l1, l2, l3, l4, l5, l6, l7] [.int x, .ref a, t0] (zst p iv) Q ↔ (vp_in x (zLn a) ∧ zEv sc 96 135 [l0, l1, l2, l3, l4, l5, l6, l7] [.int (iv a x.toNatClampNeg), t0] (zst p iv) Q) := zE_ald (Or.inl ⟨rfl, rfl⟩) dz96_134 ho
theorem dz96_135 : decode (z_code 96) 135 = .ok (.if_icmp .ne 7, 3) := by decide +kernel
theorem u96_135 : zEv sc 96 135 [l0, l1, l2, l3, l4, l5, l6, l7] [.int x2, .int x1] h Q ↔ (if ¬ x1 = x2 then zEv sc 96 142 [l0, l1, l2, l3, l4, l5, l6, l7] [] h Q else zEv sc 96 138 [l0, l1, l2, l3, l4, l5, l6, l7] [] h Q) := zE_icP (P := ¬ x1 = x2) inferInstance 142 dz96_135 rfl rfl
theorem dz96_138 : decode (z_code 96) 138 = .ok (.iconst 1, 1) := by decide +kernel
theorem u96_138 : zEv sc 96 138 [l0, l1, l2, l3, l4, l5, l6, l7] [] h Q ↔ zEv sc 96 139 [l0, l1, l2, l3, l4, l5, l6, l7] [.int 1] h Q := zE_iconst dz96_138 (by decide +kernel)
theorem dz96_139 : decode (z_code 96) 139 = .ok (.goto 4, 3) := by decide +kernel
theorem u96_139 : zEv sc 96 139 [l0, l1, l2, l3, l4, l5, l6, l7] [t0] h Q ↔ zEv sc 96 143 [l0, l1, l2, l3, l4, l5, l6, l7] [t0] h Q := zE_go 143 dz96_139 rfl
theorem dz96_143 : decode (z_code 96) 143 = .ok (.ireturn, 1) := by decide +kernel
theorem u96_143 : zEv sc 96 143 [l0, l1, l2, l3, l4, l5, l6, l7] [.int x] h Q ↔ ((x = 0 ∨ x = 1) ∧ Q (some (.int x)) h) := zE_rz dz96_143 (by decide +kernel)
theorem dz96_142 : decode (z_code 96) 142 = .ok (.iconst 0, 1) := by decide +kernel
theorem u96_142 : zEv sc 96 142 [l0, l1, l2, l3, l4, l5, l6, l7] [] h Q ↔ zEv sc 96 143 [l0, l1, l2, l3, l4, l5, l6, l7] [.int 0] h Q := zE_iconst dz96_142 (by decide +kernel)
theorem dz96_15 : decode (z_code 96) 15 = .ok (.aload_n 0, 1) := by decide +kernel
theorem u96_15 : zEv sc 96 15 [.ref a, l1, l2, l3, l4, l5, l6, l7] [] h Q ↔ zEv sc 96 16 [.ref a, l1, l2, l3, l4, l5, l6, l7] [.ref a] h Q := zE_pure (q := (16, [.ref a, l1, l2, l3, l4, l5, l6, l7], [.ref a])) dz96_15 rfl rfl rfl
theorem dz96_16 : decode (z_code 96) 16 = .ok (.getfield 7, 3) := by decide +kernel
theorem u96_16 (ho : zO a 10) : zEv sc 96 16 [l0, l1, l2, l3, l4, l5, l6, l7] [.ref a] (zst p iv) Q ↔ zRef (zRV p a 0) (fun j => zEv sc 96 19 [l0, l1, l2, l3, l4, l5, l6, l7] [.ref j] (zst p iv) Q) := zE_gfR dz96_16 (by decide +kernel : z_lk3 zFT (z_cls 96) 7 = some (10, 0, 0, 677)) (by decide +kernel) ho
theorem dz96_19 : decode (z_code 96) 19 = .ok (.iconst 0, 1) := by decide +kernel
theorem u96_19 : zEv sc 96 19 [l0, l1, l2, l3, l4, l5, l6, l7] [t0] h Q ↔ zEv sc 96 20 [l0, l1, l2, l3, l4, l5, l6, l7] [.int 0, t0] h Q := zE_iconst dz96_19 (by decide +kernel)
theorem dz96_20 : decode (z_code 96) 20 = .ok (.iaload, 1) := by decide +kernel
theorem u96_20 (ho : zO a 100) : zEv sc 96 20 [l0, l1, l2, l3, l4, l5, l6, l7] [.int x, .ref a] (zst p iv) Q ↔ (vp_in x (zLn a) ∧ zEv sc 96 21 [l0, l1, l2, l3, l4, l5, l6, l7] [.int (iv a x.toNatClampNeg)] (zst p iv) Q) := zE_ald (Or.inl ⟨rfl, rfl⟩) dz96_20 ho
theorem dz96_21 : decode (z_code 96) 21 = .ok (.iconst 3, 1) := by decide +kernel
theorem u96_21 : zEv sc 96 21 [l0, l1, l2, l3, l4, l5, l6, l7] [t0] h Q ↔ zEv sc 96 22 [l0, l1, l2, l3, l4, l5, l6, l7] [.int 3, t0] h Q := zE_iconst dz96_21 (by decide +kernel)
theorem dz96_22 : decode (z_code 96) 22 = .ok (.if_icmp .ne 9, 3) := by decide +kernel
theorem u96_22 : zEv sc 96 22 [l0, l1, l2, l3, l4, l5, l6, l7] [.int x2, .int x1] h Q ↔ (if ¬ x1 = x2 then zEv sc 96 31 [l0, l1, l2, l3, l4, l5, l6, l7] [] h Q else zEv sc 96 25 [l0, l1, l2, l3, l4, l5, l6, l7] [] h Q) := zE_icP (P := ¬ x1 = x2) inferInstance 31 dz96_22 rfl rfl
theorem dz96_25 : decode (z_code 96) 25 = .ok (.sipush 999, 3) := by decide +kernel
theorem u96_25 : zEv sc 96 25 [l0, l1, l2, l3, l4, l5, l6, l7] [] h Q ↔ zEv sc 96 28 [l0, l1, l2, l3, l4, l5, l6, l7] [.int 999] h Q := zE_sipush dz96_25 (by decide +kernel)
theorem dz96_28 : decode (z_code 96) 28 = .ok (.goto 6, 3) := by decide +kernel
theorem u96_28 : zEv sc 96 28 [l0, l1, l2, l3, l4, l5, l6, l7] [t0] h Q ↔ zEv sc 96 34 [l0, l1, l2, l3, l4, l5, l6, l7] [t0] h Q := zE_go 34 dz96_28 rfl
theorem dz96_31 : decode (z_code 96) 31 = .ok (.sipush 9999, 3) := by decide +kernel
theorem u96_31 : zEv sc 96 31 [l0, l1, l2, l3, l4, l5, l6, l7] [] h Q ↔ zEv sc 96 34 [l0, l1, l2, l3, l4, l5, l6, l7] [.int 9999] h Q := zE_sipush dz96_31 (by decide +kernel)
/-! method 97: FieldMixturesModel.lists(I)V -/
theorem dz97_0 : decode (z_code 97) 0 = .ok (.iconst 0, 1) := by decide +kernel
theorem u97_0 : zEv sc 97 0 [l0, l1, l2, l3] [] h Q ↔ zEv sc 97 1 [l0, l1, l2, l3] [.int 0] h Q := zE_iconst dz97_0 (by decide +kernel)
theorem dz97_1 : decode (z_code 97) 1 = .ok (.istore_n 2, 1) := by decide +kernel
theorem u97_1 : zEv sc 97 1 [l0, l1, l2, l3] [.int x] h Q ↔ zEv sc 97 2 [l0, l1, .int x, l3] [] h Q := zE_pure (q := (2, [l0, l1, .int x, l3], [])) dz97_1 rfl rfl rfl
theorem dz97_2 : decode (z_code 97) 2 = .ok (.iconst 0, 1) := by decide +kernel
theorem u97_2 : zEv sc 97 2 [l0, l1, l2, l3] [] h Q ↔ zEv sc 97 3 [l0, l1, l2, l3] [.int 0] h Q := zE_iconst dz97_2 (by decide +kernel)
theorem dz97_3 : decode (z_code 97) 3 = .ok (.istore_n 3, 1) := by decide +kernel
theorem u97_3 : zEv sc 97 3 [l0, l1, l2, l3] [.int x] h Q ↔ zEv sc 97 4 [l0, l1, l2, .int x] [] h Q := zE_pure (q := (4, [l0, l1, l2, .int x], [])) dz97_3 rfl rfl rfl
theorem dz97_4 : decode (z_code 97) 4 = .ok (.iload_n 3, 1) := by decide +kernel
theorem u97_4 : zEv sc 97 4 [l0, l1, l2, .int x] [] h Q ↔ zEv sc 97 5 [l0, l1, l2, .int x] [.int x] h Q := zE_pure (q := (5, [l0, l1, l2, .int x], [.int x])) dz97_4 rfl rfl rfl
theorem dz97_5 : decode (z_code 97) 5 = .ok (.sipush 9000, 3) := by decide +kernel
theorem u97_5 : zEv sc 97 5 [l0, l1, l2, l3] [t0] h Q ↔ zEv sc 97 8 [l0, l1, l2, l3] [.int 9000, t0] h Q := zE_sipush dz97_5 (by decide +kernel)
theorem dz97_8 : decode (z_code 97) 8 = .ok (.if_icmp .ge 34, 3) := by decide +kernel
theorem u97_8 : zEv sc 97 8 [l0, l1, l2, l3] [.int x2, .int x1] h Q ↔ (if x2 ≤ x1 then zEv sc 97 42 [l0, l1, l2, l3] [] h Q else zEv sc 97 11 [l0, l1, l2, l3] [] h Q) := zE_icP (P := x2 ≤ x1) inferInstance 42 dz97_8 rfl rfl
theorem dz97_11 : decode (z_code 97) 11 = .ok (.aload_n 0, 1) := by decide +kernel
theorem u97_11 : zEv sc 97 11 [.ref a, l1, l2, l3] [] h Q ↔ zEv sc 97 12 [.ref a, l1, l2, l3] [.ref a] h Q := zE_pure (q := (12, [.ref a, l1, l2, l3], [.ref a])) dz97_11 rfl rfl rfl
theorem dz97_12 : decode (z_code 97) 12 = .ok (.iload_n 1, 1) := by decide +kernel
theorem u97_12 : zEv sc 97 12 [l0, .int x, l2, l3] [t0] h Q ↔ zEv sc 97 13 [l0, .int x, l2, l3] [.int x, t0] h Q := zE_pure (q := (13, [l0, .int x, l2, l3], [.int x, t0])) dz97_12 rfl rfl rfl
theorem dz97_13 : decode (z_code 97) 13 = .ok (.iload_n 3, 1) := by decide +kernel
theorem u97_13 : zEv sc 97 13 [l0, l1, l2, .int x] [t0, t1] h Q ↔ zEv sc 97 14 [l0, l1, l2, .int x] [.int x, t0, t1] h Q := zE_pure (q := (14, [l0, l1, l2, .int x], [.int x, t0, t1])) dz97_13 rfl rfl rfl
theorem dz97_14 : decode (z_code 97) 14 = .ok (.invokevirtual 47, 3) := by decide +kernel
theorem u97_14 (ho : zO a 10) : zEv sc 97 14 [l0, l1, l2, l3] [.int z1, .int z0, .ref a] (zst p iv) Q ↔ zEv sc 96 0 [.ref a, .int z0, .int z1, .null, .null, .null, .null, .null] [] (zst p iv) (fun r h9 => zEv sc 97 17 [l0, l1, l2, l3] (r.toList ++ []) h9 Q) := zE_call (kd := 0) (na := 3) (nr := 0) (as := [.ref a, .int z0, .int z1]) (rest := []) (Or.inl ⟨rfl, rfl⟩) dz97_14 (by decide +kernel : z_lk2 zCT (z_cls 97) 47 = some (96, 0, 784)) (fun z => by cases z) rfl rfl rfl (by decide +kernel) rfl (Or.inr (zE_rc ho))
theorem dz97_17 : decode (z_code 97) 17 = .ok (.ifCond .eq 19, 3) := by decide +kernel
theorem u97_17 : zEv sc 97 17 [l0, l1, l2, l3] [.int x] h Q ↔ (if x = 0 then zEv sc 97 36 [l0, l1, l2, l3] [] h Q else zEv sc 97 20 [l0, l1, l2, l3] [] h Q) := zE_ifP (P := x = 0) inferInstance 36 dz97_17 rfl rfl
theorem dz97_20 : decode (z_code 97) 20 = .ok (.aload_n 0, 1) := by decide +kernel
theorem u97_20 : zEv sc 97 20 [.ref a, l1, l2, l3] [] h Q ↔ zEv sc 97 21 [.ref a, l1, l2, l3] [.ref a] h Q := zE_pure (q := (21, [.ref a, l1, l2, l3], [.ref a])) dz97_20 rfl rfl rfl
theorem dz97_21 : decode (z_code 97) 21 = .ok (.getfield 22, 3) := by decide +kernel
theorem u97_21 (ho : zO a 10) : zEv sc 97 21 [l0, l1, l2, l3] [.ref a] (zst p iv) Q ↔ zRef (zRV p a 6) (fun j => zEv sc 97 24 [l0, l1, l2, l3] [.ref j] (zst p iv) Q) := zE_gfR dz97_21 (by decide +kernel : z_lk3 zFT (z_cls 97) 22 = some (10, 6, 0, 683)) (by decide +kernel) ho
theorem dz97_24 : decode (z_code 97) 24 = .ok (.sipush 170, 3) := by decide +kernel
theorem u97_24 : zEv sc 97 24 [l0, l1, l2, l3] [t0] h Q ↔ zEv sc 97 27 [l0, l1, l2, l3] [.int 170, t0] h Q := zE_sipush dz97_24 (by decide +kernel)
theorem dz97_27 : decode (z_code 97) 27 = .ok (.iload_n 1, 1) := by decide +kernel
theorem u97_27 : zEv sc 97 27 [l0, .int x, l2, l3] [t0, t1] h Q ↔ zEv sc 97 28 [l0, .int x, l2, l3] [.int x, t0, t1] h Q := zE_pure (q := (28, [l0, .int x, l2, l3], [.int x, t0, t1])) dz97_27 rfl rfl rfl
theorem dz97_28 : decode (z_code 97) 28 = .ok (.imul, 1) := by decide +kernel
theorem u97_28 : zEv sc 97 28 [l0, l1, l2, l3] [.int x2, .int x1, t0] h Q ↔ zEv sc 97 29 [l0, l1, l2, l3] [.int (x1 * x2), t0] h Q := zE_pure (q := (29, [l0, l1, l2, l3], [.int (x1 * x2), t0])) dz97_28 rfl rfl rfl
theorem dz97_29 : decode (z_code 97) 29 = .ok (.iload_n 2, 1) := by decide +kernel
theorem u97_29 : zEv sc 97 29 [l0, l1, .int x, l3] [t0, t1] h Q ↔ zEv sc 97 30 [l0, l1, .int x, l3] [.int x, t0, t1] h Q := zE_pure (q := (30, [l0, l1, .int x, l3], [.int x, t0, t1])) dz97_29 rfl rfl rfl
theorem dz97_30 : decode (z_code 97) 30 = .ok (.iadd, 1) := by decide +kernel
theorem u97_30 : zEv sc 97 30 [l0, l1, l2, l3] [.int x2, .int x1, t0] h Q ↔ zEv sc 97 31 [l0, l1, l2, l3] [.int (x1 + x2), t0] h Q := zE_pure (q := (31, [l0, l1, l2, l3], [.int (x1 + x2), t0])) dz97_30 rfl rfl rfl
theorem dz97_31 : decode (z_code 97) 31 = .ok (.iload_n 3, 1) := by decide +kernel
theorem u97_31 : zEv sc 97 31 [l0, l1, l2, .int x] [t0, t1] h Q ↔ zEv sc 97 32 [l0, l1, l2, .int x] [.int x, t0, t1] h Q := zE_pure (q := (32, [l0, l1, l2, .int x], [.int x, t0, t1])) dz97_31 rfl rfl rfl
theorem dz97_32 : decode (z_code 97) 32 = .ok (.iastore, 1) := by decide +kernel
theorem u97_32 (ho : zO a 100) : zEv sc 97 32 [l0, l1, l2, l3] [.int x2, .int x1, .ref a] (zst p iv) Q ↔ (vp_in x1 (zLn a) ∧ zEv sc 97 33 [l0, l1, l2, l3] [] (zst p (w2 iv a x1.toNatClampNeg x2)) Q) := zE_ast (Or.inl ⟨rfl, rfl, rfl⟩) dz97_32 ho
theorem dz97_33 : decode (z_code 97) 33 = .ok (.iinc 2 1, 3) := by decide +kernel
theorem u97_33 : zEv sc 97 33 [l0, l1, .int x, l3] [] h Q ↔ zEv sc 97 36 [l0, l1, .int (x + 1), l3] [] h Q := zE_iinc (ls2 := [l0, l1, .int (x + 1), l3]) dz97_33 (by decide +kernel) rfl (by simp) rfl
theorem dz97_36 : decode (z_code 97) 36 = .ok (.iinc 3 1, 3) := by decide +kernel
theorem u97_36 : zEv sc 97 36 [l0, l1, l2, .int x] [] h Q ↔ zEv sc 97 39 [l0, l1, l2, .int (x + 1)] [] h Q := zE_iinc (ls2 := [l0, l1, l2, .int (x + 1)]) dz97_36 (by decide +kernel) rfl (by simp) rfl
theorem dz97_39 : decode (z_code 97) 39 = .ok (.goto (-35), 3) := by decide +kernel
theorem u97_39 : zEv sc 97 39 [l0, l1, l2, l3] [] h Q ↔ zEv sc 97 4 [l0, l1, l2, l3] [] h Q := zE_go 4 dz97_39 rfl
theorem dz97_42 : decode (z_code 97) 42 = .ok (.aload_n 0, 1) := by decide +kernel
theorem u97_42 : zEv sc 97 42 [.ref a, l1, l2, l3] [] h Q ↔ zEv sc 97 43 [.ref a, l1, l2, l3] [.ref a] h Q := zE_pure (q := (43, [.ref a, l1, l2, l3], [.ref a])) dz97_42 rfl rfl rfl
theorem dz97_43 : decode (z_code 97) 43 = .ok (.getfield 25, 3) := by decide +kernel
theorem u97_43 (ho : zO a 10) : zEv sc 97 43 [l0, l1, l2, l3] [.ref a] (zst p iv) Q ↔ zRef (zRV p a 7) (fun j => zEv sc 97 46 [l0, l1, l2, l3] [.ref j] (zst p iv) Q) := zE_gfR dz97_43 (by decide +kernel : z_lk3 zFT (z_cls 97) 25 = some (10, 7, 0, 684)) (by decide +kernel) ho
theorem dz97_46 : decode (z_code 97) 46 = .ok (.iload_n 1, 1) := by decide +kernel
theorem u97_46 : zEv sc 97 46 [l0, .int x, l2, l3] [t0] h Q ↔ zEv sc 97 47 [l0, .int x, l2, l3] [.int x, t0] h Q := zE_pure (q := (47, [l0, .int x, l2, l3], [.int x, t0])) dz97_46 rfl rfl rfl
theorem dz97_47 : decode (z_code 97) 47 = .ok (.iload_n 2, 1) := by decide +kernel
theorem u97_47 : zEv sc 97 47 [l0, l1, .int x, l3] [t0, t1] h Q ↔ zEv sc 97 48 [l0, l1, .int x, l3] [.int x, t0, t1] h Q := zE_pure (q := (48, [l0, l1, .int x, l3], [.int x, t0, t1])) dz97_47 rfl rfl rfl
theorem dz97_48 : decode (z_code 97) 48 = .ok (.iastore, 1) := by decide +kernel
theorem u97_48 (ho : zO a 100) : zEv sc 97 48 [l0, l1, l2, l3] [.int x2, .int x1, .ref a] (zst p iv) Q ↔ (vp_in x1 (zLn a) ∧ zEv sc 97 49 [l0, l1, l2, l3] [] (zst p (w2 iv a x1.toNatClampNeg x2)) Q) := zE_ast (Or.inl ⟨rfl, rfl, rfl⟩) dz97_48 ho
theorem dz97_49 : decode (z_code 97) 49 = .ok (.return_, 1) := by decide +kernel
theorem u97_49 : zEv sc 97 49 [l0, l1, l2, l3] [] h Q ↔ Q none h := zE_rv dz97_49 (by decide +kernel)
/-! method 98: FieldMixturesModel.gain(II)I -/
theorem dz98_0 : decode (z_code 98) 0 = .ok (.iconst 0, 1) := by decide +kernel
theorem u98_0 : zEv sc 98 0 [l0, l1, l2, l3, l4, l5, l6] [] h Q ↔ zEv sc 98 1 [l0, l1, l2, l3, l4, l5, l6] [.int 0] h Q := zE_iconst dz98_0 (by decide +kernel)
theorem dz98_1 : decode (z_code 98) 1 = .ok (.istore_n 3, 1) := by decide +kernel
theorem u98_1 : zEv sc 98 1 [l0, l1, l2, l3, l4, l5, l6] [.int x] h Q ↔ zEv sc 98 2 [l0, l1, l2, .int x, l4, l5, l6] [] h Q := zE_pure (q := (2, [l0, l1, l2, .int x, l4, l5, l6], [])) dz98_1 rfl rfl rfl
theorem dz98_2 : decode (z_code 98) 2 = .ok (.iconst 0, 1) := by decide +kernel
theorem u98_2 : zEv sc 98 2 [l0, l1, l2, l3, l4, l5, l6] [] h Q ↔ zEv sc 98 3 [l0, l1, l2, l3, l4, l5, l6] [.int 0] h Q := zE_iconst dz98_2 (by decide +kernel)
theorem dz98_3 : decode (z_code 98) 3 = .ok (.istore 4, 2) := by decide +kernel
theorem u98_3 : zEv sc 98 3 [l0, l1, l2, l3, l4, l5, l6] [.int x] h Q ↔ zEv sc 98 5 [l0, l1, l2, l3, .int x, l5, l6] [] h Q := zE_pure (q := (5, [l0, l1, l2, l3, .int x, l5, l6], [])) dz98_3 rfl rfl rfl
theorem dz98_5 : decode (z_code 98) 5 = .ok (.iload 4, 2) := by decide +kernel
theorem u98_5 : zEv sc 98 5 [l0, l1, l2, l3, .int x, l5, l6] [] h Q ↔ zEv sc 98 7 [l0, l1, l2, l3, .int x, l5, l6] [.int x] h Q := zE_pure (q := (7, [l0, l1, l2, l3, .int x, l5, l6], [.int x])) dz98_5 rfl rfl rfl
theorem dz98_7 : decode (z_code 98) 7 = .ok (.aload_n 0, 1) := by decide +kernel
theorem u98_7 : zEv sc 98 7 [.ref a, l1, l2, l3, l4, l5, l6] [t0] h Q ↔ zEv sc 98 8 [.ref a, l1, l2, l3, l4, l5, l6] [.ref a, t0] h Q := zE_pure (q := (8, [.ref a, l1, l2, l3, l4, l5, l6], [.ref a, t0])) dz98_7 rfl rfl rfl
theorem dz98_8 : decode (z_code 98) 8 = .ok (.getfield 7, 3) := by decide +kernel
theorem u98_8 (ho : zO a 10) : zEv sc 98 8 [l0, l1, l2, l3, l4, l5, l6] [.ref a, t0] (zst p iv) Q ↔ zRef (zRV p a 0) (fun j => zEv sc 98 11 [l0, l1, l2, l3, l4, l5, l6] [.ref j, t0] (zst p iv) Q) := zE_gfR dz98_8 (by decide +kernel : z_lk3 zFT (z_cls 98) 7 = some (10, 0, 0, 677)) (by decide +kernel) ho
theorem dz98_11 : decode (z_code 98) 11 = .ok (.iconst 0, 1) := by decide +kernel
theorem u98_11 : zEv sc 98 11 [l0, l1, l2, l3, l4, l5, l6] [t0, t1] h Q ↔ zEv sc 98 12 [l0, l1, l2, l3, l4, l5, l6] [.int 0, t0, t1] h Q := zE_iconst dz98_11 (by decide +kernel)
theorem dz98_12 : decode (z_code 98) 12 = .ok (.iaload, 1) := by decide +kernel
theorem u98_12 (ho : zO a 100) : zEv sc 98 12 [l0, l1, l2, l3, l4, l5, l6] [.int x, .ref a, t0] (zst p iv) Q ↔ (vp_in x (zLn a) ∧ zEv sc 98 13 [l0, l1, l2, l3, l4, l5, l6] [.int (iv a x.toNatClampNeg), t0] (zst p iv) Q) := zE_ald (Or.inl ⟨rfl, rfl⟩) dz98_12 ho
theorem dz98_13 : decode (z_code 98) 13 = .ok (.if_icmp .ge 87, 3) := by decide +kernel
theorem u98_13 : zEv sc 98 13 [l0, l1, l2, l3, l4, l5, l6] [.int x2, .int x1] h Q ↔ (if x2 ≤ x1 then zEv sc 98 100 [l0, l1, l2, l3, l4, l5, l6] [] h Q else zEv sc 98 16 [l0, l1, l2, l3, l4, l5, l6] [] h Q) := zE_icP (P := x2 ≤ x1) inferInstance 100 dz98_13 rfl rfl
theorem dz98_16 : decode (z_code 98) 16 = .ok (.aload_n 0, 1) := by decide +kernel
theorem u98_16 : zEv sc 98 16 [.ref a, l1, l2, l3, l4, l5, l6] [] h Q ↔ zEv sc 98 17 [.ref a, l1, l2, l3, l4, l5, l6] [.ref a] h Q := zE_pure (q := (17, [.ref a, l1, l2, l3, l4, l5, l6], [.ref a])) dz98_16 rfl rfl rfl
theorem dz98_17 : decode (z_code 98) 17 = .ok (.iload_n 1, 1) := by decide +kernel
theorem u98_17 : zEv sc 98 17 [l0, .int x, l2, l3, l4, l5, l6] [t0] h Q ↔ zEv sc 98 18 [l0, .int x, l2, l3, l4, l5, l6] [.int x, t0] h Q := zE_pure (q := (18, [l0, .int x, l2, l3, l4, l5, l6], [.int x, t0])) dz98_17 rfl rfl rfl
theorem dz98_18 : decode (z_code 98) 18 = .ok (.iload 4, 2) := by decide +kernel
theorem u98_18 : zEv sc 98 18 [l0, l1, l2, l3, .int x, l5, l6] [t0, t1] h Q ↔ zEv sc 98 20 [l0, l1, l2, l3, .int x, l5, l6] [.int x, t0, t1] h Q := zE_pure (q := (20, [l0, l1, l2, l3, .int x, l5, l6], [.int x, t0, t1])) dz98_18 rfl rfl rfl
theorem dz98_20 : decode (z_code 98) 20 = .ok (.invokevirtual 43, 3) := by decide +kernel
theorem u98_20 (ho : zO a 10) : zEv sc 98 20 [l0, l1, l2, l3, l4, l5, l6] [.int z1, .int z0, .ref a] (zst p iv) Q ↔ zEv sc 95 0 [.ref a, .int z0, .int z1, .null, .null] [] (zst p iv) (fun r h9 => zEv sc 98 23 [l0, l1, l2, l3, l4, l5, l6] (r.toList ++ []) h9 Q) := zE_call (kd := 0) (na := 3) (nr := 0) (as := [.ref a, .int z0, .int z1]) (rest := []) (Or.inl ⟨rfl, rfl⟩) dz98_20 (by decide +kernel : z_lk2 zCT (z_cls 98) 43 = some (95, 0, 788)) (fun z => by cases z) rfl rfl rfl (by decide +kernel) rfl (Or.inr (zE_rc ho))
theorem dz98_23 : decode (z_code 98) 23 = .ok (.aload_n 0, 1) := by decide +kernel
theorem u98_23 : zEv sc 98 23 [.ref a, l1, l2, l3, l4, l5, l6] [t0] h Q ↔ zEv sc 98 24 [.ref a, l1, l2, l3, l4, l5, l6] [.ref a, t0] h Q := zE_pure (q := (24, [.ref a, l1, l2, l3, l4, l5, l6], [.ref a, t0])) dz98_23 rfl rfl rfl
theorem dz98_24 : decode (z_code 98) 24 = .ok (.iload_n 2, 1) := by decide +kernel
theorem u98_24 : zEv sc 98 24 [l0, l1, .int x, l3, l4, l5, l6] [t0, t1] h Q ↔ zEv sc 98 25 [l0, l1, .int x, l3, l4, l5, l6] [.int x, t0, t1] h Q := zE_pure (q := (25, [l0, l1, .int x, l3, l4, l5, l6], [.int x, t0, t1])) dz98_24 rfl rfl rfl
theorem dz98_25 : decode (z_code 98) 25 = .ok (.iload 4, 2) := by decide +kernel
theorem u98_25 : zEv sc 98 25 [l0, l1, l2, l3, .int x, l5, l6] [t0, t1, t2] h Q ↔ zEv sc 98 27 [l0, l1, l2, l3, .int x, l5, l6] [.int x, t0, t1, t2] h Q := zE_pure (q := (27, [l0, l1, l2, l3, .int x, l5, l6], [.int x, t0, t1, t2])) dz98_25 rfl rfl rfl
theorem dz98_27 : decode (z_code 98) 27 = .ok (.invokevirtual 43, 3) := by decide +kernel
theorem u98_27 (ho : zO a 10) : zEv sc 98 27 [l0, l1, l2, l3, l4, l5, l6] [.int z1, .int z0, .ref a, t0] (zst p iv) Q ↔ zEv sc 95 0 [.ref a, .int z0, .int z1, .null, .null] [] (zst p iv) (fun r h9 => zEv sc 98 30 [l0, l1, l2, l3, l4, l5, l6] (r.toList ++ [t0]) h9 Q) := zE_call (kd := 0) (na := 3) (nr := 1) (as := [.ref a, .int z0, .int z1]) (rest := [t0]) (Or.inl ⟨rfl, rfl⟩) dz98_27 (by decide +kernel : z_lk2 zCT (z_cls 98) 43 = some (95, 0, 788)) (fun z => by cases z) rfl rfl rfl (by decide +kernel) rfl (Or.inr (zE_rc ho))
theorem dz98_30 : decode (z_code 98) 30 = .ok (.isub, 1) := by decide +kernel
theorem u98_30 : zEv sc 98 30 [l0, l1, l2, l3, l4, l5, l6] [.int x2, .int x1] h Q ↔ zEv sc 98 31 [l0, l1, l2, l3, l4, l5, l6] [.int (x1 - x2)] h Q := zE_pure (q := (31, [l0, l1, l2, l3, l4, l5, l6], [.int (x1 - x2)])) dz98_30 rfl rfl rfl
theorem dz98_31 : decode (z_code 98) 31 = .ok (.istore 5, 2) := by decide +kernel
theorem u98_31 : zEv sc 98 31 [l0, l1, l2, l3, l4, l5, l6] [.int x] h Q ↔ zEv sc 98 33 [l0, l1, l2, l3, l4, .int x, l6] [] h Q := zE_pure (q := (33, [l0, l1, l2, l3, l4, .int x, l6], [])) dz98_31 rfl rfl rfl
theorem dz98_33 : decode (z_code 98) 33 = .ok (.iload 5, 2) := by decide +kernel
theorem u98_33 : zEv sc 98 33 [l0, l1, l2, l3, l4, .int x, l6] [] h Q ↔ zEv sc 98 35 [l0, l1, l2, l3, l4, .int x, l6] [.int x] h Q := zE_pure (q := (35, [l0, l1, l2, l3, l4, .int x, l6], [.int x])) dz98_33 rfl rfl rfl
theorem dz98_35 : decode (z_code 98) 35 = .ok (.ifCond .gt 18, 3) := by decide +kernel
theorem u98_35 : zEv sc 98 35 [l0, l1, l2, l3, l4, l5, l6] [.int x] h Q ↔ (if 0 < x then zEv sc 98 53 [l0, l1, l2, l3, l4, l5, l6] [] h Q else zEv sc 98 38 [l0, l1, l2, l3, l4, l5, l6] [] h Q) := zE_ifP (P := 0 < x) inferInstance 53 dz98_35 rfl rfl
theorem dz98_38 : decode (z_code 98) 38 = .ok (.iload 5, 2) := by decide +kernel
theorem u98_38 : zEv sc 98 38 [l0, l1, l2, l3, l4, .int x, l6] [] h Q ↔ zEv sc 98 40 [l0, l1, l2, l3, l4, .int x, l6] [.int x] h Q := zE_pure (q := (40, [l0, l1, l2, l3, l4, .int x, l6], [.int x])) dz98_38 rfl rfl rfl
theorem dz98_40 : decode (z_code 98) 40 = .ok (.ifCond .ne 17, 3) := by decide +kernel
theorem u98_40 : zEv sc 98 40 [l0, l1, l2, l3, l4, l5, l6] [.int x] h Q ↔ (if ¬ x = 0 then zEv sc 98 57 [l0, l1, l2, l3, l4, l5, l6] [] h Q else zEv sc 98 43 [l0, l1, l2, l3, l4, l5, l6] [] h Q) := zE_ifP (P := ¬ x = 0) inferInstance 57 dz98_40 rfl rfl
theorem dz98_43 : decode (z_code 98) 43 = .ok (.aload_n 0, 1) := by decide +kernel
theorem u98_43 : zEv sc 98 43 [.ref a, l1, l2, l3, l4, l5, l6] [] h Q ↔ zEv sc 98 44 [.ref a, l1, l2, l3, l4, l5, l6] [.ref a] h Q := zE_pure (q := (44, [.ref a, l1, l2, l3, l4, l5, l6], [.ref a])) dz98_43 rfl rfl rfl
theorem dz98_44 : decode (z_code 98) 44 = .ok (.getfield 7, 3) := by decide +kernel
theorem u98_44 (ho : zO a 10) : zEv sc 98 44 [l0, l1, l2, l3, l4, l5, l6] [.ref a] (zst p iv) Q ↔ zRef (zRV p a 0) (fun j => zEv sc 98 47 [l0, l1, l2, l3, l4, l5, l6] [.ref j] (zst p iv) Q) := zE_gfR dz98_44 (by decide +kernel : z_lk3 zFT (z_cls 98) 7 = some (10, 0, 0, 677)) (by decide +kernel) ho
theorem dz98_47 : decode (z_code 98) 47 = .ok (.iconst 1, 1) := by decide +kernel
theorem u98_47 : zEv sc 98 47 [l0, l1, l2, l3, l4, l5, l6] [t0] h Q ↔ zEv sc 98 48 [l0, l1, l2, l3, l4, l5, l6] [.int 1, t0] h Q := zE_iconst dz98_47 (by decide +kernel)
theorem dz98_48 : decode (z_code 98) 48 = .ok (.iaload, 1) := by decide +kernel
theorem u98_48 (ho : zO a 100) : zEv sc 98 48 [l0, l1, l2, l3, l4, l5, l6] [.int x, .ref a] (zst p iv) Q ↔ (vp_in x (zLn a) ∧ zEv sc 98 49 [l0, l1, l2, l3, l4, l5, l6] [.int (iv a x.toNatClampNeg)] (zst p iv) Q) := zE_ald (Or.inl ⟨rfl, rfl⟩) dz98_48 ho
theorem dz98_49 : decode (z_code 98) 49 = .ok (.iconst 1, 1) := by decide +kernel
theorem u98_49 : zEv sc 98 49 [l0, l1, l2, l3, l4, l5, l6] [t0] h Q ↔ zEv sc 98 50 [l0, l1, l2, l3, l4, l5, l6] [.int 1, t0] h Q := zE_iconst dz98_49 (by decide +kernel)
theorem dz98_50 : decode (z_code 98) 50 = .ok (.if_icmp .ne 7, 3) := by decide +kernel
theorem u98_50 : zEv sc 98 50 [l0, l1, l2, l3, l4, l5, l6] [.int x2, .int x1] h Q ↔ (if ¬ x1 = x2 then zEv sc 98 57 [l0, l1, l2, l3, l4, l5, l6] [] h Q else zEv sc 98 53 [l0, l1, l2, l3, l4, l5, l6] [] h Q) := zE_icP (P := ¬ x1 = x2) inferInstance 57 dz98_50 rfl rfl
theorem dz98_57 : decode (z_code 98) 57 = .ok (.iload 5, 2) := by decide +kernel
theorem u98_57 : zEv sc 98 57 [l0, l1, l2, l3, l4, .int x, l6] [] h Q ↔ zEv sc 98 59 [l0, l1, l2, l3, l4, .int x, l6] [.int x] h Q := zE_pure (q := (59, [l0, l1, l2, l3, l4, .int x, l6], [.int x])) dz98_57 rfl rfl rfl
theorem dz98_59 : decode (z_code 98) 59 = .ok (.ifCond .lt 13, 3) := by decide +kernel
theorem u98_59 : zEv sc 98 59 [l0, l1, l2, l3, l4, l5, l6] [.int x] h Q ↔ (if x < 0 then zEv sc 98 72 [l0, l1, l2, l3, l4, l5, l6] [] h Q else zEv sc 98 62 [l0, l1, l2, l3, l4, l5, l6] [] h Q) := zE_ifP (P := x < 0) inferInstance 72 dz98_59 rfl rfl
theorem dz98_62 : decode (z_code 98) 62 = .ok (.aload_n 0, 1) := by decide +kernel
theorem u98_62 : zEv sc 98 62 [.ref a, l1, l2, l3, l4, l5, l6] [] h Q ↔ zEv sc 98 63 [.ref a, l1, l2, l3, l4, l5, l6] [.ref a] h Q := zE_pure (q := (63, [.ref a, l1, l2, l3, l4, l5, l6], [.ref a])) dz98_62 rfl rfl rfl
theorem dz98_63 : decode (z_code 98) 63 = .ok (.getfield 7, 3) := by decide +kernel
theorem u98_63 (ho : zO a 10) : zEv sc 98 63 [l0, l1, l2, l3, l4, l5, l6] [.ref a] (zst p iv) Q ↔ zRef (zRV p a 0) (fun j => zEv sc 98 66 [l0, l1, l2, l3, l4, l5, l6] [.ref j] (zst p iv) Q) := zE_gfR dz98_63 (by decide +kernel : z_lk3 zFT (z_cls 98) 7 = some (10, 0, 0, 677)) (by decide +kernel) ho
theorem dz98_66 : decode (z_code 98) 66 = .ok (.iconst 1, 1) := by decide +kernel
theorem u98_66 : zEv sc 98 66 [l0, l1, l2, l3, l4, l5, l6] [t0] h Q ↔ zEv sc 98 67 [l0, l1, l2, l3, l4, l5, l6] [.int 1, t0] h Q := zE_iconst dz98_66 (by decide +kernel)
theorem dz98_67 : decode (z_code 98) 67 = .ok (.iaload, 1) := by decide +kernel
theorem u98_67 (ho : zO a 100) : zEv sc 98 67 [l0, l1, l2, l3, l4, l5, l6] [.int x, .ref a] (zst p iv) Q ↔ (vp_in x (zLn a) ∧ zEv sc 98 68 [l0, l1, l2, l3, l4, l5, l6] [.int (iv a x.toNatClampNeg)] (zst p iv) Q) := zE_ald (Or.inl ⟨rfl, rfl⟩) dz98_67 ho
theorem dz98_68 : decode (z_code 98) 68 = .ok (.iconst 2, 1) := by decide +kernel
theorem u98_68 : zEv sc 98 68 [l0, l1, l2, l3, l4, l5, l6] [t0] h Q ↔ zEv sc 98 69 [l0, l1, l2, l3, l4, l5, l6] [.int 2, t0] h Q := zE_iconst dz98_68 (by decide +kernel)
theorem dz98_69 : decode (z_code 98) 69 = .ok (.if_icmp .ne 7, 3) := by decide +kernel
theorem u98_69 : zEv sc 98 69 [l0, l1, l2, l3, l4, l5, l6] [.int x2, .int x1] h Q ↔ (if ¬ x1 = x2 then zEv sc 98 76 [l0, l1, l2, l3, l4, l5, l6] [] h Q else zEv sc 98 72 [l0, l1, l2, l3, l4, l5, l6] [] h Q) := zE_icP (P := ¬ x1 = x2) inferInstance 76 dz98_69 rfl rfl
theorem dz98_76 : decode (z_code 98) 76 = .ok (.iconst 0, 1) := by decide +kernel
theorem u98_76 : zEv sc 98 76 [l0, l1, l2, l3, l4, l5, l6] [] h Q ↔ zEv sc 98 77 [l0, l1, l2, l3, l4, l5, l6] [.int 0] h Q := zE_iconst dz98_76 (by decide +kernel)
theorem dz98_77 : decode (z_code 98) 77 = .ok (.istore 6, 2) := by decide +kernel
theorem u98_77 : zEv sc 98 77 [l0, l1, l2, l3, l4, l5, l6] [.int x] h Q ↔ zEv sc 98 79 [l0, l1, l2, l3, l4, l5, .int x] [] h Q := zE_pure (q := (79, [l0, l1, l2, l3, l4, l5, .int x], [])) dz98_77 rfl rfl rfl
theorem dz98_79 : decode (z_code 98) 79 = .ok (.iload_n 3, 1) := by decide +kernel
theorem u98_79 : zEv sc 98 79 [l0, l1, l2, .int x, l4, l5, l6] [] h Q ↔ zEv sc 98 80 [l0, l1, l2, .int x, l4, l5, l6] [.int x] h Q := zE_pure (q := (80, [l0, l1, l2, .int x, l4, l5, l6], [.int x])) dz98_79 rfl rfl rfl
theorem dz98_80 : decode (z_code 98) 80 = .ok (.iload 6, 2) := by decide +kernel
theorem u98_80 : zEv sc 98 80 [l0, l1, l2, l3, l4, l5, .int x] [t0] h Q ↔ zEv sc 98 82 [l0, l1, l2, l3, l4, l5, .int x] [.int x, t0] h Q := zE_pure (q := (82, [l0, l1, l2, l3, l4, l5, .int x], [.int x, t0])) dz98_80 rfl rfl rfl
theorem dz98_82 : decode (z_code 98) 82 = .ok (.aload_n 0, 1) := by decide +kernel
theorem u98_82 : zEv sc 98 82 [.ref a, l1, l2, l3, l4, l5, l6] [t0, t1] h Q ↔ zEv sc 98 83 [.ref a, l1, l2, l3, l4, l5, l6] [.ref a, t0, t1] h Q := zE_pure (q := (83, [.ref a, l1, l2, l3, l4, l5, l6], [.ref a, t0, t1])) dz98_82 rfl rfl rfl
theorem dz98_83 : decode (z_code 98) 83 = .ok (.getfield 7, 3) := by decide +kernel
theorem u98_83 (ho : zO a 10) : zEv sc 98 83 [l0, l1, l2, l3, l4, l5, l6] [.ref a, t0, t1] (zst p iv) Q ↔ zRef (zRV p a 0) (fun j => zEv sc 98 86 [l0, l1, l2, l3, l4, l5, l6] [.ref j, t0, t1] (zst p iv) Q) := zE_gfR dz98_83 (by decide +kernel : z_lk3 zFT (z_cls 98) 7 = some (10, 0, 0, 677)) (by decide +kernel) ho
theorem dz98_86 : decode (z_code 98) 86 = .ok (.iconst 2, 1) := by decide +kernel
theorem u98_86 : zEv sc 98 86 [l0, l1, l2, l3, l4, l5, l6] [t0, t1, t2] h Q ↔ zEv sc 98 87 [l0, l1, l2, l3, l4, l5, l6] [.int 2, t0, t1, t2] h Q := zE_iconst dz98_86 (by decide +kernel)
theorem dz98_87 : decode (z_code 98) 87 = .ok (.iload 4, 2) := by decide +kernel
theorem u98_87 : zEv sc 98 87 [l0, l1, l2, l3, .int x, l5, l6] [t0, t1, t2, t3] h Q ↔ zEv sc 98 89 [l0, l1, l2, l3, .int x, l5, l6] [.int x, t0, t1, t2, t3] h Q := zE_pure (q := (89, [l0, l1, l2, l3, .int x, l5, l6], [.int x, t0, t1, t2, t3])) dz98_87 rfl rfl rfl
theorem dz98_89 : decode (z_code 98) 89 = .ok (.iadd, 1) := by decide +kernel
theorem u98_89 : zEv sc 98 89 [l0, l1, l2, l3, l4, l5, l6] [.int x2, .int x1, t0, t1, t2] h Q ↔ zEv sc 98 90 [l0, l1, l2, l3, l4, l5, l6] [.int (x1 + x2), t0, t1, t2] h Q := zE_pure (q := (90, [l0, l1, l2, l3, l4, l5, l6], [.int (x1 + x2), t0, t1, t2])) dz98_89 rfl rfl rfl
theorem dz98_90 : decode (z_code 98) 90 = .ok (.iaload, 1) := by decide +kernel
theorem u98_90 (ho : zO a 100) : zEv sc 98 90 [l0, l1, l2, l3, l4, l5, l6] [.int x, .ref a, t0, t1] (zst p iv) Q ↔ (vp_in x (zLn a) ∧ zEv sc 98 91 [l0, l1, l2, l3, l4, l5, l6] [.int (iv a x.toNatClampNeg), t0, t1] (zst p iv) Q) := zE_ald (Or.inl ⟨rfl, rfl⟩) dz98_90 ho
theorem dz98_91 : decode (z_code 98) 91 = .ok (.imul, 1) := by decide +kernel
theorem u98_91 : zEv sc 98 91 [l0, l1, l2, l3, l4, l5, l6] [.int x2, .int x1, t0] h Q ↔ zEv sc 98 92 [l0, l1, l2, l3, l4, l5, l6] [.int (x1 * x2), t0] h Q := zE_pure (q := (92, [l0, l1, l2, l3, l4, l5, l6], [.int (x1 * x2), t0])) dz98_91 rfl rfl rfl
theorem dz98_92 : decode (z_code 98) 92 = .ok (.iadd, 1) := by decide +kernel
theorem u98_92 : zEv sc 98 92 [l0, l1, l2, l3, l4, l5, l6] [.int x2, .int x1] h Q ↔ zEv sc 98 93 [l0, l1, l2, l3, l4, l5, l6] [.int (x1 + x2)] h Q := zE_pure (q := (93, [l0, l1, l2, l3, l4, l5, l6], [.int (x1 + x2)])) dz98_92 rfl rfl rfl
theorem dz98_93 : decode (z_code 98) 93 = .ok (.istore_n 3, 1) := by decide +kernel
theorem u98_93 : zEv sc 98 93 [l0, l1, l2, l3, l4, l5, l6] [.int x] h Q ↔ zEv sc 98 94 [l0, l1, l2, .int x, l4, l5, l6] [] h Q := zE_pure (q := (94, [l0, l1, l2, .int x, l4, l5, l6], [])) dz98_93 rfl rfl rfl
theorem dz98_94 : decode (z_code 98) 94 = .ok (.iinc 4 1, 3) := by decide +kernel
theorem u98_94 : zEv sc 98 94 [l0, l1, l2, l3, .int x, l5, l6] [] h Q ↔ zEv sc 98 97 [l0, l1, l2, l3, .int (x + 1), l5, l6] [] h Q := zE_iinc (ls2 := [l0, l1, l2, l3, .int (x + 1), l5, l6]) dz98_94 (by decide +kernel) rfl (by simp) rfl
theorem dz98_97 : decode (z_code 98) 97 = .ok (.goto (-92), 3) := by decide +kernel
theorem u98_97 : zEv sc 98 97 [l0, l1, l2, l3, l4, l5, l6] [] h Q ↔ zEv sc 98 5 [l0, l1, l2, l3, l4, l5, l6] [] h Q := zE_go 5 dz98_97 rfl
theorem dz98_72 : decode (z_code 98) 72 = .ok (.iconst (-1), 1) := by decide +kernel
theorem u98_72 : zEv sc 98 72 [l0, l1, l2, l3, l4, l5, l6] [] h Q ↔ zEv sc 98 73 [l0, l1, l2, l3, l4, l5, l6] [.int (-1)] h Q := zE_iconst dz98_72 (by decide +kernel)
theorem dz98_73 : decode (z_code 98) 73 = .ok (.goto 4, 3) := by decide +kernel
theorem u98_73 : zEv sc 98 73 [l0, l1, l2, l3, l4, l5, l6] [t0] h Q ↔ zEv sc 98 77 [l0, l1, l2, l3, l4, l5, l6] [t0] h Q := zE_go 77 dz98_73 rfl
theorem dz98_53 : decode (z_code 98) 53 = .ok (.iconst 1, 1) := by decide +kernel
theorem u98_53 : zEv sc 98 53 [l0, l1, l2, l3, l4, l5, l6] [] h Q ↔ zEv sc 98 54 [l0, l1, l2, l3, l4, l5, l6] [.int 1] h Q := zE_iconst dz98_53 (by decide +kernel)
theorem dz98_54 : decode (z_code 98) 54 = .ok (.goto 23, 3) := by decide +kernel
theorem u98_54 : zEv sc 98 54 [l0, l1, l2, l3, l4, l5, l6] [t0] h Q ↔ zEv sc 98 77 [l0, l1, l2, l3, l4, l5, l6] [t0] h Q := zE_go 77 dz98_54 rfl
theorem dz98_100 : decode (z_code 98) 100 = .ok (.iload_n 3, 1) := by decide +kernel
theorem u98_100 : zEv sc 98 100 [l0, l1, l2, .int x, l4, l5, l6] [] h Q ↔ zEv sc 98 101 [l0, l1, l2, .int x, l4, l5, l6] [.int x] h Q := zE_pure (q := (101, [l0, l1, l2, .int x, l4, l5, l6], [.int x])) dz98_100 rfl rfl rfl
theorem dz98_101 : decode (z_code 98) 101 = .ok (.ireturn, 1) := by decide +kernel
theorem u98_101 : zEv sc 98 101 [l0, l1, l2, l3, l4, l5, l6] [.int x] h Q ↔ Q (some (.int x)) h := zE_ri dz98_101 (by decide +kernel)
/-! method 99: FieldMixturesModel.gainOf(III)I -/
theorem dz99_0 : decode (z_code 99) 0 = .ok (.iload_n 1, 1) := by decide +kernel
theorem u99_0 : zEv sc 99 0 [l0, .int x, l2, l3] [] h Q ↔ zEv sc 99 1 [l0, .int x, l2, l3] [.int x] h Q := zE_pure (q := (1, [l0, .int x, l2, l3], [.int x])) dz99_0 rfl rfl rfl
theorem dz99_1 : decode (z_code 99) 1 = .ok (.ifCond .ne 12, 3) := by decide +kernel
theorem u99_1 : zEv sc 99 1 [l0, l1, l2, l3] [.int x] h Q ↔ (if ¬ x = 0 then zEv sc 99 13 [l0, l1, l2, l3] [] h Q else zEv sc 99 4 [l0, l1, l2, l3] [] h Q) := zE_ifP (P := ¬ x = 0) inferInstance 13 dz99_1 rfl rfl
theorem dz99_4 : decode (z_code 99) 4 = .ok (.aload_n 0, 1) := by decide +kernel
theorem u99_4 : zEv sc 99 4 [.ref a, l1, l2, l3] [] h Q ↔ zEv sc 99 5 [.ref a, l1, l2, l3] [.ref a] h Q := zE_pure (q := (5, [.ref a, l1, l2, l3], [.ref a])) dz99_4 rfl rfl rfl
theorem dz99_5 : decode (z_code 99) 5 = .ok (.iload_n 2, 1) := by decide +kernel
theorem u99_5 : zEv sc 99 5 [l0, l1, .int x, l3] [t0] h Q ↔ zEv sc 99 6 [l0, l1, .int x, l3] [.int x, t0] h Q := zE_pure (q := (6, [l0, l1, .int x, l3], [.int x, t0])) dz99_5 rfl rfl rfl
theorem dz99_6 : decode (z_code 99) 6 = .ok (.iload_n 3, 1) := by decide +kernel
theorem u99_6 : zEv sc 99 6 [l0, l1, l2, .int x] [t0, t1] h Q ↔ zEv sc 99 7 [l0, l1, l2, .int x] [.int x, t0, t1] h Q := zE_pure (q := (7, [l0, l1, l2, .int x], [.int x, t0, t1])) dz99_6 rfl rfl rfl
theorem dz99_7 : decode (z_code 99) 7 = .ok (.invokevirtual 51, 3) := by decide +kernel
theorem u99_7 (ho : zO a 10) : zEv sc 99 7 [l0, l1, l2, l3] [.int z1, .int z0, .ref a] (zst p iv) Q ↔ zEv sc 98 0 [.ref a, .int z0, .int z1, .null, .null, .null, .null] [] (zst p iv) (fun r h9 => zEv sc 99 10 [l0, l1, l2, l3] (r.toList ++ []) h9 Q) := zE_call (kd := 0) (na := 3) (nr := 0) (as := [.ref a, .int z0, .int z1]) (rest := []) (Or.inl ⟨rfl, rfl⟩) dz99_7 (by decide +kernel : z_lk2 zCT (z_cls 99) 51 = some (98, 0, 858)) (fun z => by cases z) rfl rfl rfl (by decide +kernel) rfl (Or.inr (zE_rc ho))
theorem dz99_10 : decode (z_code 99) 10 = .ok (.goto 10, 3) := by decide +kernel
theorem u99_10 : zEv sc 99 10 [l0, l1, l2, l3] [t0] h Q ↔ zEv sc 99 20 [l0, l1, l2, l3] [t0] h Q := zE_go 20 dz99_10 rfl
theorem dz99_20 : decode (z_code 99) 20 = .ok (.ireturn, 1) := by decide +kernel
theorem u99_20 : zEv sc 99 20 [l0, l1, l2, l3] [.int x] h Q ↔ Q (some (.int x)) h := zE_ri dz99_20 (by decide +kernel)
theorem dz99_13 : decode (z_code 99) 13 = .ok (.aload_n 0, 1) := by decide +kernel
theorem u99_13 : zEv sc 99 13 [.ref a, l1, l2, l3] [] h Q ↔ zEv sc 99 14 [.ref a, l1, l2, l3] [.ref a] h Q := zE_pure (q := (14, [.ref a, l1, l2, l3], [.ref a])) dz99_13 rfl rfl rfl
theorem dz99_14 : decode (z_code 99) 14 = .ok (.iload_n 3, 1) := by decide +kernel
theorem u99_14 : zEv sc 99 14 [l0, l1, l2, .int x] [t0] h Q ↔ zEv sc 99 15 [l0, l1, l2, .int x] [.int x, t0] h Q := zE_pure (q := (15, [l0, l1, l2, .int x], [.int x, t0])) dz99_14 rfl rfl rfl
theorem dz99_15 : decode (z_code 99) 15 = .ok (.iload_n 2, 1) := by decide +kernel
theorem u99_15 : zEv sc 99 15 [l0, l1, .int x, l3] [t0, t1] h Q ↔ zEv sc 99 16 [l0, l1, .int x, l3] [.int x, t0, t1] h Q := zE_pure (q := (16, [l0, l1, .int x, l3], [.int x, t0, t1])) dz99_15 rfl rfl rfl
theorem dz99_16 : decode (z_code 99) 16 = .ok (.invokevirtual 51, 3) := by decide +kernel
theorem u99_16 (ho : zO a 10) : zEv sc 99 16 [l0, l1, l2, l3] [.int z1, .int z0, .ref a] (zst p iv) Q ↔ zEv sc 98 0 [.ref a, .int z0, .int z1, .null, .null, .null, .null] [] (zst p iv) (fun r h9 => zEv sc 99 19 [l0, l1, l2, l3] (r.toList ++ []) h9 Q) := zE_call (kd := 0) (na := 3) (nr := 0) (as := [.ref a, .int z0, .int z1]) (rest := []) (Or.inl ⟨rfl, rfl⟩) dz99_16 (by decide +kernel : z_lk2 zCT (z_cls 99) 51 = some (98, 0, 858)) (fun z => by cases z) rfl rfl rfl (by decide +kernel) rfl (Or.inr (zE_rc ho))
theorem dz99_19 : decode (z_code 99) 19 = .ok (.ineg, 1) := by decide +kernel
theorem u99_19 : zEv sc 99 19 [l0, l1, l2, l3] [.int x] h Q ↔ zEv sc 99 20 [l0, l1, l2, l3] [.int (-x)] h Q := zE_pure (q := (20, [l0, l1, l2, l3], [.int (-x)])) dz99_19 rfl rfl rfl
/-! method 100: FieldMixturesModel.mixedAt(I)I -/
theorem dz100_0 : decode (z_code 100) 0 = .ok (.bipush 16, 2) := by decide +kernel
theorem u100_0 : zEv sc 100 0 [l0] [] h Q ↔ zEv sc 100 2 [l0] [.int 16] h Q := zE_bipush dz100_0 (by decide +kernel)
theorem dz100_2 : decode (z_code 100) 2 = .ok (.bipush 25, 2) := by decide +kernel
theorem u100_2 : zEv sc 100 2 [l0] [t0] h Q ↔ zEv sc 100 4 [l0] [.int 25, t0] h Q := zE_bipush dz100_2 (by decide +kernel)
theorem dz100_4 : decode (z_code 100) 4 = .ok (.iload_n 0, 1) := by decide +kernel
theorem u100_4 : zEv sc 100 4 [.int x] [t0, t1] h Q ↔ zEv sc 100 5 [.int x] [.int x, t0, t1] h Q := zE_pure (q := (5, [.int x], [.int x, t0, t1])) dz100_4 rfl rfl rfl
theorem dz100_5 : decode (z_code 100) 5 = .ok (.imul, 1) := by decide +kernel
theorem u100_5 : zEv sc 100 5 [l0] [.int x2, .int x1, t0] h Q ↔ zEv sc 100 6 [l0] [.int (x1 * x2), t0] h Q := zE_pure (q := (6, [l0], [.int (x1 * x2), t0])) dz100_5 rfl rfl rfl
theorem dz100_6 : decode (z_code 100) 6 = .ok (.iadd, 1) := by decide +kernel
theorem u100_6 : zEv sc 100 6 [l0] [.int x2, .int x1] h Q ↔ zEv sc 100 7 [l0] [.int (x1 + x2)] h Q := zE_pure (q := (7, [l0], [.int (x1 + x2)])) dz100_6 rfl rfl rfl
theorem dz100_7 : decode (z_code 100) 7 = .ok (.ireturn, 1) := by decide +kernel
theorem u100_7 : zEv sc 100 7 [l0] [.int x] h Q ↔ Q (some (.int x)) h := zE_ri dz100_7 (by decide +kernel)
end ZU2
